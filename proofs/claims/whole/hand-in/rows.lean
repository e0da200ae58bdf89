section
theorem pk_us {f : Nat → Int32} {k : Nat} {x : Int32} : upd f k x k = x := if_pos rfl
theorem pk_un {f : Nat → Int32} {k j : Nat} {x : Int32} (h : j ≠ k) : upd f k x j = f j := if_neg h
theorem pk_sub {a b : Nat} (h : b ≤ a) : nI a - nI b = nI (a - b) := by
  obtain ⟨c, rfl⟩ : ∃ c, a = c + b := ⟨a - b, by omega⟩
  rw [← nI_add, Int32.add_sub_cancel, Nat.add_sub_cancel]
theorem pk_m1 (n : Nat) : nI (n + 1) + (-1) = nI n := by
  rw [← nI_1, Int32.add_assoc, show (1 : Int32) + (-1) = 0 from rfl, Int32.add_zero]
theorem pk_ix (x : Int32) {n : Nat} (hn : n < 2 ^ 31) : x < 0 ∨ nI n ≤ x ∨ ∃ j : Nat, j < n ∧ x = nI j := by
  by_cases h : x < 0
  · exact Or.inl h
  · obtain ⟨j, hj, rfl⟩ := nI_of h
    by_cases h2 : j < n
    · exact Or.inr (Or.inr ⟨j, h2, rfl⟩)
    · exact Or.inr (Or.inl (nI_le (by omega) hj))
theorem pk_le {x y : Int32} {A B : Prop} (a b : Nat) (f : a ≤ b → A) (g : b < a → B) (hx : x = nI a := by rfl) (hy : y = nI b := by rfl) (ha : a < 2 ^ 31 := by omega) (hb : b < 2 ^ 31 := by omega) : (x ≤ y → A) ∧ (¬ x ≤ y → B) := by
  subst hx hy
  rw [nI_leI ha hb]
  exact ⟨f, fun z => g (by omega)⟩
theorem pk_lt {x y : Int32} {A B : Prop} (a b : Nat) (f : a < b → A) (g : b ≤ a → B) (hx : x = nI a := by rfl) (hy : y = nI b := by rfl) (ha : a < 2 ^ 31 := by omega) (hb : b < 2 ^ 31 := by omega) : (x < y → A) ∧ (¬ x < y → B) := by
  subst hx hy
  rw [nI_ltI ha hb]
  exact ⟨f, fun z => g (by omega)⟩
theorem pk_eq {x y : Int32} {A B : Prop} (a b : Nat) (f : a = b → A) (g : a ≠ b → B) (hx : x = nI a := by rfl) (hy : y = nI b := by rfl) (ha : a < 2 ^ 31 := by omega) (hb : b < 2 ^ 31 := by omega) : (x = y → A) ∧ (¬ x = y → B) := by
  subst hx hy
  rw [nI_eq ha hb]
  exact ⟨f, g⟩
theorem pk_in {x : Int32} (n N : Nat) (h : n < N) (hx : x = nI n := by rfl) (hN : N < 2 ^ 31 := by omega) : vp_in x N := by
  subst hx
  exact vp_in_nI h hN
theorem pk_cl {x : Int32} (n : Nat) (hx : x = nI n := by rfl) (h : n < 2 ^ 31 := by omega) : x.toNatClampNeg = n := by
  subst hx
  exact nI_clamp h
theorem pk_tn {n : Nat} (h : n < 2 ^ 32) : (nI n).toBitVec.toNat = n := Nat.mod_eq_of_lt h
theorem pk_and (x : Int32) {m : Int32} (k : Nat) (hm : m.toBitVec.toNat = 2 ^ k - 1) : x &&& m = nI (x.toBitVec.toNat % 2 ^ k) := by
  apply Int32.toBitVec_inj.mp
  apply BitVec.eq_of_toNat_eq
  rw [Int32.toBitVec_and, BitVec.toNat_and, hm, Nat.and_two_pow_sub_one_eq_mod]
  show _ = (BitVec.ofNat 32 _).toNat
  rw [BitVec.toNat_ofNat]
  exact (Nat.mod_eq_of_lt (Nat.lt_of_le_of_lt (Nat.mod_le _ _) x.toBitVec.isLt)).symm
theorem pk_andN {n : Nat} (h : n < 2 ^ 32) {m : Int32} (k : Nat) (hm : m.toBitVec.toNat = 2 ^ k - 1) : nI n &&& m = nI (n % 2 ^ k) := by
  rw [pk_and _ k hm, pk_tn h]
theorem pk_shl (a s : Int32) (k : Nat) (hs : (s.toBitVec.smod 32).toNat = k) : (a <<< s).toBitVec.toNat = a.toBitVec.toNat * 2 ^ k % 2 ^ 32 := by
  show (a.toBitVec <<< (s.toBitVec.smod 32).toNat).toNat = _
  rw [hs, BitVec.toNat_shiftLeft, Nat.shiftLeft_eq]
theorem pk_shlN {n : Nat} (s : Int32) (k : Nat) (hs : (s.toBitVec.smod 32).toNat = k) (h : n * 2 ^ k < 2 ^ 32) : nI n <<< s = nI (n * 2 ^ k) := by
  apply Int32.toBitVec_inj.mp
  apply BitVec.eq_of_toNat_eq
  have hn : n < 2 ^ 32 := Nat.lt_of_le_of_lt (Nat.le_mul_of_pos_right n (Nat.two_pow_pos k)) h
  rw [pk_shl _ _ k hs, pk_tn hn, pk_tn h, Nat.mod_eq_of_lt h]
theorem pk_shr (a s : Int32) (k : Nat) (hs : (s.toBitVec.smod 32).toNat = k) : (a >>> s).toInt = a.toInt >>> k := by
  show (a.toBitVec.sshiftRight (s.toBitVec.smod 32).toNat).toInt = _
  rw [hs, BitVec.toInt_sshiftRight]
  rfl
theorem pk_shrN {n : Nat} (h : n < 2 ^ 31) (s : Int32) (k : Nat) (hs : (s.toBitVec.smod 32).toNat = k) : nI n >>> s = nI (n / 2 ^ k) := by
  apply Int32.toInt_inj.mp
  have h2 : n / 2 ^ k ≤ n := Nat.div_le_self _ _
  rw [pk_shr _ _ k hs, nI_toInt h, nI_toInt (by omega), Int.shiftRight_eq_div_pow]
  rfl
theorem pk_loop {σ : Type} (W : Nat → Nat → σ → Prop) (I : Nat → σ → Prop) (e i0 : Nat) (s : σ) (hi : i0 ≤ e) (h0 : I i0 s) (hx : ∀ n s, I e s → W (n + 1) e s)
    (hs : ∀ n i s, i < e → I i s → (∀ s', I (i + 1) s' → W n (i + 1) s') → W (n + 1) i s) : ∃ n, W n i0 s :=
  ⟨e + 1, loop_i W I e hx hs (e + 1) i0 s hi (by omega) h0⟩
theorem lp1 {A1 : Type} (W : Nat → A1 → Prop) (I : A1 → Prop) (μ : A1 → Nat) (hs : ∀ (n : Nat) (a1 : A1), I a1 → (∀ (b1 : A1), I b1 → μ b1 < μ a1 → W n b1) → W (n + 1) a1) (a1 : A1) (h : I a1) : ∃ n, W n a1 :=
  loop_m (σ := A1) (fun n s => W n s) (fun s => I s) (fun s => μ s) (fun n s hI hk => hs n s hI (fun b1 h9 hm => hk b1 h9 hm)) a1 h
theorem lp2 {A1 A2 : Type} (W : Nat → A1 → A2 → Prop) (I : A1 → A2 → Prop) (μ : A1 → A2 → Nat) (hs : ∀ (n : Nat) (a1 : A1) (a2 : A2), I a1 a2 → (∀ (b1 : A1) (b2 : A2), I b1 b2 → μ b1 b2 < μ a1 a2 → W n b1 b2) → W (n + 1) a1 a2) (a1 : A1) (a2 : A2) (h : I a1 a2) : ∃ n, W n a1 a2 :=
  loop_m (σ := A1 × A2) (fun n s => W n s.1 s.2) (fun s => I s.1 s.2) (fun s => μ s.1 s.2) (fun n s hI hk => hs n s.1 s.2 hI (fun b1 b2 h9 hm => hk (b1, b2) h9 hm)) (a1, a2) h
theorem lp3 {A1 A2 A3 : Type} (W : Nat → A1 → A2 → A3 → Prop) (I : A1 → A2 → A3 → Prop) (μ : A1 → A2 → A3 → Nat) (hs : ∀ (n : Nat) (a1 : A1) (a2 : A2) (a3 : A3), I a1 a2 a3 → (∀ (b1 : A1) (b2 : A2) (b3 : A3), I b1 b2 b3 → μ b1 b2 b3 < μ a1 a2 a3 → W n b1 b2 b3) → W (n + 1) a1 a2 a3) (a1 : A1) (a2 : A2) (a3 : A3) (h : I a1 a2 a3) : ∃ n, W n a1 a2 a3 :=
  loop_m (σ := A1 × A2 × A3) (fun n s => W n s.1 s.2.1 s.2.2) (fun s => I s.1 s.2.1 s.2.2) (fun s => μ s.1 s.2.1 s.2.2) (fun n s hI hk => hs n s.1 s.2.1 s.2.2 hI (fun b1 b2 b3 h9 hm => hk (b1, b2, b3) h9 hm)) (a1, a2, a3) h
theorem lp4 {A1 A2 A3 A4 : Type} (W : Nat → A1 → A2 → A3 → A4 → Prop) (I : A1 → A2 → A3 → A4 → Prop) (μ : A1 → A2 → A3 → A4 → Nat) (hs : ∀ (n : Nat) (a1 : A1) (a2 : A2) (a3 : A3) (a4 : A4), I a1 a2 a3 a4 → (∀ (b1 : A1) (b2 : A2) (b3 : A3) (b4 : A4), I b1 b2 b3 b4 → μ b1 b2 b3 b4 < μ a1 a2 a3 a4 → W n b1 b2 b3 b4) → W (n + 1) a1 a2 a3 a4) (a1 : A1) (a2 : A2) (a3 : A3) (a4 : A4) (h : I a1 a2 a3 a4) : ∃ n, W n a1 a2 a3 a4 :=
  loop_m (σ := A1 × A2 × A3 × A4) (fun n s => W n s.1 s.2.1 s.2.2.1 s.2.2.2) (fun s => I s.1 s.2.1 s.2.2.1 s.2.2.2) (fun s => μ s.1 s.2.1 s.2.2.1 s.2.2.2) (fun n s hI hk => hs n s.1 s.2.1 s.2.2.1 s.2.2.2 hI (fun b1 b2 b3 b4 h9 hm => hk (b1, b2, b3, b4) h9 hm)) (a1, a2, a3, a4) h
def bt (x : Int32) (i : Nat) : Bool := x.toBitVec.getLsbD i
theorem b_ext {x y : Int32} (h : ∀ i, i < 32 → bt x i = bt y i) : x = y := Int32.toBitVec_inj.mp (BitVec.eq_of_getLsbD_eq (fun i hi => h i hi))
theorem b_or (x y : Int32) (i : Nat) : bt (x ||| y) i = (bt x i || bt y i) := by unfold bt; rw [Int32.toBitVec_or, BitVec.getLsbD_or]
theorem b_and (x y : Int32) (i : Nat) : bt (x &&& y) i = (bt x i && bt y i) := by unfold bt; rw [Int32.toBitVec_and, BitVec.getLsbD_and]
theorem b_xor (x y : Int32) (i : Nat) : bt (x ^^^ y) i = (bt x i ^^ bt y i) := by unfold bt; rw [Int32.toBitVec_xor, BitVec.getLsbD_xor]
theorem b_big {x : Int32} {i : Nat} (h : 32 ≤ i) : bt x i = false := BitVec.getLsbD_of_ge _ _ h
theorem b_m1 : ∀ i, i < 32 → bt (-1) i = true := by decide +kernel
theorem b_0 (i : Nat) : bt 0 i = false := BitVec.getLsbD_zero
theorem s_l : ∀ n, n < 32 → ((nI n &&& 31).toBitVec.smod 32).toNat = n := by decide +kernel
theorem nx_and (a b : Nat) : nI a &&& nI b = nI (a &&& b) := by
  apply Int32.toBitVec_inj.1
  show BitVec.ofNat 32 a &&& BitVec.ofNat 32 b = BitVec.ofNat 32 (a &&& b)
  apply BitVec.eq_of_getLsbD_eq
  intro i hi
  simp [hi]
theorem nx_xor (a b : Nat) : nI a ^^^ nI b = nI (a ^^^ b) := by
  apply Int32.toBitVec_inj.1
  show BitVec.ofNat 32 a ^^^ BitVec.ofNat 32 b = BitVec.ofNat 32 (a ^^^ b)
  apply BitVec.eq_of_getLsbD_eq
  intro i hi
  simp [hi]
end
section
-- the pure mathematics (masks as naturals, an order as a relation lt), free of any printed name.
-- Sets: Nat masks, bit v = element v, all bits below 10.
def cm_pc : Nat → Nat → Nat
  | 0, _ => 0
  | k + 1, s => cm_pc k s + (s.testBit k).toNat

noncomputable def cm_bm : Nat → (Nat → Prop) → Nat
  | 0, _ => 0
  | k + 1, p => cm_bm k p ||| (@ite _ (p k) (Classical.propDecidable _) (2 ^ k) 0)

def cm_Sub (s t : Nat) : Prop := ∀ v, s.testBit v = true → t.testBit v = true
def cm_Anti (lt : Nat → Nat → Prop) (s : Nat) : Prop := ∀ u v, s.testBit u = true → s.testBit v = true → ¬ lt u v
def cm_Chn (lt : Nat → Nat → Prop) (s : Nat) : Prop := ∀ u v, s.testBit u = true → s.testBit v = true → u ≠ v → lt u v ∨ lt v u
def cm_Wd (lt : Nat → Nat → Prop) (S w : Nat) : Prop :=
  (∃ A, cm_Sub A S ∧ cm_Anti lt A ∧ cm_pc 10 A = w) ∧ ∀ A, cm_Sub A S → cm_Anti lt A → cm_pc 10 A ≤ w
def cm_Lc (lt : Nat → Nat → Prop) (S w : Nat) : Prop :=
  (∃ A, cm_Sub A S ∧ cm_Chn lt A ∧ cm_pc 10 A = w) ∧ ∀ A, cm_Sub A S → cm_Chn lt A → cm_pc 10 A ≤ w
def cm_Lg (lt : Nat → Nat → Prop) (S w A : Nat) : Prop := cm_Sub A S ∧ cm_Anti lt A ∧ cm_pc 10 A = w
noncomputable def cm_mn (lt : Nat → Nat → Prop) (S : Nat) : Nat :=
  cm_bm 10 (fun v => S.testBit v = true ∧ ∀ u, S.testBit u = true → ¬ lt u v)
noncomputable def cm_df (s t : Nat) : Nat := cm_bm 10 (fun v => s.testBit v = true ∧ ¬ t.testBit v = true)
def cm_PP (lt : Nat → Nat → Prop) : Nat → Nat → Nat → Prop
  | 0, _, s => s = 0
  | k + 1, m, s => ∃ t, t < m ∧ t ≠ 0 ∧ cm_Sub t s ∧ cm_Chn lt t ∧ cm_PP lt k t (cm_df s t)

theorem cm_bm_bit (k : Nat) (p : Nat → Prop) (v : Nat) : (cm_bm k p).testBit v = true ↔ v < k ∧ p v := by
  induction k with
  | zero => simp [cm_bm]
  | succ k ih =>
    unfold cm_bm
    rw [Nat.testBit_or, Bool.or_eq_true, ih]
    by_cases hp : p k
    · rw [if_pos hp, Nat.testBit_two_pow, decide_eq_true_eq]
      constructor
      · rintro (⟨h1, h2⟩ | h)
        · exact ⟨by omega, h2⟩
        · subst h; exact ⟨by omega, hp⟩
      · rintro ⟨h1, h2⟩
        by_cases e : v = k
        · right; omega
        · left; exact ⟨by omega, h2⟩
    · rw [if_neg hp]
      simp only [Nat.zero_testBit, Bool.false_eq_true, or_false]
      constructor
      · rintro ⟨h1, h2⟩; exact ⟨by omega, h2⟩
      · rintro ⟨h1, h2⟩
        by_cases e : v = k
        · subst e; exact absurd h2 hp
        · exact ⟨by omega, h2⟩

theorem cm_lt {s : Nat} (h : ∀ v, s.testBit v = true → v < 10) : s < 1024 := by
  have := Nat.lt_pow_two_of_testBit (n := 10) s (fun i hi => by
    cases e : s.testBit i with
    | false => rfl
    | true => have := h i e; omega)
  simpa using this

theorem cm_hi {s v : Nat} (hs : s < 1024) (h : s.testBit v = true) : v < 10 := by
  apply Classical.byContradiction
  intro hv
  have h3 : (2 : Nat) ^ 10 ≤ 2 ^ v := Nat.pow_le_pow_right (by decide) (by omega)
  rw [show (2 : Nat) ^ 10 = 1024 from rfl] at h3
  have h2 : s < 2 ^ v := Nat.lt_of_lt_of_le hs h3
  rw [Nat.testBit_lt_two_pow h2] at h
  cases h

theorem cm_ext {s t : Nat} (h : ∀ v, s.testBit v = true ↔ t.testBit v = true) : s = t := by
  apply Nat.eq_of_testBit_eq
  intro i
  have := h i
  cases e : s.testBit i <;> cases f : t.testBit i <;> simp_all

theorem cm_bm_lt (p : Nat → Prop) : cm_bm 10 p < 1024 := cm_lt (fun v h => ((cm_bm_bit 10 p v).mp h).1)

theorem cm_df_bit {s t v : Nat} (hs : s < 1024) : (cm_df s t).testBit v = true ↔ s.testBit v = true ∧ ¬ t.testBit v = true := by
  unfold cm_df
  rw [cm_bm_bit]
  exact ⟨fun h => h.2, fun h => ⟨cm_hi hs h.1, h⟩⟩

theorem cm_df_lt (s t : Nat) : cm_df s t < 1024 := cm_bm_lt _
theorem cm_mn_bit {lt : Nat → Nat → Prop} {S v : Nat} (hs : S < 1024) :
    (cm_mn lt S).testBit v = true ↔ S.testBit v = true ∧ ∀ u, S.testBit u = true → ¬ lt u v := by
  unfold cm_mn
  rw [cm_bm_bit]
  exact ⟨fun h => h.2, fun h => ⟨cm_hi hs h.1, h⟩⟩

theorem cm_or_bit {s t v : Nat} : (s ||| t).testBit v = true ↔ s.testBit v = true ∨ t.testBit v = true := by
  rw [Nat.testBit_or, Bool.or_eq_true]
theorem cm_and_bit {s t v : Nat} : (s &&& t).testBit v = true ↔ s.testBit v = true ∧ t.testBit v = true := by
  rw [Nat.testBit_and, Bool.and_eq_true]
theorem cm_one_bit {x v : Nat} : (2 ^ x).testBit v = true ↔ x = v := by
  rw [Nat.testBit_two_pow, decide_eq_true_eq]
theorem cm_sub_lt {s t : Nat} (h : cm_Sub s t) (ht : t < 1024) : s < 1024 := cm_lt (fun v hv => cm_hi ht (h v hv))

theorem cm_pc_mono (k : Nat) {s t : Nat} (h : cm_Sub s t) : cm_pc k s ≤ cm_pc k t := by
  induction k with
  | zero => simp [cm_pc]
  | succ k ih =>
    unfold cm_pc
    have := h k
    cases e : s.testBit k <;> cases f : t.testBit k <;> simp_all <;> omega

theorem cm_pc_or (k s t : Nat) : cm_pc k (s ||| t) + cm_pc k (s &&& t) = cm_pc k s + cm_pc k t := by
  induction k with
  | zero => simp [cm_pc]
  | succ k ih =>
    unfold cm_pc
    rw [Nat.testBit_or, Nat.testBit_and]
    cases e : s.testBit k <;> cases f : t.testBit k <;> simp <;> omega

theorem cm_pc_le (k s : Nat) : cm_pc k s ≤ k := by
  induction k with
  | zero => simp [cm_pc]
  | succ k ih =>
    unfold cm_pc
    cases e : s.testBit k <;> simp <;> omega

theorem cm_pc_0 (k : Nat) {s : Nat} (h : ∀ v, ¬ s.testBit v = true) : cm_pc k s = 0 := by
  induction k with
  | zero => simp [cm_pc]
  | succ k ih =>
    unfold cm_pc
    have := h k
    cases e : s.testBit k <;> simp_all

theorem cm_pc_le1 (k : Nat) {s : Nat} (h : ∀ u v, s.testBit u = true → s.testBit v = true → u = v) : cm_pc k s ≤ 1 := by
  induction k with
  | zero => simp [cm_pc]
  | succ k ih =>
    unfold cm_pc
    cases e : s.testBit k with
    | false => simpa using ih
    | true =>
      have : ∀ j, j ≤ k → cm_pc j s = 0 := by
        intro j
        induction j with
        | zero => intro _; simp [cm_pc]
        | succ j ihj =>
          intro hj
          unfold cm_pc
          rw [ihj (by omega)]
          cases f : s.testBit j with
          | false => simp
          | true => have := h j k f e; omega
      rw [this k (Nat.le_refl k)]
      simp

theorem cm_pc_eq (k : Nat) {s t : Nat} (h : cm_Sub s t) (he : cm_pc k t ≤ cm_pc k s) :
    ∀ v, v < k → t.testBit v = true → s.testBit v = true := by
  induction k with
  | zero => intro v hv; omega
  | succ k ih =>
    unfold cm_pc at he
    have hm := cm_pc_mono k h
    have hk := h k
    intro v hv ht
    have hle : (s.testBit k).toNat ≤ (t.testBit k).toNat := by
      cases e : s.testBit k with
      | false => exact Nat.zero_le _
      | true => rw [hk e]; exact Nat.le_refl _
    by_cases hvk : v = k
    · subst hvk
      cases e : s.testBit v with
      | true => rfl
      | false =>
        rw [e, ht] at he
        have h1 : cm_pc v t + 1 ≤ cm_pc v s := he
        omega
    · exact ih (by omega) v (by omega) ht

theorem cm_same {s t : Nat} (h : cm_Sub s t) (ht : t < 1024) (he : cm_pc 10 t ≤ cm_pc 10 s) : s = t :=
  cm_ext (fun v => ⟨h v, fun hv => cm_pc_eq 10 h he v (cm_hi ht hv) hv⟩)

theorem cm_pc_one (k x : Nat) (hx : x < k) : cm_pc k (2 ^ x) = 1 := by
  have h1 : cm_pc k (2 ^ x) ≤ 1 := cm_pc_le1 k (fun u v hu hv => by
    rw [cm_one_bit] at hu hv; omega)
  have h2 : ∀ j, x < j → 1 ≤ cm_pc j (2 ^ x) := by
    intro j
    induction j with
    | zero => intro h; omega
    | succ j ih =>
      intro h
      unfold cm_pc
      by_cases e : x = j
      · have : (2 ^ x).testBit j = true := cm_one_bit.mpr e
        rw [this]; simp
      · have := ih (by omega); omega
  have := h2 k hx
  omega

theorem cm_pc_add {s x : Nat} (hx : x < 10) (h : ¬ s.testBit x = true) : cm_pc 10 (s ||| 2 ^ x) = cm_pc 10 s + 1 := by
  have h1 := cm_pc_or 10 s (2 ^ x)
  have h2 : cm_pc 10 (s &&& 2 ^ x) = 0 := cm_pc_0 10 (fun v hv => by
    rw [cm_and_bit, cm_one_bit] at hv
    rw [← hv.2] at hv; exact h hv.1)
  rw [h2, cm_pc_one 10 x hx] at h1
  omega

theorem cm_pc_df {s t : Nat} (hs : s < 1024) : cm_pc 10 s = cm_pc 10 (cm_df s t) + cm_pc 10 (s &&& t) := by
  have h1 := cm_pc_or 10 (cm_df s t) (s &&& t)
  have h2 : cm_df s t ||| (s &&& t) = s := cm_ext (fun v => by
    rw [cm_or_bit, cm_df_bit hs, cm_and_bit]
    constructor
    · rintro (h | h)
      · exact h.1
      · exact h.1
    · intro h
      by_cases e : t.testBit v = true
      · exact Or.inr ⟨h, e⟩
      · exact Or.inl ⟨h, e⟩)
  have h3 : cm_pc 10 (cm_df s t &&& (s &&& t)) = 0 := cm_pc_0 10 (fun v hv => by
    rw [cm_and_bit, cm_df_bit hs, cm_and_bit] at hv
    exact hv.1.2 hv.2.2)
  rw [h2, h3] at h1
  omega
end
section
-- largest antichains, their lowest, Dilworth, layers of minimal elements.
theorem cm_mn_anti {lt : Nat → Nat → Prop} {S : Nat} (hs : S < 1024) : cm_Anti lt (cm_mn lt S) := by
  intro u v hu hv
  exact ((cm_mn_bit hs).mp hv).2 u ((cm_mn_bit hs).mp hu).1

theorem cm_mn_sub {lt : Nat → Nat → Prop} {S : Nat} (hs : S < 1024) : cm_Sub (cm_mn lt S) S :=
  fun _ hv => ((cm_mn_bit hs).mp hv).1

theorem cm_anti_flip {lt : Nat → Nat → Prop} {s : Nat} (h : cm_Anti lt s) : cm_Anti (fun a b => lt b a) s :=
  fun u v hu hv => h v u hv hu

theorem cm_lg_flip {lt : Nat → Nat → Prop} {S w A : Nat} : cm_Lg (fun a b => lt b a) S w A ↔ cm_Lg lt S w A :=
  ⟨fun h => ⟨h.1, fun u v hu hv => h.2.1 v u hv hu, h.2.2⟩, fun h => ⟨h.1, fun u v hu hv => h.2.1 v u hv hu, h.2.2⟩⟩

-- the meet of two largest antichains is one again
theorem cm_meet {lt : Nat → Nat → Prop} (tr : ∀ a b c, lt a b → lt b c → lt a c) {S w A B : Nat} (hS : S < 1024)
    (ub : ∀ A, cm_Sub A S → cm_Anti lt A → cm_pc 10 A ≤ w) (hA : cm_Lg lt S w A) (hB : cm_Lg lt S w B) :
    cm_Lg lt S w (cm_mn lt (A ||| B)) := by
  have hU : cm_Sub (A ||| B) S := fun v hv => by
    rcases cm_or_bit.mp hv with h | h
    · exact hA.1 v h
    · exact hB.1 v h
  have hu : A ||| B < 1024 := cm_sub_lt hU hS
  have sM : cm_Sub (cm_mn lt (A ||| B)) S := fun v hv => hU v (cm_mn_sub hu v hv)
  have sX : cm_Sub (cm_mn (fun a b => lt b a) (A ||| B)) S := fun v hv => hU v (cm_mn_sub hu v hv)
  have aM : cm_Anti lt (cm_mn lt (A ||| B)) := cm_mn_anti hu
  have aX : cm_Anti lt (cm_mn (fun a b => lt b a) (A ||| B)) := fun u v hu' hv' => (cm_mn_anti hu) v u hv' hu'
  have uM := ub _ sM aM
  have uX := ub _ sX aX
  have e1 := cm_pc_or 10 (cm_mn lt (A ||| B)) (cm_mn (fun a b => lt b a) (A ||| B))
  have e2 := cm_pc_or 10 A B
  have m1 : cm_pc 10 (A ||| B) ≤ cm_pc 10 (cm_mn lt (A ||| B) ||| cm_mn (fun a b => lt b a) (A ||| B)) :=
    cm_pc_mono 10 (fun v hv => by
      apply Classical.byContradiction
      intro hn
      have n1 : ¬ (cm_mn lt (A ||| B)).testBit v = true := fun h => hn (cm_or_bit.mpr (Or.inl h))
      have n2 : ¬ (cm_mn (fun a b => lt b a) (A ||| B)).testBit v = true := fun h => hn (cm_or_bit.mpr (Or.inr h))
      have f1 : ∃ u, (A ||| B).testBit u = true ∧ lt u v := by
        apply Classical.byContradiction
        intro h
        exact n1 ((cm_mn_bit hu).mpr ⟨hv, fun u hu' hl => h ⟨u, hu', hl⟩⟩)
      have f2 : ∃ u, (A ||| B).testBit u = true ∧ lt v u := by
        apply Classical.byContradiction
        intro h
        exact n2 ((cm_mn_bit hu).mpr ⟨hv, fun u hu' hl => h ⟨u, hu', hl⟩⟩)
      obtain ⟨y, hy, hyv⟩ := f1
      obtain ⟨z, hz, hvz⟩ := f2
      have hyz := tr _ _ _ hyv hvz
      rcases cm_or_bit.mp hv with h | h <;> rcases cm_or_bit.mp hy with h' | h' <;> rcases cm_or_bit.mp hz with h'' | h''
      · exact hA.2.1 _ _ h' h hyv
      · exact hA.2.1 _ _ h' h hyv
      · exact hA.2.1 _ _ h h'' hvz
      · exact hB.2.1 _ _ h' h'' hyz
      · exact hA.2.1 _ _ h' h'' hyz
      · exact hB.2.1 _ _ h h'' hvz
      · exact hB.2.1 _ _ h' h hyv
      · exact hB.2.1 _ _ h' h hyv)
  have m2 : cm_pc 10 (A &&& B) ≤ cm_pc 10 (cm_mn lt (A ||| B) &&& cm_mn (fun a b => lt b a) (A ||| B)) :=
    cm_pc_mono 10 (fun v hv => by
      obtain ⟨ha, hb⟩ := cm_and_bit.mp hv
      refine cm_and_bit.mpr ⟨(cm_mn_bit hu).mpr ⟨cm_or_bit.mpr (Or.inl ha), fun u hu' hl => ?_⟩,
        (cm_mn_bit hu).mpr ⟨cm_or_bit.mpr (Or.inl ha), fun u hu' hl => ?_⟩⟩
      · rcases cm_or_bit.mp hu' with h | h
        · exact hA.2.1 _ _ h ha hl
        · exact hB.2.1 _ _ h hb hl
      · rcases cm_or_bit.mp hu' with h | h
        · exact hA.2.1 _ _ ha h hl
        · exact hB.2.1 _ _ hb h hl)
  have a2 := hA.2.2
  have b2 := hB.2.2
  exact ⟨sM, aM, by omega⟩

-- a largest antichain meets or touches every element
theorem cm_touch {lt : Nat → Nat → Prop} (ir : ∀ a, ¬ lt a a) {S w M a : Nat} (hS : S < 1024)
    (ub : ∀ A, cm_Sub A S → cm_Anti lt A → cm_pc 10 A ≤ w) (hM : cm_Lg lt S w M) (ha : S.testBit a = true) :
    M.testBit a = true ∨ ∃ y, M.testBit y = true ∧ (lt a y ∨ lt y a) := by
  apply Classical.byContradiction
  intro hn
  have h1 : ¬ M.testBit a = true := fun h => hn (Or.inl h)
  have h2 : ∀ y, M.testBit y = true → ¬ lt a y ∧ ¬ lt y a := fun y hy =>
    ⟨fun h => hn (Or.inr ⟨y, hy, Or.inl h⟩), fun h => hn (Or.inr ⟨y, hy, Or.inr h⟩)⟩
  have h3 := ub (M ||| 2 ^ a)
    (fun v hv => by
      rcases cm_or_bit.mp hv with h | h
      · exact hM.1 v h
      · rw [cm_one_bit] at h; subst h; exact ha)
    (fun u v hu hv => by
      rcases cm_or_bit.mp hu with h | h <;> rcases cm_or_bit.mp hv with h' | h'
      · exact hM.2.1 _ _ h h'
      · rw [cm_one_bit] at h'; subst h'; exact (h2 u h).2
      · rw [cm_one_bit] at h; subst h; exact (h2 v h').1
      · rw [cm_one_bit] at h h'; subst h; subst h'; exact ir _)
  rw [cm_pc_add (cm_hi hS ha) h1] at h3
  have := hM.2.2
  omega

-- the lowest of the largest antichains
theorem cm_low {lt : Nat → Nat → Prop} (tr : ∀ a b c, lt a b → lt b c → lt a c) (ir : ∀ a, ¬ lt a a) {S w : Nat} (hS : S < 1024)
    (ub : ∀ A, cm_Sub A S → cm_Anti lt A → cm_pc 10 A ≤ w) (ex : ∃ A, cm_Lg lt S w A) :
    ∃ M, cm_Lg lt S w M ∧ ∀ A, cm_Lg lt S w A → ∀ a x, A.testBit a = true → M.testBit x = true → ¬ lt a x := by
  have key : ∀ m : Nat, ∃ M, cm_Lg lt S w M ∧ ∀ A, A < m → cm_Lg lt S w A → ∀ a x, A.testBit a = true → M.testBit x = true → ¬ lt a x := by
    intro m
    induction m with
    | zero =>
      obtain ⟨A, hA⟩ := ex
      exact ⟨A, hA, fun B hB => absurd hB (Nat.not_lt_zero _)⟩
    | succ m ih =>
      obtain ⟨M, hM, hl⟩ := ih
      by_cases hm : cm_Lg lt S w m
      · refine ⟨cm_mn lt (M ||| m), cm_meet tr hS ub hM hm, ?_⟩
        have hu : M ||| m < 1024 := cm_sub_lt (t := S) (fun v hv => by
          rcases cm_or_bit.mp hv with h | h
          · exact hM.1 v h
          · exact hm.1 v h) hS
        intro A hA hLA a x ha hx hlt
        obtain ⟨hx1, hx2⟩ := (cm_mn_bit hu).mp hx
        by_cases e : A = m
        · subst e
          exact hx2 a (cm_or_bit.mpr (Or.inr ha)) hlt
        · have hA' : A < m := by omega
          rcases cm_touch ir hS ub hM (hLA.1 a ha) with h | ⟨y, hy, h | h⟩
          · exact hx2 a (cm_or_bit.mpr (Or.inl h)) hlt
          · exact hl A hA' hLA a y ha hy h
          · exact hx2 y (cm_or_bit.mpr (Or.inl hy)) (tr _ _ _ h hlt)
      · refine ⟨M, hM, fun A hA hLA => ?_⟩
        by_cases e : A = m
        · subst e; exact absurd hLA hm
        · exact hl A (by omega) hLA
  obtain ⟨M, hM, hl⟩ := key 1024
  exact ⟨M, hM, fun A hA => hl A (cm_sub_lt hA.1 hS) hA⟩

-- U: the union of all largest antichains; its minimal elements are the lowest one, and nothing else is lowest
theorem cm_low_eq {lt : Nat → Nat → Prop} (tr : ∀ a b c, lt a b → lt b c → lt a c) (ir : ∀ a, ¬ lt a a) {S w U : Nat} (hS : S < 1024)
    (ub : ∀ A, cm_Sub A S → cm_Anti lt A → cm_pc 10 A ≤ w) (ex : ∃ A, cm_Lg lt S w A)
    (hU : ∀ v, U.testBit v = true ↔ ∃ A, cm_Lg lt S w A ∧ A.testBit v = true) :
    cm_Lg lt S w (cm_mn lt U) ∧ ∀ L, cm_Lg lt S w L →
      ((∀ B, cm_Lg lt S w B → ∀ v, L.testBit v = true → B.testBit v = true ∨ ∃ b, B.testBit b = true ∧ lt v b) ↔ L = cm_mn lt U) := by
  have sU : cm_Sub U S := fun v hv => by
    obtain ⟨A, hA, ha⟩ := (hU v).mp hv
    exact hA.1 v ha
  have hu : U < 1024 := cm_sub_lt sU hS
  obtain ⟨M, hM, hl⟩ := cm_low tr ir hS ub ex
  have e : cm_mn lt U = M := cm_ext (fun x => by
    rw [cm_mn_bit hu]
    constructor
    · rintro ⟨h1, h2⟩
      rcases cm_touch ir hS ub hM (sU x h1) with h | ⟨y, hy, h | h⟩
      · exact h
      · obtain ⟨A, hA, ha⟩ := (hU x).mp h1
        exact absurd h (hl A hA x y ha hy)
      · exact absurd h (h2 y ((hU y).mpr ⟨M, hM, hy⟩))
    · intro h
      refine ⟨(hU x).mpr ⟨M, hM, h⟩, fun u hu' => ?_⟩
      obtain ⟨A, hA, ha⟩ := (hU u).mp hu'
      exact hl A hA u x ha h)
  rw [e]
  refine ⟨hM, fun L hL => ⟨fun h => ?_, ?_⟩⟩
  · apply cm_same _ (cm_sub_lt hM.1 hS) (by rw [hL.2.2, hM.2.2]; exact Nat.le_refl _)
    rw [← e]
    intro x hx
    refine (cm_mn_bit hu).mpr ⟨(hU x).mpr ⟨L, hL, hx⟩, fun u hu' hlt => ?_⟩
    obtain ⟨B, hB, hb⟩ := (hU u).mp hu'
    rcases h B hB x hx with h' | ⟨b, hb', h'⟩
    · exact hB.2.1 _ _ hb h' hlt
    · exact hB.2.1 _ _ hb hb' (tr _ _ _ hlt h')
  · intro eL B hB v hv
    subst eL
    rcases cm_touch ir hS ub hB (hL.1 v hv) with h | ⟨y, hy, h | h⟩
    · exact Or.inl h
    · exact Or.inr ⟨y, hy, h⟩
    · exact absurd h (hl B hB y v hy hv)

-- Dilworth
theorem cm_PP_mono {lt : Nat → Nat → Prop} {k m m' s : Nat} (h : cm_PP lt k m s) (hm : m ≤ m') : cm_PP lt k m' s := by
  cases k with
  | zero => exact h
  | succ k =>
    obtain ⟨t, h1, h2⟩ := h
    exact ⟨t, Nat.lt_of_lt_of_le h1 hm, h2⟩

theorem cm_PP_ins {lt : Nat → Nat → Prop} : ∀ (k m s t : Nat), s < 1024 → t < 1024 → cm_PP lt k m s → t ≠ 0 → t < m → cm_Chn lt t →
    (∀ v, t.testBit v = true → ¬ s.testBit v = true) → cm_PP lt (k + 1) m (s ||| t) := by
  intro k
  induction k with
  | zero =>
    intro m s t hs ht h t0 tm hc hd
    have hs0 : s = 0 := h
    subst hs0
    refine ⟨t, tm, t0, fun v hv => cm_or_bit.mpr (Or.inr hv), hc, ?_⟩
    show cm_df (0 ||| t) t = 0
    apply cm_ext
    intro v
    rw [cm_df_bit (by rw [Nat.zero_or]; exact ht), Nat.zero_or]
    simp
  | succ k ih =>
    intro m s t hs ht h t0 tm hc hd
    obtain ⟨t1, h1, h2, h3, h4, h5⟩ := h
    have hst : s ||| t < 1024 := Nat.or_lt_two_pow (n := 10) hs ht
    have ht1 : t1 < 1024 := cm_sub_lt h3 hs
    have hne : t1 ≠ t := by
      intro e
      subst e
      apply h2
      apply cm_ext
      intro v
      constructor
      · intro hv; exact absurd (h3 v hv) (hd v hv)
      · intro hv; simp at hv
    rcases Nat.lt_or_gt_of_ne hne with hlt | hgt
    · refine ⟨t, tm, t0, fun v hv => cm_or_bit.mpr (Or.inr hv), hc, ?_⟩
      have e : cm_df (s ||| t) t = s := cm_ext (fun v => by
        rw [cm_df_bit hst, cm_or_bit]
        constructor
        · rintro ⟨h | h, h'⟩
          · exact h
          · exact absurd h h'
        · intro h
          exact ⟨Or.inl h, fun h' => hd v h' h⟩)
      rw [e]
      exact ⟨t1, hlt, h2, h3, h4, h5⟩
    · refine ⟨t1, h1, h2, fun v hv => cm_or_bit.mpr (Or.inl (h3 v hv)), h4, ?_⟩
      have e : cm_df (s ||| t) t1 = cm_df s t1 ||| t := cm_ext (fun v => by
        rw [cm_df_bit hst, cm_or_bit, cm_or_bit, cm_df_bit hs]
        constructor
        · rintro ⟨h | h, h'⟩
          · exact Or.inl ⟨h, h'⟩
          · exact Or.inr h
        · rintro (⟨h, h'⟩ | h)
          · exact ⟨Or.inl h, h'⟩
          · exact ⟨Or.inr h, fun h' => hd v h (h3 v h')⟩)
      rw [e]
      exact ih t1 (cm_df s t1) t (cm_bm_lt _) ht h5 t0 hgt hc (fun v hv hv' => hd v hv ((cm_df_bit hs).mp hv').1)

theorem cm_PP_ext {lt : Nat → Nat → Prop} : ∀ (k m s x : Nat), s < 1024 → m ≤ 1024 → cm_PP lt k m s → s.testBit x = true →
    ∃ t j, k = j + 1 ∧ t.testBit x = true ∧ cm_Sub t s ∧ cm_Chn lt t ∧ cm_PP lt j 1024 (cm_df s t) := by
  intro k
  induction k with
  | zero =>
    intro m s x hs hm h hx
    have hs0 : s = 0 := h
    subst hs0
    simp at hx
  | succ k ih =>
    intro m s x hs hm h hx
    obtain ⟨t1, h1, h2, h3, h4, h5⟩ := h
    have ht1 : t1 < 1024 := cm_sub_lt h3 hs
    by_cases e : t1.testBit x = true
    · exact ⟨t1, k, rfl, e, h3, h4, cm_PP_mono h5 (Nat.le_of_lt ht1)⟩
    · obtain ⟨t, j, ej, g1, g2, g3, g4⟩ := ih t1 (cm_df s t1) x (cm_bm_lt _) (Nat.le_of_lt ht1) h5 ((cm_df_bit hs).mpr ⟨hx, e⟩)
      have st : cm_Sub t s := fun v hv => ((cm_df_bit hs).mp (g2 v hv)).1
      refine ⟨t, k, rfl, g1, st, g3, ?_⟩
      have e2 : cm_df (cm_df s t1) t ||| t1 = cm_df s t := cm_ext (fun v => by
        rw [cm_or_bit, cm_df_bit (cm_df_lt s t1), cm_df_bit hs, cm_df_bit hs]
        constructor
        · rintro (⟨⟨h, h'⟩, h''⟩ | h)
          · exact ⟨h, h''⟩
          · exact ⟨h3 v h, fun h' => ((cm_df_bit hs).mp (g2 v h')).2 h⟩
        · rintro ⟨h, h'⟩
          by_cases e3 : t1.testBit v = true
          · exact Or.inr e3
          · exact Or.inl ⟨⟨h, e3⟩, h'⟩)
      rw [← e2, ej]
      exact cm_PP_ins j 1024 _ t1 (cm_bm_lt _) ht1 g4 h2 ht1 h4 (fun v hv hv' =>
        ((cm_df_bit hs).mp ((cm_df_bit (cm_df_lt s t1)).mp hv').1).2 hv)

theorem cm_meet1 {lt : Nat → Nat → Prop} {A t : Nat} (hA : cm_Anti lt A) (ht : cm_Chn lt t) : cm_pc 10 (A &&& t) ≤ 1 :=
  cm_pc_le1 10 (fun u v hu hv => by
    obtain ⟨a1, b1⟩ := cm_and_bit.mp hu
    obtain ⟨a2, b2⟩ := cm_and_bit.mp hv
    apply Classical.byContradiction
    intro hne
    rcases ht u v b1 b2 hne with h | h
    · exact hA _ _ a1 a2 h
    · exact hA _ _ a2 a1 h)

theorem cm_PP_ub {lt : Nat → Nat → Prop} : ∀ (k m s A : Nat), s < 1024 → cm_PP lt k m s → cm_Sub A s → cm_Anti lt A → cm_pc 10 A ≤ k := by
  intro k
  induction k with
  | zero =>
    intro m s A hs h hA _
    have hs0 : s = 0 := h
    subst hs0
    rw [cm_pc_0 10 (fun v hv => by have := hA v hv; simp at this)]
    exact Nat.le_refl 0
  | succ k ih =>
    intro m s A hs h hA hAn
    obtain ⟨t, h1, h2, h3, h4, h5⟩ := h
    have hA1 : A < 1024 := cm_sub_lt hA hs
    rw [cm_pc_df (t := t) hA1]
    have e1 := cm_meet1 hAn h4
    have e2 := ih t (cm_df s t) (cm_df A t) (cm_bm_lt _) h5
      (fun v hv => (cm_df_bit hs).mpr ⟨hA v ((cm_df_bit hA1).mp hv).1, ((cm_df_bit hA1).mp hv).2⟩)
      (fun u v hu hv => hAn u v ((cm_df_bit hA1).mp hu).1 ((cm_df_bit hA1).mp hv).1)
    omega

-- the greatest and the least number in a set
theorem cm_top {S : Nat} (hS : S < 1024) (h : S ≠ 0) : ∃ a, S.testBit a = true ∧ ∀ v, S.testBit v = true → v ≤ a := by
  have key : ∀ k, (∃ v, v < k ∧ S.testBit v = true) → ∃ a, S.testBit a = true ∧ ∀ v, v < k → S.testBit v = true → v ≤ a := by
    intro k
    induction k with
    | zero => rintro ⟨v, hv, _⟩; omega
    | succ k ih =>
      intro hex
      by_cases e : S.testBit k = true
      · exact ⟨k, e, fun v hv _ => by omega⟩
      · obtain ⟨v, hv, hv2⟩ := hex
        have hvk : v ≠ k := fun h => e (h ▸ hv2)
        obtain ⟨a, ha, hb⟩ := ih ⟨v, by omega, hv2⟩
        refine ⟨a, ha, fun u hu hu2 => ?_⟩
        have huk : u ≠ k := fun h => e (h ▸ hu2)
        exact hb u (by omega) hu2
  obtain ⟨v, hv⟩ := Nat.exists_testBit_of_ne_zero h
  obtain ⟨a, ha, hb⟩ := key 10 ⟨v, cm_hi hS hv, hv⟩
  exact ⟨a, ha, fun u hu => hb u (cm_hi hS hu) hu⟩

theorem cm_bot {S : Nat} (h : S ≠ 0) : ∃ a, S.testBit a = true ∧ ∀ v, S.testBit v = true → a ≤ v := by
  obtain ⟨v, hv⟩ := Nat.exists_testBit_of_ne_zero h
  have key : ∀ k, S.testBit k = true → ∃ a, S.testBit a = true ∧ ∀ v, S.testBit v = true → a ≤ v := by
    intro k
    induction k using Nat.strongRecOn with
    | ind k ih =>
      intro hk
      by_cases e : ∃ u, u < k ∧ S.testBit u = true
      · obtain ⟨u, hu, hu2⟩ := e
        exact ih u hu hu2
      · exact ⟨k, hk, fun u hu => Nat.le_of_not_lt (fun hlt => e ⟨u, hlt, hu⟩)⟩
  exact key v hv

theorem cm_sub_le {s t : Nat} (h : cm_Sub s t) : s ≤ t := by
  have e : s &&& t = s := cm_ext (fun v => by
    rw [cm_and_bit]
    exact ⟨fun x => x.1, fun x => ⟨x, h v x⟩⟩)
  rw [← e]
  exact Nat.and_le_right

theorem cm_df_less {s t x : Nat} (hs : s < 1024) (hx : s.testBit x = true) (ht : t.testBit x = true) : cm_df s t < s := by
  have h1 : cm_df s t ≤ s := cm_sub_le (fun v hv => ((cm_df_bit hs).mp hv).1)
  have h2 : cm_df s t ≠ s := fun e => by
    have : (cm_df s t).testBit x = true := by rw [e]; exact hx
    exact ((cm_df_bit hs).mp this).2 ht
  omega

theorem cm_dil {lt : Nat → Nat → Prop} (tr : ∀ a b c, lt a b → lt b c → lt a c) (up : ∀ a b, lt a b → a < b) :
    ∀ S, S < 1024 → ∀ w, (∀ A, cm_Sub A S → cm_Anti lt A → cm_pc 10 A ≤ w) → ∃ k, k ≤ w ∧ cm_PP lt k 1024 S := by
  have ir : ∀ a, ¬ lt a a := fun a h => Nat.lt_irrefl a (up a a h)
  intro S
  induction S using Nat.strongRecOn with
  | ind S ih =>
    intro hS w ub
    by_cases hS0 : S = 0
    · subst hS0
      exact ⟨0, Nat.zero_le _, rfl⟩
    obtain ⟨a, ha, hat⟩ := cm_top hS hS0
    have ha10 : a < 10 := cm_hi hS ha
    have h2a : 2 ^ a < 1024 := cm_lt (fun v hv => by rw [cm_one_bit] at hv; omega)
    have h2a0 : 2 ^ a ≠ 0 := Nat.ne_of_gt (Nat.two_pow_pos a)
    have hw1 : 1 ≤ w := by
      have := ub (2 ^ a) (fun v hv => by rw [cm_one_bit] at hv; subst hv; exact ha)
        (fun u v hu hv => by rw [cm_one_bit] at hu hv; subst hu; subst hv; exact ir _)
      rw [cm_pc_one 10 a ha10] at this
      exact this
    have hS' : cm_df S (2 ^ a) < S := cm_df_less hS ha (cm_one_bit.mpr rfl)
    have bS' : ∀ v, (cm_df S (2 ^ a)).testBit v = true ↔ S.testBit v = true ∧ v ≠ a := fun v => by
      rw [cm_df_bit hS, cm_one_bit]
      exact ⟨fun h => ⟨h.1, fun e => h.2 e.symm⟩, fun h => ⟨h.1, fun e => h.2 e.symm⟩⟩
    generalize cm_df S (2 ^ a) = S' at hS' bS'
    have hS'k : S' < 1024 := by omega
    have sub' : cm_Sub S' S := fun v hv => ((bS' v).mp hv).1
    have eS : S' ||| 2 ^ a = S := cm_ext (fun v => by
      rw [cm_or_bit, bS', cm_one_bit]
      constructor
      · rintro (h | h)
        · exact h.1
        · subst h; exact ha
      · intro h
        by_cases e : v = a
        · exact Or.inr e.symm
        · exact Or.inl ⟨h, e⟩)
    have ub' : ∀ A, cm_Sub A S' → cm_Anti lt A → cm_pc 10 A ≤ w := fun A h1 h2 => ub A (fun v hv => sub' v (h1 v hv)) h2
    by_cases hB : ∃ B, cm_Lg lt S' w B
    · obtain ⟨B0, hB0⟩ := hB
      obtain ⟨H, hH, hHl⟩ := cm_low (lt := fun a b => lt b a) (S := S') (w := w) (fun a b c h1 h2 => tr c b a h2 h1) ir hS'k
        (fun A h1 h2 => ub' A h1 (fun u v hu hv => h2 v u hv hu)) ⟨B0, cm_lg_flip.mpr hB0⟩
      have hH' : cm_Lg lt S' w H := cm_lg_flip.mp hH
      have hHl' : ∀ A, cm_Lg lt S' w A → ∀ b x, A.testBit b = true → H.testBit x = true → ¬ lt x b :=
        fun A hA b x hb hx => hHl A (cm_lg_flip.mpr hA) b x hb hx
      obtain ⟨k, hk, hP⟩ := ih S' hS' hS'k w ub'
      have hkw : k = w := by
        have := cm_PP_ub k 1024 S' B0 hS'k hP hB0.1 hB0.2.1
        have := hB0.2.2
        omega
      subst hkw
      have hx : ∃ x, H.testBit x = true ∧ lt x a := by
        apply Classical.byContradiction
        intro hn
        have haH : ¬ H.testBit a = true := fun h => ((bS' a).mp (hH'.1 a h)).2 rfl
        have := ub (H ||| 2 ^ a)
          (fun v hv => by
            rcases cm_or_bit.mp hv with h | h
            · exact sub' v (hH'.1 v h)
            · rw [cm_one_bit] at h; subst h; exact ha)
          (fun u v hu hv => by
            rcases cm_or_bit.mp hu with h | h <;> rcases cm_or_bit.mp hv with h' | h'
            · exact hH'.2.1 _ _ h h'
            · rw [cm_one_bit] at h'; subst h'; exact fun hl => hn ⟨u, h, hl⟩
            · rw [cm_one_bit] at h; subst h
              intro hl
              have h1 := up _ _ hl
              have h2 := hat v (sub' v (hH'.1 v h'))
              omega
            · rw [cm_one_bit] at h h'; subst h; subst h'; exact ir _)
        rw [cm_pc_add ha10 haH] at this
        have := hH'.2.2
        omega
      obtain ⟨x, hx, hxa⟩ := hx
      obtain ⟨t, j, ej, g1, g2, g3, g4⟩ := cm_PP_ext k 1024 S' x hS'k (Nat.le_refl _) hP (hH'.1 x hx)
      have ht : t < 1024 := cm_sub_lt g2 hS'k
      have bK : ∀ v, (cm_bm 10 (fun z => z = a ∨ (t.testBit z = true ∧ (z = x ∨ lt z x)))).testBit v = true ↔
          v = a ∨ (t.testBit v = true ∧ (v = x ∨ lt v x)) := fun v => by
        rw [cm_bm_bit]
        refine ⟨fun h => h.2, fun h => ⟨?_, h⟩⟩
        rcases h with h | h
        · omega
        · exact cm_hi ht h.1
      have hK : cm_bm 10 (fun z => z = a ∨ (t.testBit z = true ∧ (z = x ∨ lt z x))) < 1024 := cm_bm_lt _
      generalize cm_bm 10 (fun z => z = a ∨ (t.testBit z = true ∧ (z = x ∨ lt z x))) = K at bK hK
      have hKa : K.testBit a = true := (bK a).mpr (Or.inl rfl)
      have cK : cm_Chn lt K := by
        intro u v hu hv hne
        rcases (bK u).mp hu with h | ⟨h, h'⟩ <;> rcases (bK v).mp hv with f | ⟨f, f'⟩
        · omega
        · subst h
          right
          rcases f' with f' | f'
          · subst f'; exact hxa
          · exact tr _ _ _ f' hxa
        · subst f
          left
          rcases h' with h' | h'
          · subst h'; exact hxa
          · exact tr _ _ _ h' hxa
        · exact g3 u v h f hne
      have hR : cm_df S K < S := cm_df_less hS ha hKa
      have bR : ∀ v, (cm_df S K).testBit v = true ↔ S.testBit v = true ∧ ¬ K.testBit v = true := fun v => cm_df_bit hS
      have sK : cm_Sub K S := fun v hv => by
        rcases (bK v).mp hv with h | ⟨h, _⟩
        · subst h; exact ha
        · exact sub' v (g2 v h)
      have eS2 : cm_df S K ||| K = S := cm_ext (fun v => by
        rw [cm_or_bit, bR]
        constructor
        · rintro (h | h)
          · exact h.1
          · exact sK v h
        · intro h
          by_cases e : K.testBit v = true
          · exact Or.inr e
          · exact Or.inl ⟨h, e⟩)
      have ubR : ∀ A, cm_Sub A (cm_df S K) → cm_Anti lt A → cm_pc 10 A ≤ k - 1 := by
        intro A hA hAn
        apply Classical.byContradiction
        intro hgt
        have hAS : cm_Sub A S := fun v hv => ((bR v).mp (hA v hv)).1
        have hle := ub A hAS hAn
        have hAK : ∀ v, A.testBit v = true → ¬ K.testBit v = true := fun v hv => ((bR v).mp (hA v hv)).2
        have hAS' : cm_Sub A S' := fun v hv => (bS' v).mpr ⟨hAS v hv, fun e => hAK v hv (e ▸ hKa)⟩
        have hLA : cm_Lg lt S' k A := ⟨hAS', hAn, by omega⟩
        by_cases hb : ∃ b, A.testBit b = true ∧ t.testBit b = true
        · obtain ⟨b, hb1, hb2⟩ := hb
          have hbK := hAK b hb1
          have hbx : b ≠ x := fun e => hbK ((bK b).mpr (Or.inr ⟨hb2, Or.inl e⟩))
          rcases g3 b x hb2 g1 hbx with h | h
          · exact hbK ((bK b).mpr (Or.inr ⟨hb2, Or.inr h⟩))
          · exact hHl' A hLA b x hb1 hx h
        · have := cm_PP_ub j 1024 (cm_df S' t) A (cm_bm_lt _) g4
            (fun v hv => (cm_df_bit hS'k).mpr ⟨hAS' v hv, fun e => hb ⟨v, hv, e⟩⟩) hAn
          omega
      obtain ⟨k2, hk2, hP2⟩ := ih (cm_df S K) hR (cm_bm_lt _) (k - 1) ubR
      refine ⟨k2 + 1, by omega, ?_⟩
      rw [← eS2]
      refine cm_PP_ins k2 1024 _ K (cm_bm_lt _) hK hP2 ?_ hK cK (fun v hv hv' => ((bR v).mp hv').2 hv)
      intro e
      rw [e] at hKa
      simp at hKa
    · obtain ⟨k, hk, hP⟩ := ih S' hS' hS'k (w - 1) (fun A h1 h2 => by
        have h3 := ub' A h1 h2
        have h4 : cm_pc 10 A ≠ w := fun e => hB ⟨A, h1, h2, e⟩
        omega)
      refine ⟨k + 1, by omega, ?_⟩
      rw [← eS]
      exact cm_PP_ins k 1024 S' (2 ^ a) hS'k h2a hP h2a0 h2a
        (fun u v hu hv hne => by rw [cm_one_bit] at hu hv; omega)
        (fun v hv hv' => by rw [cm_one_bit] at hv; exact ((bS' v).mp hv').2 hv.symm)

-- longest chains by layers
theorem cm_layer {lt : Nat → Nat → Prop} (tr : ∀ a b c, lt a b → lt b c → lt a c) (up : ∀ a b, lt a b → a < b) {S w : Nat}
    (hS : S < 1024) (h0 : S ≠ 0) (h : cm_Lc lt (cm_df S (cm_mn lt S)) w) : cm_Lc lt S (w + 1) := by
  obtain ⟨⟨C, hC1, hC2, hC3⟩, hub⟩ := h
  have hC : C < 1024 := cm_sub_lt hC1 (cm_bm_lt _)
  have bD : ∀ v, (cm_df S (cm_mn lt S)).testBit v = true ↔ S.testBit v = true ∧ ¬ (cm_mn lt S).testBit v = true := fun v => cm_df_bit hS
  have bM : ∀ v, (cm_mn lt S).testBit v = true ↔ S.testBit v = true ∧ ∀ u, S.testBit u = true → ¬ lt u v := fun v => cm_mn_bit hS
  refine ⟨?_, ?_⟩
  · have hy : ∃ y, S.testBit y = true ∧ ∀ v, C.testBit v = true → lt y v := by
      by_cases e : C = 0
      · obtain ⟨y, hy⟩ := Nat.exists_testBit_of_ne_zero h0
        exact ⟨y, hy, fun v hv => by rw [e] at hv; simp at hv⟩
      · obtain ⟨b, hb, hbl⟩ := cm_bot e
        obtain ⟨hb1, hb2⟩ := (bD b).mp (hC1 b hb)
        have : ∃ y, S.testBit y = true ∧ lt y b := by
          apply Classical.byContradiction
          intro hn
          exact hb2 ((bM b).mpr ⟨hb1, fun u hu hl => hn ⟨u, hu, hl⟩⟩)
        obtain ⟨y, hy, hyb⟩ := this
        refine ⟨y, hy, fun v hv => ?_⟩
        by_cases e2 : v = b
        · subst e2; exact hyb
        · rcases hC2 v b hv hb e2 with h | h
          · have h1 := up _ _ h
            have h2 := hbl v hv
            omega
          · exact tr _ _ _ hyb h
    obtain ⟨y, hy, hyC⟩ := hy
    have hyn : ¬ C.testBit y = true := fun h => Nat.lt_irrefl y (up _ _ (hyC y h))
    refine ⟨C ||| 2 ^ y, ?_, ?_, ?_⟩
    · intro v hv
      rcases cm_or_bit.mp hv with h | h
      · exact ((bD v).mp (hC1 v h)).1
      · rw [cm_one_bit] at h; subst h; exact hy
    · intro u v hu hv hne
      rcases cm_or_bit.mp hu with h | h <;> rcases cm_or_bit.mp hv with h' | h'
      · exact hC2 u v h h' hne
      · rw [cm_one_bit] at h'; subst h'; exact Or.inr (hyC u h)
      · rw [cm_one_bit] at h; subst h; exact Or.inl (hyC v h')
      · rw [cm_one_bit] at h h'; omega
    · rw [cm_pc_add (cm_hi hS hy) hyn, hC3]
  · intro A hA hAc
    have hA1 : A < 1024 := cm_sub_lt hA hS
    rw [cm_pc_df (t := cm_mn lt S) hA1]
    have e1 := hub (cm_df A (cm_mn lt S))
      (fun v hv => (bD v).mpr ⟨hA v ((cm_df_bit hA1).mp hv).1, ((cm_df_bit hA1).mp hv).2⟩)
      (fun u v hu hv hne => hAc u v ((cm_df_bit hA1).mp hu).1 ((cm_df_bit hA1).mp hv).1 hne)
    have e2 : cm_pc 10 (A &&& cm_mn lt S) ≤ 1 := cm_pc_le1 10 (fun u v hu hv => by
      obtain ⟨a1, b1⟩ := cm_and_bit.mp hu
      obtain ⟨a2, b2⟩ := cm_and_bit.mp hv
      apply Classical.byContradiction
      intro hne
      rcases hAc u v a1 a2 hne with h | h
      · exact cm_mn_anti hS u v b1 b2 h
      · exact cm_mn_anti hS v u b2 b1 h)
    omega

theorem cm_Lc_0 {lt : Nat → Nat → Prop} : cm_Lc lt 0 0 :=
  ⟨⟨0, fun _ h => h, fun u v hu => by simp at hu, cm_pc_0 10 (fun v hv => by simp at hv)⟩,
   fun A hA _ => Nat.le_of_eq (cm_pc_0 10 (fun v hv => by have := hA v hv; simp at this))⟩

-- submasks downward
theorem cm_sub_half {p s : Nat} (h : cm_Sub p s) : cm_Sub (p / 2) (s / 2) := fun v hv => by
  have h1 := h (v + 1)
  rw [Nat.testBit_succ, Nat.testBit_succ] at h1
  exact h1 hv
theorem cm_sub_and {p s : Nat} (h : cm_Sub p s) : p &&& s = p := cm_ext (fun v => by
  rw [cm_and_bit]
  exact ⟨fun g => g.1, fun g => ⟨g, h v g⟩⟩)
theorem cm_sub_odd {p s : Nat} (h : cm_Sub p s) : p % 2 ≤ s % 2 := by
  have h0 := h 0
  rw [Nat.testBit_zero, Nat.testBit_zero, decide_eq_true_eq, decide_eq_true_eq] at h0
  omega
theorem cm_and_odd (a b : Nat) : (a &&& b) % 2 = (a % 2) * (b % 2) := by
  have h := Nat.and_mod_two_eq_one (a := a) (b := b)
  rcases Nat.mod_two_eq_zero_or_one a with ha | ha <;> rcases Nat.mod_two_eq_zero_or_one b with hb | hb <;>
    rcases Nat.mod_two_eq_zero_or_one (a &&& b) with hc | hc <;> simp_all
theorem cm_down : ∀ (p set q : Nat), cm_Sub p set → cm_Sub q set → q < p → q ≤ (p - 1) &&& set := by
  intro p
  induction p using Nat.strongRecOn with
  | ind p ih =>
    intro set q hp hq hlt
    have e1 : ((p - 1) &&& set) / 2 = (p - 1) / 2 &&& set / 2 := Nat.and_div_two
    have e2 := cm_and_odd (p - 1) set
    have o1 := cm_sub_odd hp
    have o2 := cm_sub_odd hq
    have s1 := cm_sub_half hp
    have s2 := cm_sub_half hq
    rcases Nat.mod_two_eq_zero_or_one p with hp2 | hp2
    · have e3 : (p - 1) / 2 = p / 2 - 1 := by omega
      have e4 : (p - 1) % 2 = 1 := by omega
      rw [e4, Nat.one_mul] at e2
      rw [e3] at e1
      have h1 := ih (p / 2) (by omega) (set / 2) (q / 2) s1 s2 (by omega)
      generalize (p - 1) &&& set = z at e1 e2 ⊢
      rw [← e1] at h1
      omega
    · have e3 : (p - 1) / 2 = p / 2 := by omega
      rw [e3, cm_sub_and s1] at e1
      generalize (p - 1) &&& set = z at e1 e2 ⊢
      omega
end
section
-- machine ints as masks
theorem cm_or (a b : Nat) : nI a ||| nI b = nI (a ||| b) := by
  apply Int32.toBitVec_inj.1
  show BitVec.ofNat 32 a ||| BitVec.ofNat 32 b = BitVec.ofNat 32 (a ||| b)
  apply BitVec.eq_of_getLsbD_eq
  intro i hi
  simp [hi]
theorem cm_shr {s v : Nat} (hs : s < 2 ^ 31) (hv : v < 32) : (nI s >>> (nI v &&& 31)) &&& 1 = nI (s.testBit v).toNat := by
  have h1 : s / 2 ^ v ≤ s := Nat.div_le_self _ _
  rw [pk_shrN hs _ v (s_l v hv), pk_andN (by omega) 1 (by decide)]
  apply congrArg nI
  rw [Nat.testBit_eq_decide_div_mod_eq]
  show s / 2 ^ v % 2 = _
  generalize s / 2 ^ v = z
  rcases Nat.mod_two_eq_zero_or_one z with h | h <;> rw [h] <;> rfl
theorem cm_b0 {s v : Nat} (hs : s < 2 ^ 31) (hv : v < 32) : (nI s >>> (nI v &&& 31)) &&& 1 = 0 ↔ s.testBit v = false := by
  rw [cm_shr hs hv]
  cases s.testBit v
  · exact ⟨fun _ => rfl, fun _ => rfl⟩
  · exact ⟨fun h => absurd h (by decide), fun h => by cases h⟩
theorem cm_b1 {s v : Nat} (hs : s < 2 ^ 31) (hv : v < 32) : (nI s >>> (nI v &&& 31)) &&& 1 = 1 ↔ s.testBit v = true := by
  rw [cm_shr hs hv]
  cases s.testBit v
  · exact ⟨fun h => absurd h (by decide), fun h => by cases h⟩
  · exact ⟨fun _ => rfl, fun _ => rfl⟩
theorem cm_p2 {c : Nat} (h : c ≤ 10) : 2 ^ c ≤ 1024 := by
  have h1 : (2 : Nat) ^ c ≤ 2 ^ 10 := Nat.pow_le_pow_right (by decide) h
  rw [show (2 : Nat) ^ 10 = 1024 from rfl] at h1
  exact h1
theorem cm_shl {v : Nat} (hv : v ≤ 10) : (1 : Int32) <<< (nI v &&& 31) = nI (2 ^ v) := by
  have h1 := cm_p2 hv
  have h := pk_shlN (n := 1) (nI v &&& 31) v (s_l v (by omega)) (by omega)
  rw [Nat.one_mul] at h
  exact h
theorem cm_btn (n : Nat) {i : Nat} (hi : i < 32) : bt (nI n) i = n.testBit i := by
  unfold bt
  show (BitVec.ofNat 32 n).getLsbD i = _
  rw [BitVec.getLsbD_ofNat]
  simp [hi]
theorem cm_not {r m : Nat} (hr : r < 1024) : nI r &&& (nI m ^^^ (-1)) = nI (cm_df r m) := by
  apply b_ext
  intro i hi
  rw [b_and, b_xor, b_m1 i hi, cm_btn _ hi, cm_btn _ hi, cm_btn _ hi]
  have h := cm_df_bit (s := r) (t := m) (v := i) hr
  cases e : r.testBit i <;> cases f : m.testBit i <;> cases g : (cm_df r m).testBit i <;> simp_all
theorem cm_0i {s : Nat} : s = 0 ↔ ∀ v, ¬ s.testBit v = true := by
  constructor
  · intro h v
    rw [h]
    simp
  · intro h
    apply cm_ext
    intro v
    exact ⟨fun g => absurd g (h v), fun g => by simp at g⟩
theorem cm_nI0 {s : Nat} (hs : s < 2 ^ 31) : nI s = 0 ↔ s = 0 := by
  rw [← nI_0, nI_eq hs (by omega)]
theorem cm_sub0 {p s : Nat} (hp : p < 1024) : nI p &&& (nI s ^^^ (-1)) = 0 ↔ cm_Sub p s := by
  have hl : cm_df p s < 1024 := cm_bm_lt _
  rw [cm_not hp, cm_nI0 (by omega), cm_0i]
  constructor
  · intro h v hv
    apply Classical.byContradiction
    intro hn
    exact h v ((cm_df_bit hp).mpr ⟨hv, hn⟩)
  · intro h v hv
    have := (cm_df_bit hp).mp hv
    exact this.2 (h v this.1)
theorem cm_and0 {p s : Nat} (hp : p < 1024) : nI p &&& nI s = 0 ↔ p &&& s = 0 := by
  have hl : p &&& s ≤ p := Nat.and_le_left
  rw [nx_and, cm_nI0 (by omega)]
theorem cm_and0' {p s : Nat} : p &&& s = 0 ↔ ∀ v, p.testBit v = true → ¬ s.testBit v = true := by
  rw [cm_0i]
  constructor
  · intro h v h1 h2
    exact h v (cm_and_bit.mpr ⟨h1, h2⟩)
  · intro h v h1
    exact h v (cm_and_bit.mp h1).1 (cm_and_bit.mp h1).2

-- the order of c elements with down-sets d
def cm_OK (c : Nat) (d : Nat → Nat) : Prop :=
  c ≤ 10 ∧ (∀ v, v < c → d v < 2 ^ v) ∧ ∀ v u t, v < c → (d v).testBit u = true → (d u).testBit t = true → (d v).testBit t = true
def cm_L (c : Nat) (d : Nat → Nat) : Nat → Nat → Prop := fun u v => v < c ∧ (d v).testBit u = true

theorem cm_hi2 {c s v : Nat} (hs : s < 2 ^ c) (h : s.testBit v = true) : v < c := by
  apply Classical.byContradiction
  intro hv
  have h2 : s < 2 ^ v := Nat.lt_of_lt_of_le hs (Nat.pow_le_pow_right (by decide) (by omega))
  rw [Nat.testBit_lt_two_pow h2] at h
  cases h
theorem cm_lt2 {c s : Nat} (h : ∀ v, s.testBit v = true → v < c) : s < 2 ^ c := by
  apply Nat.lt_pow_two_of_testBit
  intro i hi
  cases e : s.testBit i with
  | false => rfl
  | true => have := h i e; omega
theorem cm_fb {c v : Nat} : (2 ^ c - 1).testBit v = true ↔ v < c := by
  rw [Nat.testBit_two_pow_sub_one, decide_eq_true_eq]
theorem cm_fs {c s : Nat} : cm_Sub s (2 ^ c - 1) ↔ s < 2 ^ c := by
  constructor
  · intro h
    exact cm_lt2 (fun v hv => cm_fb.mp (h v hv))
  · intro h v hv
    exact cm_fb.mpr (cm_hi2 h hv)
theorem cm_dk {c : Nat} {d : Nat → Nat} (ok : cm_OK c d) {v : Nat} (hv : v < c) : d v < 1024 := by
  have h1 := ok.2.1 v hv
  have h2 := cm_p2 (c := v) (by have := ok.1; omega)
  omega
theorem cm_up {c : Nat} {d : Nat → Nat} (ok : cm_OK c d) : ∀ a b, cm_L c d a b → a < b :=
  fun a b h => cm_hi2 (ok.2.1 b h.1) h.2
theorem cm_tr {c : Nat} {d : Nat → Nat} (ok : cm_OK c d) : ∀ x y z, cm_L c d x y → cm_L c d y z → cm_L c d x z :=
  fun x y z h1 h2 => ⟨h2.1, ok.2.2 z y x h2.1 h2.2 h1.2⟩
theorem cm_ir {c : Nat} {d : Nat → Nat} (ok : cm_OK c d) : ∀ a, ¬ cm_L c d a a :=
  fun a h => Nat.lt_irrefl a (cm_up ok a a h)
end
section
-- the greatest number of elements of the sets with G, found so far among those with D
def cm_Wg (G D : Nat → Prop) (b : Nat) : Prop := (∃ A, G A ∧ cm_pc 10 A = b) ∧ ∀ A, D A → G A → cm_pc 10 A ≤ b
theorem cm_Wg_no {G D D' : Nat → Prop} {b : Nat} (p : Nat) (h : cm_Wg G D b) (hD : ∀ A, D' A → G A → D A ∨ A = p) (hp : G p → cm_pc 10 p ≤ b) : cm_Wg G D' b := by
  refine ⟨h.1, fun A hA hG => ?_⟩
  rcases hD A hA hG with g | g
  · exact h.2 A g hG
  · subst g; exact hp hG
theorem cm_Wg_yes {G D D' : Nat → Prop} {b : Nat} (p : Nat) (h : cm_Wg G D b) (hD : ∀ A, D' A → G A → D A ∨ A = p) (hp : G p) (hb : b ≤ cm_pc 10 p) : cm_Wg G D' (cm_pc 10 p) := by
  refine ⟨⟨p, hp, rfl⟩, fun A hA hG => ?_⟩
  rcases hD A hA hG with g | g
  · exact Nat.le_trans (h.2 A g hG) hb
  · subst g; exact Nat.le_refl _
theorem cm_Wg_un {G D D' : Nat → Prop} {b b' : Nat} (h : cm_Wg G D b) (h' : cm_Wg G D' b') (hD : ∀ A, G A → D A) (hD' : ∀ A, G A → D' A) : b = b' := by
  obtain ⟨⟨A, hA, ea⟩, ub⟩ := h
  obtain ⟨⟨A', hA', ea'⟩, ub'⟩ := h'
  have h1 := ub A' (hD A' hA') hA'
  have h2 := ub' A (hD' A hA) hA
  omega
theorem cm_pc00 : cm_pc 10 0 = 0 := cm_pc_0 10 (fun v hv => by simp at hv)
theorem cm_Wg_0 {G D : Nat → Prop} (h0 : G 0) (hD : ∀ A, ¬ D A) : cm_Wg G D 0 :=
  ⟨⟨0, h0, cm_pc00⟩, fun A hA => absurd hA (hD A)⟩
theorem cm_Sub0 (s : Nat) : cm_Sub 0 s := fun v hv => by simp at hv
theorem cm_Anti0 (lt : Nat → Nat → Prop) : cm_Anti lt 0 := fun u v hu => by simp at hu
theorem cm_Chn0 (lt : Nat → Nat → Prop) : cm_Chn lt 0 := fun u v hu => by simp at hu
theorem cm_Wd_of {lt : Nat → Nat → Prop} {S b : Nat} {D : Nat → Prop} (h : cm_Wg (fun A => cm_Sub A S ∧ cm_Anti lt A) D b) (hD : ∀ A, cm_Sub A S → D A) : cm_Wd lt S b := by
  obtain ⟨⟨A, hA, ea⟩, ub⟩ := h
  exact ⟨⟨A, hA.1, hA.2, ea⟩, fun A h1 h2 => ub A (hD A h1) ⟨h1, h2⟩⟩
theorem cm_Lc_of {lt : Nat → Nat → Prop} {S b : Nat} {D : Nat → Prop} (h : cm_Wg (fun A => cm_Sub A S ∧ cm_Chn lt A) D b) (hD : ∀ A, cm_Sub A S → D A) : cm_Lc lt S b := by
  obtain ⟨⟨A, hA, ea⟩, ub⟩ := h
  exact ⟨⟨A, hA.1, hA.2, ea⟩, fun A h1 h2 => ub A (hD A h1) ⟨h1, h2⟩⟩
theorem cm_Wd_un {lt : Nat → Nat → Prop} {S b b' : Nat} (h : cm_Wd lt S b) (h' : cm_Wd lt S b') : b = b' := by
  obtain ⟨⟨A, h1, h2, ea⟩, ub⟩ := h
  obtain ⟨⟨A', h1', h2', ea'⟩, ub'⟩ := h'
  have g1 := ub A' h1' h2'
  have g2 := ub' A h1 h2
  omega
theorem cm_Lc_un {lt : Nat → Nat → Prop} {S b b' : Nat} (h : cm_Lc lt S b) (h' : cm_Lc lt S b') : b = b' := by
  obtain ⟨⟨A, h1, h2, ea⟩, ub⟩ := h
  obtain ⟨⟨A', h1', h2', ea'⟩, ub'⟩ := h'
  have g1 := ub A' h1' h2'
  have g2 := ub' A h1 h2
  omega
theorem cm_Wd_le {lt : Nat → Nat → Prop} {S b : Nat} (h : cm_Wd lt S b) : b ≤ 10 := by
  obtain ⟨⟨A, h1, h2, ea⟩, ub⟩ := h
  have := cm_pc_le 10 A
  omega
theorem cm_Wg_le {G D : Nat → Prop} {b : Nat} (h : cm_Wg G D b) : b ≤ 10 := by
  obtain ⟨⟨A, h1, ea⟩, ub⟩ := h
  have := cm_pc_le 10 A
  omega

-- the union of the largest ones
def cm_Un (G : Nat → Prop) (i b U : Nat) : Prop :=
  cm_Wg G (fun A => A < i) b ∧ ∀ v, U.testBit v = true ↔ ∃ A, A < i ∧ G A ∧ cm_pc 10 A = b ∧ A.testBit v = true
theorem cm_Un_0 {G : Nat → Prop} (h0 : G 0) : cm_Un G 0 0 0 := by
  refine ⟨cm_Wg_0 h0 (fun A => Nat.not_lt_zero A), fun v => ⟨fun h => by simp at h, ?_⟩⟩
  rintro ⟨A, hA, _⟩
  exact absurd hA (Nat.not_lt_zero A)
theorem cm_Un_no {G : Nat → Prop} {i b U : Nat} (h : cm_Un G i b U) (hi : ¬ (b ≤ cm_pc 10 i ∧ G i)) : cm_Un G (i + 1) b U := by
  refine ⟨cm_Wg_no i h.1 (fun A hA _ => by have : A < i + 1 := hA; show A < i ∨ A = i; omega) (fun hg => ?_), fun v => ?_⟩
  · have : ¬ b ≤ cm_pc 10 i := fun z => hi ⟨z, hg⟩
    omega
  · rw [h.2 v]
    constructor
    · rintro ⟨A, h1, h2⟩
      exact ⟨A, by omega, h2⟩
    · rintro ⟨A, h1, h2, h3, h4⟩
      by_cases e : A = i
      · subst e
        exact absurd ⟨by omega, h2⟩ hi
      · exact ⟨A, by omega, h2, h3, h4⟩
theorem cm_Un_gt {G : Nat → Prop} {i b U : Nat} (h : cm_Un G i b U) (hg : G i) (hi : b < cm_pc 10 i) : cm_Un G (i + 1) (cm_pc 10 i) i := by
  refine ⟨cm_Wg_yes i h.1 (fun A hA _ => by have : A < i + 1 := hA; show A < i ∨ A = i; omega) hg (by omega), fun v => ?_⟩
  constructor
  · intro hv
    exact ⟨i, by omega, hg, rfl, hv⟩
  · rintro ⟨A, h1, h2, h3, h4⟩
    by_cases e : A = i
    · subst e; exact h4
    · have := h.1.2 A (show A < i by omega) h2
      omega
theorem cm_Un_eq {G : Nat → Prop} {i b U : Nat} (h : cm_Un G i b U) (hg : G i) (hi : b = cm_pc 10 i) : cm_Un G (i + 1) (cm_pc 10 i) (U ||| i) := by
  refine ⟨cm_Wg_yes i h.1 (fun A hA _ => by have : A < i + 1 := hA; show A < i ∨ A = i; omega) hg (by omega), fun v => ?_⟩
  rw [cm_or_bit, h.2 v]
  constructor
  · rintro (⟨A, h1, h2, h3, h4⟩ | hv)
    · exact ⟨A, by omega, h2, by omega, h4⟩
    · exact ⟨i, by omega, hg, rfl, hv⟩
  · rintro ⟨A, h1, h2, h3, h4⟩
    by_cases e : A = i
    · subst e; exact Or.inr h4
    · exact Or.inl ⟨A, by omega, h2, by omega, h4⟩

-- the table of the fewest chains
def cm_ut (T : Nat → Nat) (k x : Nat) : Nat → Nat := fun j => if j = k then x else T j
def cm_Lo (lt : Nat → Nat → Prop) (S : Nat) (T : Nat → Nat) : Prop := ∀ s, s ≤ S → T s ≤ 100 ∧ ∀ A, cm_Sub A s → cm_Anti lt A → cm_pc 10 A ≤ T s
def cm_Hi (lt : Nat → Nat → Prop) (S m : Nat) (T : Nat → Nat) : Prop := ∀ k s, cm_Sub s S → cm_PP lt k m s → T s ≤ k
def cm_In (lt : Nat → Nat → Prop) (S m : Nat) (T0 : Nat → Nat) (r : Nat) (T : Nat → Nat) : Prop :=
  (∀ s, s ≤ S → T s ≤ T0 s) ∧ (∀ s, s ≤ S → s &&& m = 0 → T s = T0 s) ∧
  (∀ s, s < r → cm_Sub s S → s &&& m = 0 → T (s ||| m) ≤ T0 s + 1) ∧ cm_Lo lt S T
def cm_T0 : Nat → Nat := fun s => if s = 0 then 0 else 100
theorem cm_Lo_i (lt : Nat → Nat → Prop) (S : Nat) : cm_Lo lt S cm_T0 := by
  intro s hs
  unfold cm_T0
  by_cases e : s = 0
  · rw [if_pos e]
    refine ⟨by omega, fun A hA _ => ?_⟩
    subst e
    rw [cm_pc_0 10 (fun v hv => by have := hA v hv; simp at this)]
    exact Nat.le_refl 0
  · rw [if_neg e]
    refine ⟨by omega, fun A hA _ => ?_⟩
    have := cm_pc_le 10 A
    omega
theorem cm_Hi_i (lt : Nat → Nat → Prop) (S : Nat) : cm_Hi lt S 1 cm_T0 := by
  intro k s hs hp
  cases k with
  | zero =>
    have e : s = 0 := hp
    unfold cm_T0
    rw [if_pos e]
    exact Nat.le_refl 0
  | succ k =>
    obtain ⟨t, h1, h2, _⟩ := hp
    omega
theorem cm_In_0 {lt : Nat → Nat → Prop} {S m : Nat} {T0 : Nat → Nat} (h : cm_Lo lt S T0) : cm_In lt S m T0 0 T0 :=
  ⟨fun _ _ => Nat.le_refl _, fun _ _ _ => rfl, fun s hs => absurd hs (Nat.not_lt_zero s), h⟩
theorem cm_In_n {lt : Nat → Nat → Prop} {S m r : Nat} {T0 T : Nat → Nat} (h : cm_In lt S m T0 r T)
    (hn : ¬ (r &&& m = 0 ∧ cm_Sub r S ∧ T r + 1 < T (r ||| m))) : cm_In lt S m T0 (r + 1) T := by
  obtain ⟨h1, h2, h3, h4⟩ := h
  refine ⟨h1, h2, fun s hs hS h0 => ?_, h4⟩
  by_cases e : s = r
  · subst e
    have e2 : ¬ T s + 1 < T (s ||| m) := fun z => hn ⟨h0, hS, z⟩
    have e3 := h2 s (cm_sub_le hS) h0
    omega
  · exact h3 s (by omega) hS h0
theorem cm_or_sub {a b s : Nat} (h1 : cm_Sub a s) (h2 : cm_Sub b s) : cm_Sub (a ||| b) s := fun v hv => by
  rcases cm_or_bit.mp hv with h | h
  · exact h1 v h
  · exact h2 v h
theorem cm_In_w {lt : Nat → Nat → Prop} {S m r : Nat} {T0 T : Nat → Nat} (hS : S < 1024) (m0 : m ≠ 0) (mS : cm_Sub m S) (mC : cm_Chn lt m)
    (rS : cm_Sub r S) (rm : r &&& m = 0) (hT : T r + 1 < T (r ||| m)) (h : cm_In lt S m T0 r T) :
    cm_In lt S m T0 (r + 1) (cm_ut T (r ||| m) (T r + 1)) := by
  obtain ⟨h1, h2, h3, h4⟩ := h
  have hle : r ||| m ≤ S := cm_sub_le (cm_or_sub rS mS)
  have key : ∀ s, s ≤ S → cm_ut T (r ||| m) (T r + 1) s ≤ T s := by
    intro s _
    unfold cm_ut
    by_cases e : s = r ||| m
    · rw [if_pos e, e]; omega
    · rw [if_neg e]; exact Nat.le_refl _
  refine ⟨fun s hs => Nat.le_trans (key s hs) (h1 s hs), fun s hs h0 => ?_, fun s hs hsS h0 => ?_, fun s hs => ?_⟩
  · have e : s ≠ r ||| m := by
      intro e
      obtain ⟨v, hv⟩ := Nat.exists_testBit_of_ne_zero m0
      refine cm_and0'.mp h0 v ?_ hv
      rw [e]
      exact cm_or_bit.mpr (Or.inr hv)
    unfold cm_ut
    rw [if_neg e]
    exact h2 s hs h0
  · by_cases e : s = r
    · subst e
      unfold cm_ut
      rw [if_pos rfl, h2 s (cm_sub_le hsS) h0]
      exact Nat.le_refl _
    · exact Nat.le_trans (key _ (cm_sub_le (cm_or_sub hsS mS))) (h3 s (by omega) hsS h0)
  · unfold cm_ut
    by_cases e : s = r ||| m
    · rw [if_pos e]
      have h5 := (h4 s hs).1
      rw [e] at h5
      refine ⟨by omega, fun A hA hAn => ?_⟩
      have hA1 : A < 1024 := Nat.lt_of_le_of_lt (Nat.le_trans (cm_sub_le hA) hs) hS
      rw [cm_pc_df (t := m) hA1]
      have h6 := cm_meet1 hAn mC
      have h7 := (h4 r (cm_sub_le rS)).2 (cm_df A m) (fun v hv => by
          obtain ⟨g1, g2⟩ := (cm_df_bit hA1).mp hv
          have g3 := hA v g1
          rw [e] at g3
          rcases cm_or_bit.mp g3 with g | g
          · exact g
          · exact absurd g g2)
        (fun u v hu hv => hAn u v ((cm_df_bit hA1).mp hu).1 ((cm_df_bit hA1).mp hv).1)
      omega
    · rw [if_neg e]
      exact h4 s hs
theorem cm_Hi_n {lt : Nat → Nat → Prop} {S m : Nat} {T : Nat → Nat} (hn : ¬ (cm_Sub m S ∧ cm_Chn lt m)) (h : cm_Hi lt S m T) : cm_Hi lt S (m + 1) T := by
  intro k s hs hp
  cases k with
  | zero => exact h 0 s hs hp
  | succ k =>
    obtain ⟨t, h1, h2, h3, h4, h5⟩ := hp
    by_cases e : t = m
    · subst e
      exact absurd ⟨fun v hv => hs v (h3 v hv), h4⟩ hn
    · exact h (k + 1) s hs ⟨t, by omega, h2, h3, h4, h5⟩
theorem cm_Hi_g {lt : Nat → Nat → Prop} {S m : Nat} {T0 T : Nat → Nat} (hS : S < 1024) (h : cm_Hi lt S m T0) (hi : cm_In lt S m T0 (S + 1) T) : cm_Hi lt S (m + 1) T := by
  obtain ⟨i1, i2, i3, i4⟩ := hi
  intro k s hs hp
  have hsl := cm_sub_le hs
  have hs1 : s < 1024 := by omega
  cases k with
  | zero => exact Nat.le_trans (i1 s hsl) (h 0 s hs hp)
  | succ k =>
    obtain ⟨t, h1, h2, h3, h4, h5⟩ := hp
    by_cases e : t = m
    · subst e
      have b1 : cm_Sub (cm_df s t) S := fun v hv => hs v ((cm_df_bit hs1).mp hv).1
      have b2 : cm_df s t &&& t = 0 := cm_and0'.mpr (fun v hv => ((cm_df_bit hs1).mp hv).2)
      have b3 : cm_df s t ||| t = s := cm_ext (fun v => by
        rw [cm_or_bit, cm_df_bit hs1]
        constructor
        · rintro (g | g)
          · exact g.1
          · exact h3 v g
        · intro g
          by_cases f : t.testBit v = true
          · exact Or.inr f
          · exact Or.inl ⟨g, f⟩)
      have b4 := i3 (cm_df s t) (by have := cm_sub_le b1; omega) b1 b2
      rw [b3] at b4
      have b5 := h k (cm_df s t) b1 h5
      omega
    · exact Nat.le_trans (i1 s hsl) (h (k + 1) s hs ⟨t, by omega, h2, h3, h4, h5⟩)
theorem cm_chains {lt : Nat → Nat → Prop} (tr : ∀ a b c, lt a b → lt b c → lt a c) (up : ∀ a b, lt a b → a < b) {S w : Nat} {T : Nat → Nat} (hS : S < 1024)
    (hl : cm_Lo lt S T) (hh : cm_Hi lt S (S + 1) T) (hw : cm_Wd lt S w) : T S = w := by
  obtain ⟨⟨A, h1, h2, ea⟩, ub⟩ := hw
  have g1 := (hl S (Nat.le_refl _)).2 A h1 h2
  obtain ⟨k, hk, hP⟩ := cm_dil tr up S hS w ub
  have hP2 : cm_PP lt k (S + 1) S := by
    cases k with
    | zero => exact hP
    | succ k =>
      obtain ⟨t, _, f2, f3, f4⟩ := hP
      exact ⟨t, by have := cm_sub_le f3; omega, f2, f3, f4⟩
  have g2 := hh k S (fun _ h => h) hP2
  omega
end
section
-- antichains and chains as the two programs see them
theorem cm_anti_eb {c : Nat} {d : Nat → Nat} {s f : Nat} (hs : s < 2 ^ c)
    (hf : ∀ t, f.testBit t = true ↔ ∃ v, v < c ∧ s.testBit v = true ∧ (d v).testBit t = true) : f &&& s = 0 ↔ cm_Anti (cm_L c d) s := by
  rw [cm_and0']
  constructor
  · intro h u v hu hv hl
    exact h u ((hf u).mpr ⟨v, hl.1, hv, hl.2⟩) hu
  · intro h u hu hu2
    obtain ⟨v, h1, h2, h3⟩ := (hf u).mp hu
    exact h u v hu2 h2 ⟨h1, h3⟩
theorem cm_uni_anti {c : Nat} {d : Nat → Nat} (ok : cm_OK c d) {s : Nat} (hs : s < 2 ^ c) :
    (∀ v, v < c → ∀ u, u < v → s.testBit u = true → s.testBit v = true → (d v).testBit u = false) ↔ cm_Anti (cm_L c d) s := by
  constructor
  · intro h u v hu hv hl
    have := h v hl.1 u (cm_up ok u v hl) hu hv
    rw [hl.2] at this
    cases this
  · intro h v hv u huv hu hs2
    cases e : (d v).testBit u with
    | false => rfl
    | true => exact absurd ⟨hv, e⟩ (h u v hu hs2)
theorem cm_uni_chn {c : Nat} {d : Nat → Nat} (ok : cm_OK c d) {s : Nat} (hs : s < 2 ^ c) :
    (∀ v, v < c → ∀ u, u < v → s.testBit u = true → s.testBit v = true → (d v).testBit u = true) ↔ cm_Chn (cm_L c d) s := by
  constructor
  · intro h u v hu hv hne
    have h1 := cm_hi2 hs hu
    have h2 := cm_hi2 hs hv
    rcases Nat.lt_or_gt_of_ne hne with g | g
    · exact Or.inl ⟨h2, h v h2 u g hu hv⟩
    · exact Or.inr ⟨h1, h u h1 v g hv hu⟩
  · intro h v hv u huv hu hs2
    rcases h u v hu hs2 (by omega) with g | g
    · exact g.2
    · have := cm_up ok v u g
      omega
theorem cm_noabove {c : Nat} {d : Nat → Nat} (ok : cm_OK c d) {u v : Nat} (hv : v < c) (h : u < v) : (d u).testBit v = false := by
  cases e : (d u).testBit v with
  | false => rfl
  | true =>
    have := cm_up ok v u ⟨by omega, e⟩
    omega

-- minimal and maximal elements
theorem cm_mn_eq {c : Nat} {d : Nat → Nat} {s f : Nat} (hc : c ≤ 10) (hs : s < 2 ^ c)
    (hf : ∀ v, f.testBit v = true ↔ v < c ∧ s.testBit v = true ∧ d v &&& s = 0) : f = cm_mn (cm_L c d) s := by
  have hp := cm_p2 hc
  apply cm_ext
  intro v
  rw [hf v, cm_mn_bit (by omega)]
  constructor
  · rintro ⟨h1, h2, h3⟩
    exact ⟨h2, fun u hu hl => cm_and0'.mp h3 u hl.2 hu⟩
  · rintro ⟨h1, h2⟩
    have hv := cm_hi2 hs h1
    exact ⟨hv, h1, cm_and0'.mpr (fun u hu hu2 => h2 u hu2 ⟨hv, hu⟩)⟩
theorem cm_mx_eq {c : Nat} {d : Nat → Nat} {s f : Nat} (hc : c ≤ 10) (hs : s < 2 ^ c)
    (hf : ∀ t, f.testBit t = true ↔ ∃ v, v < c ∧ s.testBit v = true ∧ (d v).testBit t = true) :
    cm_df s f = cm_mn (fun a b => cm_L c d b a) s := by
  have hp := cm_p2 hc
  apply cm_ext
  intro v
  rw [cm_df_bit (by omega), cm_mn_bit (by omega)]
  constructor
  · rintro ⟨h1, h2⟩
    exact ⟨h1, fun u hu hl => h2 ((hf v).mpr ⟨u, hl.1, hu, hl.2⟩)⟩
  · rintro ⟨h1, h2⟩
    refine ⟨h1, fun h => ?_⟩
    obtain ⟨u, g1, g2, g3⟩ := (hf v).mp h
    exact h2 u g2 ⟨g1, g3⟩

-- layers
theorem cm_pc_pos {s v : Nat} (hv : v < 10) (h : s.testBit v = true) : 1 ≤ cm_pc 10 s := by
  have h1 := cm_pc_mono 10 (s := 2 ^ v) (t := s) (fun u hu => by
    rw [cm_one_bit] at hu
    subst hu
    exact h)
  rw [cm_pc_one 10 v hv] at h1
  exact h1
theorem cm_peel {lt : Nat → Nat → Prop} (up : ∀ a b, lt a b → a < b) {S : Nat} (hS : S < 1024) (h0 : S ≠ 0) :
    cm_pc 10 (cm_df S (cm_mn lt S)) + 1 ≤ cm_pc 10 S := by
  obtain ⟨a, ha, hl⟩ := cm_bot h0
  have hm : (cm_mn lt S).testBit a = true := (cm_mn_bit hS).mpr ⟨ha, fun u hu hlt => by
    have h1 := up _ _ hlt
    have h2 := hl u hu
    omega⟩
  have h1 := cm_pc_df (t := cm_mn lt S) hS
  have h2 : 1 ≤ cm_pc 10 (S &&& cm_mn lt S) := cm_pc_pos (cm_hi hS ha) (cm_and_bit.mpr ⟨ha, hm⟩)
  omega
def cm_Ly (lt : Nat → Nat → Prop) (S i R : Nat) : Prop := R ≤ S ∧ cm_Sub R S ∧ cm_pc 10 R + i ≤ 10 ∧ ∀ w, cm_Lc lt R w → cm_Lc lt S (w + i)
theorem cm_Ly_0 (lt : Nat → Nat → Prop) (S : Nat) : cm_Ly lt S 0 S :=
  ⟨Nat.le_refl _, fun _ h => h, cm_pc_le 10 S, fun w h => h⟩
theorem cm_Ly_s {lt : Nat → Nat → Prop} (tr : ∀ a b c, lt a b → lt b c → lt a c) (up : ∀ a b, lt a b → a < b) {S i R : Nat} (hS : S < 1024) (h : cm_Ly lt S i R) (h0 : R ≠ 0) :
    cm_Ly lt S (i + 1) (cm_df R (cm_mn lt R)) := by
  obtain ⟨h1, h2, h3, h4⟩ := h
  have hR : R < 1024 := by omega
  have hs : cm_Sub (cm_df R (cm_mn lt R)) S := fun v hv => h2 v ((cm_df_bit hR).mp hv).1
  have hp := cm_peel up hR h0
  refine ⟨cm_sub_le hs, hs, by omega, fun w hw => ?_⟩
  have := h4 (w + 1) (cm_layer tr up hR h0 hw)
  rw [Nat.add_comm i 1, ← Nat.add_assoc]
  exact this
theorem cm_Ly_e {lt : Nat → Nat → Prop} {S i : Nat} (h : cm_Ly lt S i 0) : cm_Lc lt S i := by
  have := h.2.2.2 0 cm_Lc_0
  rw [Nat.zero_add] at this
  exact this
theorem cm_Ly_10 {lt : Nat → Nat → Prop} {S R : Nat} (hS : S < 1024) (h : cm_Ly lt S 10 R) : R = 0 := by
  obtain ⟨h1, h2, h3, h4⟩ := h
  apply cm_0i.mpr
  intro v hv
  have := cm_pc_pos (cm_hi (by omega) hv) hv
  omega

-- the order turned round
noncomputable def cm_tn (c : Nat) (d : Nat → Nat) (j : Nat) : Nat := cm_bm 10 (fun t => t < c ∧ (d (c - 1 - t)).testBit (c - 1 - j) = true)
theorem cm_tn_bit {c : Nat} {d : Nat → Nat} (hc : c ≤ 10) {j t : Nat} :
    (cm_tn c d j).testBit t = true ↔ t < c ∧ (d (c - 1 - t)).testBit (c - 1 - j) = true := by
  unfold cm_tn
  rw [cm_bm_bit]
  exact ⟨fun h => h.2, fun h => ⟨by have := h.1; omega, h⟩⟩
theorem cm_tn_ok {c : Nat} {d : Nat → Nat} (ok : cm_OK c d) : cm_OK c (cm_tn c d) := by
  refine ⟨ok.1, fun v hv => cm_lt2 (fun t ht => ?_), fun v u t hv h1 h2 => ?_⟩
  · obtain ⟨g1, g2⟩ := (cm_tn_bit ok.1).mp ht
    have := cm_up ok (c - 1 - v) (c - 1 - t) ⟨by omega, g2⟩
    omega
  · obtain ⟨a1, a2⟩ := (cm_tn_bit ok.1).mp h1
    obtain ⟨b1, b2⟩ := (cm_tn_bit ok.1).mp h2
    exact (cm_tn_bit ok.1).mpr ⟨b1, ok.2.2 _ _ _ (by omega) b2 a2⟩
-- the reference's table while it turns: rows v < i are through, of row i the columns below k
def cm_Tl (c : Nat) (d : Nat → Nat) (i k : Nat) (M : Nat → Nat) : Prop :=
  ∀ j, j < c → M j < 1024 ∧ ∀ t, (M j).testBit t = true ↔ t < c ∧ (d (c - 1 - t)).testBit (c - 1 - j) = true ∧ (c - 1 - t < i ∨ (c - 1 - t = i ∧ c - 1 - j < k))
theorem cm_Tl_0 (c : Nat) (d : Nat → Nat) {M : Nat → Nat} (h : ∀ j, j < c → M j = 0) : cm_Tl c d 0 0 M := by
  intro j hj
  rw [h j hj]
  refine ⟨by omega, fun t => ⟨fun g => by simp at g, ?_⟩⟩
  rintro ⟨_, _, g | g⟩
  · omega
  · omega
theorem cm_Tl_r {c : Nat} {d : Nat → Nat} {i : Nat} {M : Nat → Nat} (h : cm_Tl c d i c M) : cm_Tl c d (i + 1) 0 M := by
  intro j hj
  obtain ⟨h1, h2⟩ := h j hj
  refine ⟨h1, fun t => ?_⟩
  rw [h2 t]
  constructor
  · rintro ⟨g1, g2, g3⟩
    exact ⟨g1, g2, by omega⟩
  · rintro ⟨g1, g2, g3⟩
    exact ⟨g1, g2, by omega⟩
theorem cm_Tl_n {c : Nat} {d : Nat → Nat} {i k : Nat} {M : Nat → Nat} (hi : i < c) (hk : k < c) (h : cm_Tl c d i k M) (hb : (d i).testBit k = false) : cm_Tl c d i (k + 1) M := by
  intro j hj
  obtain ⟨h1, h2⟩ := h j hj
  refine ⟨h1, fun t => ?_⟩
  rw [h2 t]
  constructor
  · rintro ⟨g1, g2, g3⟩
    exact ⟨g1, g2, by omega⟩
  · rintro ⟨g1, g2, g3⟩
    refine ⟨g1, g2, ?_⟩
    by_cases e : c - 1 - t = i ∧ c - 1 - j = k
    · rw [e.1, e.2, hb] at g2
      cases g2
    · omega
theorem cm_Tl_y {c : Nat} {d : Nat → Nat} {i k : Nat} {M : Nat → Nat} (hc : c ≤ 10) (hi : i < c) (hk : k < c) (h : cm_Tl c d i k M) (hb : (d i).testBit k = true) :
    cm_Tl c d i (k + 1) (cm_ut M (c - 1 - k) (M (c - 1 - k) ||| 2 ^ (c - 1 - i))) := by
  intro j hj
  unfold cm_ut
  by_cases e : j = c - 1 - k
  · rw [if_pos e]
    obtain ⟨h1, h2⟩ := h (c - 1 - k) (by omega)
    refine ⟨Nat.or_lt_two_pow (n := 10) h1 (Nat.pow_lt_pow_right (by decide) (by omega)), fun t => ?_⟩
    rw [cm_or_bit, h2 t, cm_one_bit, e]
    constructor
    · rintro (⟨g1, g2, g3⟩ | g)
      · exact ⟨g1, g2, by omega⟩
      · refine ⟨by omega, ?_, by omega⟩
        rw [show c - 1 - t = i by omega, show c - 1 - (c - 1 - k) = k by omega]
        exact hb
    · rintro ⟨g1, g2, g3⟩
      by_cases f : c - 1 - t = i
      · right; omega
      · left; exact ⟨g1, g2, by omega⟩
  · rw [if_neg e]
    obtain ⟨h1, h2⟩ := h j hj
    refine ⟨h1, fun t => ?_⟩
    rw [h2 t]
    constructor
    · rintro ⟨g1, g2, g3⟩
      exact ⟨g1, g2, by omega⟩
    · rintro ⟨g1, g2, g3⟩
      exact ⟨g1, g2, by omega⟩
theorem cm_Tl_e {c : Nat} {d : Nat → Nat} {M : Nat → Nat} (hc : c ≤ 10) (h : cm_Tl c d c 0 M) : ∀ j, j < c → M j = cm_tn c d j := by
  intro j hj
  apply cm_ext
  intro t
  rw [(h j hj).2 t, cm_tn_bit hc]
  constructor
  · rintro ⟨g1, g2, g3⟩
    exact ⟨g1, g2⟩
  · rintro ⟨g1, g2⟩
    exact ⟨g1, g2, by omega⟩

-- one element more
def cm_ud (d : Nat → Nat) (k x : Nat) : Nat → Nat := fun j => if j = k then x else d j
theorem cm_add_ok {c : Nat} {d : Nat → Nat} (ok : cm_OK c d) (hc : c < 10) {s f : Nat} (hs : s < 2 ^ c)
    (hf : ∀ t, f.testBit t = true ↔ s.testBit t = true ∨ ∃ v, v < c ∧ s.testBit v = true ∧ (d v).testBit t = true) : cm_OK (c + 1) (cm_ud d c f) := by
  have hfc : f < 2 ^ c := cm_lt2 (fun t ht => by
    rcases (hf t).mp ht with h | ⟨v, h1, h2, h3⟩
    · exact cm_hi2 hs h
    · have := cm_up ok t v ⟨h1, h3⟩
      omega)
  refine ⟨by omega, fun v hv => ?_, fun v u t hv h1 h2 => ?_⟩
  · unfold cm_ud
    by_cases e : v = c
    · rw [if_pos e, e]; exact hfc
    · rw [if_neg e]; exact ok.2.1 v (by omega)
  · by_cases e : v = c
    · subst e
      have e1 : cm_ud d v f v = f := if_pos rfl
      rw [e1] at h1 ⊢
      have hu := cm_hi2 hfc h1
      have e2 : cm_ud d v f u = d u := if_neg (by omega)
      rw [e2] at h2
      rw [hf]
      rcases (hf u).mp h1 with h | ⟨w, g1, g2, g3⟩
      · exact Or.inr ⟨u, hu, h, h2⟩
      · exact Or.inr ⟨w, g1, g2, ok.2.2 w u t g1 g3 h2⟩
    · have e1 : cm_ud d c f v = d v := if_neg e
      rw [e1] at h1 ⊢
      have hu := cm_up ok u v ⟨by omega, h1⟩
      have e2 : cm_ud d c f u = d u := if_neg (by omega)
      rw [e2] at h2
      exact ok.2.2 v u t (by omega) h1 h2
theorem cm_less_ok {c : Nat} {d : Nat → Nat} (ok : cm_OK (c + 1) d) : cm_OK c d :=
  ⟨by have := ok.1; omega, fun v hv => ok.2.1 v (by omega), fun v u t hv => ok.2.2 v u t (by omega)⟩

-- the highest of the largest antichains
theorem cm_hi_eq {lt : Nat → Nat → Prop} (tr : ∀ a b c, lt a b → lt b c → lt a c) (ir : ∀ a, ¬ lt a a) {S w U : Nat} (hS : S < 1024)
    (ub : ∀ A, cm_Sub A S → cm_Anti lt A → cm_pc 10 A ≤ w) (ex : ∃ A, cm_Lg lt S w A)
    (hU : ∀ v, U.testBit v = true ↔ ∃ A, cm_Lg lt S w A ∧ A.testBit v = true) :
    cm_Lg lt S w (cm_mn (fun a b => lt b a) U) ∧ ∀ L, cm_Lg lt S w L →
      ((∀ B, cm_Lg lt S w B → ∀ v, L.testBit v = true → B.testBit v = true ∨ ∃ b, B.testBit b = true ∧ lt b v) ↔ L = cm_mn (fun a b => lt b a) U) := by
  obtain ⟨A0, hA0⟩ := ex
  have h := cm_low_eq (lt := fun a b => lt b a) (S := S) (w := w) (U := U) (fun a b c h1 h2 => tr c b a h2 h1) ir hS
    (fun A h1 h2 => ub A h1 (fun u v hu hv => h2 v u hv hu)) ⟨A0, cm_lg_flip.mpr hA0⟩
    (fun v => by
      rw [hU v]
      constructor
      · rintro ⟨A, hA, g⟩
        exact ⟨A, cm_lg_flip.mpr hA, g⟩
      · rintro ⟨A, hA, g⟩
        exact ⟨A, cm_lg_flip.mp hA, g⟩)
  refine ⟨cm_lg_flip.mp h.1, fun L hL => ?_⟩
  rw [← h.2 L (cm_lg_flip.mpr hL)]
  exact ⟨fun g B hB v hv => g B (cm_lg_flip.mp hB) v hv, fun g B hB v hv => g B (cm_lg_flip.mpr hB) v hv⟩
end
section
-- the component's helpers, each against its pure picture
theorem cm_exs {P : Nat → Prop} {i : Nat} : (∃ v, v < i + 1 ∧ P v) ↔ (∃ v, v < i ∧ P v) ∨ P i := by
  constructor
  · rintro ⟨v, h1, h2⟩
    by_cases e : v = i
    · subst e; exact Or.inr h2
    · exact Or.inl ⟨v, by omega, h2⟩
  · rintro (⟨v, h1, h2⟩ | h)
    · exact ⟨v, by omega, h2⟩
    · exact ⟨i, by omega, h⟩
theorem cm_add_y {Q : Nat → Prop} {i t : Nat} (hQ : Q i) : (t < i ∧ Q t) ∨ i = t ↔ t < i + 1 ∧ Q t := by
  constructor
  · rintro (⟨h1, h2⟩ | h)
    · exact ⟨by omega, h2⟩
    · subst h; exact ⟨by omega, hQ⟩
  · rintro ⟨h1, h2⟩
    by_cases e : i = t
    · exact Or.inr e
    · exact Or.inl ⟨by omega, h2⟩
theorem cm_add_n {Q : Nat → Prop} {i t : Nat} (hQ : ¬ Q i) : t < i ∧ Q t ↔ t < i + 1 ∧ Q t := by
  constructor
  · rintro ⟨h1, h2⟩
    exact ⟨by omega, h2⟩
  · rintro ⟨h1, h2⟩
    by_cases e : t = i
    · subst e; exact absurd h2 hQ
    · exact ⟨by omega, h2⟩
theorem cm_c1 {c i : Nat} (hi : i < c) : (nI c - 1) - nI i = nI (c - 1 - i) := by
  have h1 : nI c - 1 = nI (c - 1) := pk_sub (b := 1) (by omega)
  rw [h1, pk_sub (by omega)]
theorem cm_nb {s v : Nat} (h : ¬ s.testBit v = true) : s.testBit v = false := by
  cases e : s.testBit v with
  | true => exact absurd e h
  | false => rfl
theorem cm_lte {A i : Nat} (h : A < i + 1) : A < i ∨ A = i := by omega

theorem cx_has {post : Int32 → Prop} {s v : Nat} (hs : s < 2 ^ 31) (hv : v < 32)
    (h1 : s.testBit v = true → post 1) (h0 : s.testBit v = false → post 0) : wpX_has post (nI s) (nI v) :=
  br_c (fun h => h0 ((cm_b0 hs hv).mp h)) (fun h => h1 (by
    cases e : s.testBit v with
    | true => rfl
    | false => exact absurd ((cm_b0 hs hv).mpr e) h))
theorem cx_set_n {post : Int32 → Prop} {c : Nat} {a b : Nat → Int32} (hc : c ≤ 10) {x : Int32} (h : x < 0 ∨ nI (2 ^ c) ≤ x) (hp : post 0) :
    wpX_isSetOfOrder post (nI c, a, b) x := by
  unfold wpX_isSetOfOrder
  dsimp only
  rw [cm_shl hc]
  by_cases h0 : x < 0
  · exact br_t h0 hp
  · exact br_f h0 (br_t (h.resolve_left h0) hp)
theorem cx_set_y {post : Int32 → Prop} {c : Nat} {a b : Nat → Int32} (hc : c ≤ 10) {s : Nat} (hs : s < 2 ^ c) (hp : post 1) :
    wpX_isSetOfOrder post (nI c, a, b) (nI s) := by
  have h2 := cm_p2 hc
  unfold wpX_isSetOfOrder
  dsimp only
  rw [cm_shl hc]
  exact br_f (nI_pos (by omega)) (br_f (nI_ge hs (by omega)) hp)
theorem cx_elt_n {post : Int32 → Prop} {c : Nat} {a b : Nat → Int32} {x : Int32} (h : x < 0 ∨ nI c ≤ x) (hp : post 0) :
    wpX_isElement post (nI c, a, b) x := by
  unfold wpX_isElement
  dsimp only
  by_cases h0 : x < 0
  · exact br_t h0 hp
  · exact br_f h0 (br_t (h.resolve_left h0) hp)
theorem cx_elt_y {post : Int32 → Prop} {c : Nat} {a b : Nat → Int32} (hc : c ≤ 10) {v : Nat} (hv : v < c) (hp : post 1) :
    wpX_isElement post (nI c, a, b) (nI v) := by
  unfold wpX_isElement
  dsimp only
  exact br_f (nI_pos (by omega)) (br_f (nI_ge hv (by omega)) hp)

theorem cx_eb {post : Int32 → Prop} {c : Nat} {d : Nat → Nat} {a b : Nat → Int32} (ok : cm_OK c d) (ha : ∀ j, j < c → a j = nI (d j)) {s : Nat} (hs : s < 2 ^ c)
    (hp : ∀ f, f < 2 ^ c → (∀ t, f.testBit t = true ↔ ∃ v, v < c ∧ s.testBit v = true ∧ (d v).testBit t = true) → post (nI f)) :
    wpX_everythingBelow post (nI c, a, b) (nI s) := by
  have h2 := cm_p2 ok.1
  have hc := ok.1
  refine loop_0 (fun n i f => wX_everythingBelow_4 post (nI s) (nI c) a b n (nI f) (nI i))
    (fun i f => ∀ t, f.testBit t = true ↔ ∃ v, v < i ∧ s.testBit v = true ∧ (d v).testBit t = true) c 0 ?_ ?_ ?_
  · refine fun t => ⟨fun h => by simp at h, ?_⟩
    rintro ⟨v, hv, _⟩
    exact absurd hv (Nat.not_lt_zero v)
  · intro n f hI
    refine br_t (nI_le (Nat.le_refl c) (by omega)) (hp f (cm_lt2 (fun t ht => ?_)) hI)
    obtain ⟨v, g1, g2, g3⟩ := (hI t).mp ht
    have := cm_up ok t v ⟨g1, g3⟩
    omega
  · intro n i f hi hI hk
    refine br_f (nI_ge hi (by omega)) (cx_has (by omega) (by omega) (fun hb => ?_) (fun hb => ?_))
    · refine br_f (by decide) ⟨vp_in_nI (by omega) (by omega), nm_r ?_ (nm_r (nI_1 i) (hk (f ||| d i) ?_))⟩
      · rw [nI_clamp (by omega), ha i hi, cm_or]
      · intro t
        rw [cm_or_bit, hI t, cm_exs]
        simp [hb]
    · refine br_t rfl (nm_r (nI_1 i) (hk f ?_))
      intro t
      rw [hI t, cm_exs]
      simp [hb]
theorem cx_ea {post : Int32 → Prop} {c : Nat} {d : Nat → Nat} {a b : Nat → Int32} (ok : cm_OK c d) (ha : ∀ j, j < c → a j = nI (d j)) {u : Nat} (hu : u < c)
    (hp : ∀ f, (∀ t, f.testBit t = true ↔ t < c ∧ (d t).testBit u = true) → post (nI f)) :
    wpX_everythingAbove post (nI c, a, b) (nI u) := by
  have hc := ok.1
  refine loop_0 (fun n i f => wX_everythingAbove_4 post (nI u) (nI c) a b n (nI f) (nI i))
    (fun i f => ∀ t, f.testBit t = true ↔ t < i ∧ (d t).testBit u = true) c 0 ?_ ?_ ?_
  · exact fun t => ⟨fun h => by simp at h, fun h => absurd h.1 (Nat.not_lt_zero t)⟩
  · intro n f hI
    exact br_t (nI_le (Nat.le_refl c) (by omega)) (hp f hI)
  · intro n i f hi hI hk
    have hd := cm_dk ok hi
    refine br_f (nI_ge hi (by omega)) ⟨vp_in_nI (by omega) (by omega), ?_⟩
    rw [nI_clamp (by omega), ha i hi]
    refine cx_has (by omega) (by omega) (fun hb => ?_) (fun hb => ?_)
    · refine br_f (by decide) (nm_r ?_ (nm_r (nI_1 i) (hk (f ||| 2 ^ i) ?_)))
      · rw [cm_shl (by omega), cm_or]
      · intro t
        rw [cm_or_bit, cm_one_bit, hI t]
        exact cm_add_y (Q := fun t => (d t).testBit u = true) hb
    · refine br_t rfl (nm_r (nI_1 i) (hk f ?_))
      intro t
      rw [hI t]
      exact cm_add_n (Q := fun t => (d t).testBit u = true) (by rw [hb]; decide)
theorem cx_mi {post : Int32 → Prop} {c : Nat} {a b : Nat → Int32} (hc : c ≤ 10) {s : Nat} (hs : s < 2 ^ c)
    (hp : ∀ f, (∀ t, f.testBit t = true ↔ ∃ v, v < c ∧ s.testBit v = true ∧ c - 1 - v = t) → post (nI f)) :
    wpX_mirrored post (nI c, a, b) (nI s) := by
  have h2 := cm_p2 hc
  refine loop_0 (fun n i f => wX_mirrored_4 post (nI s) (nI c) a b n (nI f) (nI i))
    (fun i f => ∀ t, f.testBit t = true ↔ ∃ v, v < i ∧ s.testBit v = true ∧ c - 1 - v = t) c 0 ?_ ?_ ?_
  · refine fun t => ⟨fun h => by simp at h, ?_⟩
    rintro ⟨v, hv, _⟩
    exact absurd hv (Nat.not_lt_zero v)
  · intro n f hI
    exact br_t (nI_le (Nat.le_refl c) (by omega)) (hp f hI)
  · intro n i f hi hI hk
    refine br_f (nI_ge hi (by omega)) (cx_has (by omega) (by omega) (fun hb => ?_) (fun hb => ?_))
    · refine br_f (by decide) (nm_r ?_ (nm_r (nI_1 i) (hk (f ||| 2 ^ (c - 1 - i)) ?_)))
      · rw [cm_c1 hi, cm_shl (by omega), cm_or]
      · intro t
        rw [cm_or_bit, cm_one_bit, hI t, cm_exs]
        simp [hb]
    · refine br_t rfl (nm_r (nI_1 i) (hk f ?_))
      intro t
      rw [hI t, cm_exs]
      simp [hb]
theorem cx_mn {post : Int32 → Prop} {c : Nat} {d : Nat → Nat} {a b : Nat → Int32} (ok : cm_OK c d) (ha : ∀ j, j < c → a j = nI (d j)) {s : Nat} (hs : s < 2 ^ c)
    (hp : post (nI (cm_mn (cm_L c d) s))) : wpX_minimalElements post (nI c, a, b) (nI s) := by
  have h2 := cm_p2 ok.1
  have hc := ok.1
  refine loop_0 (fun n i f => wX_minimalElements_4 post (nI s) (nI c) a b n (nI f) (nI i))
    (fun i f => ∀ t, f.testBit t = true ↔ t < i ∧ (s.testBit t = true ∧ d t &&& s = 0)) c 0 ?_ ?_ ?_
  · exact fun t => ⟨fun h => by simp at h, fun h => absurd h.1 (Nat.not_lt_zero t)⟩
  · intro n f hI
    refine br_t (nI_le (Nat.le_refl c) (by omega)) ?_
    rw [cm_mn_eq hc hs hI]
    exact hp
  · intro n i f hi hI hk
    have hd := cm_dk ok hi
    refine br_f (nI_ge hi (by omega)) (cx_has (by omega) (by omega) (fun hb => ?_) (fun hb => ?_))
    · refine br_f (by decide) ⟨vp_in_nI (by omega) (by omega), ?_⟩
      rw [nI_clamp (by omega), ha i hi]
      refine br_c (fun h => nm_r ?_ (nm_r (nI_1 i) (hk (f ||| 2 ^ i) ?_))) (fun h => nm_r (nI_1 i) (hk f ?_))
      · rw [cm_shl (by omega), cm_or]
      · intro t
        rw [cm_or_bit, cm_one_bit, hI t]
        exact cm_add_y (Q := fun t => s.testBit t = true ∧ d t &&& s = 0) ⟨hb, (cm_and0 hd).mp h⟩
      · intro t
        rw [hI t]
        exact cm_add_n (Q := fun t => s.testBit t = true ∧ d t &&& s = 0) (fun g => h ((cm_and0 hd).mpr g.2))
    · refine br_t rfl (nm_r (nI_1 i) (hk f ?_))
      intro t
      rw [hI t]
      exact cm_add_n (Q := fun t => s.testBit t = true ∧ d t &&& s = 0) (fun g => by rw [hb] at g; cases g.1)
theorem cx_count {post : Int32 → Prop} {s : Nat} (hs : s < 2 ^ 31) (hp : post (nI (cm_pc 10 s))) : wpX_count post (nI s) := by
  refine loop_0 (fun n i f => wX_count_4 post (nI s) n (nI f) (nI i)) (fun i f => f = cm_pc i s) 10 0 ?_ ?_ ?_
  · rfl
  · intro n f hI
    rw [hI]
    exact br_t (nI_le (Nat.le_refl 10) (by decide)) hp
  · intro n i f hi hI hk
    refine br_f (nI_ge (b := 10) hi (by decide)) (nm_r ?_ (nm_r (nI_1 i) (hk (f + (s.testBit i).toNat) ?_)))
    · rw [cm_shr hs (by omega), nI_add]
    · rw [hI]; rfl
theorem cx_anti {post : Int32 → Prop} {c : Nat} {d : Nat → Nat} {a b : Nat → Int32} (ok : cm_OK c d) (ha : ∀ j, j < c → a j = nI (d j)) {s : Nat} (hs : s < 2 ^ c)
    (h1 : cm_Anti (cm_L c d) s → post 1) (h0 : ¬ cm_Anti (cm_L c d) s → post 0) : wpX_isAntichain post (nI c, a, b) (nI s) := by
  have h2 := cm_p2 ok.1
  unfold wpX_isAntichain
  dsimp only
  refine cx_eb ok ha hs (fun f hf hb => ?_)
  have e : nI f &&& nI s = 0 ↔ cm_Anti (cm_L c d) s := (cm_and0 (by omega)).trans (cm_anti_eb hs hb)
  exact ⟨fun h => h1 (e.mp h), fun h => h0 (fun g => h (e.mpr g))⟩
theorem cx_size {post : Int32 → Prop} {c : Nat} {d : Nat → Nat} {a b : Nat → Int32} (ok : cm_OK c d) (ha : ∀ j, j < c → a j = nI (d j)) {s : Nat} (hs : s < 2 ^ c)
    (hp : ∀ w, cm_Wd (cm_L c d) s w → post (nI w)) : wpX_sizeOfLargestAntichain post (nI c, a, b) (nI s) := by
  have h2 := cm_p2 ok.1
  have hc := ok.1
  unfold wpX_sizeOfLargestAntichain
  dsimp only
  refine nm_r (cm_shl hc) ?_
  refine loop_0 (fun n i f => wX_sizeOfLargestAntichain_12 post (nI s) (nI (2 ^ c)) (nI c) a b n (nI f) (nI i))
    (fun i f => cm_Wg (fun A => cm_Sub A s ∧ cm_Anti (cm_L c d) A) (fun A => A < i) f) (2 ^ c) 0 ?_ ?_ ?_
  · exact cm_Wg_0 ⟨cm_Sub0 s, cm_Anti0 _⟩ (fun A => Nat.not_lt_zero A)
  · intro n f hI
    exact br_t (nI_le (Nat.le_refl _) (by omega)) (hp f (cm_Wd_of hI (fun A hA => Nat.lt_of_le_of_lt (cm_sub_le hA) hs)))
  · intro n i f hi hI hk
    have hf := cm_Wg_le hI
    have hpc := cm_pc_le 10 i
    refine br_f (nI_ge hi (by omega)) (br_c (fun h => ?_) (fun h => ?_))
    · have hsub := (cm_sub0 (by omega)).mp h
      refine cx_anti ok ha hi (fun g => ?_) (fun g => ?_)
      · refine br_f (by decide) (cx_count (by omega) ?_)
        exact pk_le (cm_pc 10 i) f (fun g2 => nm_r (nI_1 i) (hk f (cm_Wg_no i hI (fun A hA _ => cm_lte hA) (fun _ => g2))))
          (fun g2 => nm_r (nI_1 i) (hk (cm_pc 10 i) (cm_Wg_yes i hI (fun A hA _ => cm_lte hA) ⟨hsub, g⟩ (by omega))))
      · exact br_t rfl (nm_r (nI_1 i) (hk f (cm_Wg_no i hI (fun A hA _ => cm_lte hA) (fun z => absurd z.2 g))))
    · have hsub : ¬ cm_Sub i s := fun z => h ((cm_sub0 (by omega)).mpr z)
      exact nm_r (nI_1 i) (hk f (cm_Wg_no i hI (fun A hA _ => cm_lte hA) (fun z => absurd z.1 hsub)))
theorem cx_long {post : Int32 → Prop} {c : Nat} {d : Nat → Nat} {a b : Nat → Int32} (ok : cm_OK c d) (ha : ∀ j, j < c → a j = nI (d j)) {s : Nat} (hs : s < 2 ^ c)
    (hp : ∀ w, cm_Lc (cm_L c d) s w → post (nI w)) : ∃ n, wX_longestChain_17 post (nI c) a b n (nI s) 0 0 := by
  have h2 := cm_p2 ok.1
  refine loop_0 (fun n i R => wX_longestChain_17 post (nI c) a b n (nI R) (nI i) (nI i)) (fun i R => cm_Ly (cm_L c d) s i R) 10 s ?_ ?_ ?_
  · exact cm_Ly_0 _ s
  · intro n R hI
    have e := cm_Ly_10 (by omega) hI
    subst e
    exact br_t (nI_le (Nat.le_refl 10) (by decide)) (hp 10 (cm_Ly_e hI))
  · intro n i R hi hI hk
    have hR : R ≤ s := hI.1
    refine br_f (nI_ge (b := 10) hi (by decide)) (br_c (fun h => ?_) (fun h => ?_))
    · have e := (cm_nI0 (by omega)).mp h
      subst e
      exact hp i (cm_Ly_e hI)
    · have hne : R ≠ 0 := fun e => h ((cm_nI0 (by omega)).mpr e)
      refine cx_mn ok ha (by omega) ?_
      exact nm_r (cm_not (by omega)) (nm_r (nI_1 i) (nm_r (nI_1 i) (hk _ (cm_Ly_s (cm_tr ok) (cm_up ok) (by omega) hI hne))))
theorem cx_union {post : Int32 → Prop} {c : Nat} {d : Nat → Nat} {a b : Nat → Int32} (ok : cm_OK c d) (ha : ∀ j, j < c → a j = nI (d j))
    (hp : ∀ w U, cm_Wd (cm_L c d) (2 ^ c - 1) w → U < 2 ^ c → (∀ v, U.testBit v = true ↔ ∃ A, cm_Lg (cm_L c d) (2 ^ c - 1) w A ∧ A.testBit v = true) → post (nI U)) :
    wpX_unionOfLargest post (nI c, a, b) := by
  have h2 := cm_p2 ok.1
  have hc := ok.1
  unfold wpX_unionOfLargest
  dsimp only
  refine nm_r (cm_shl hc) ?_
  refine loop_0 (σ := Nat × Nat) (fun n i s => wX_unionOfLargest_14 post (nI (2 ^ c)) (nI c) a b n (nI s.1) (nI s.2) (nI i))
    (fun i s => cm_Un (fun A => cm_Sub A (2 ^ c - 1) ∧ cm_Anti (cm_L c d) A) i s.1 s.2) (2 ^ c) (0, 0) ?_ ?_ ?_
  · exact cm_Un_0 ⟨cm_Sub0 _, cm_Anti0 _⟩
  · rintro n ⟨w, U⟩ hI
    have hU : ∀ v, U.testBit v = true ↔ ∃ A, cm_Lg (cm_L c d) (2 ^ c - 1) w A ∧ A.testBit v = true := by
      intro v
      rw [hI.2 v]
      constructor
      · rintro ⟨A, g1, g2, g3, g4⟩
        exact ⟨A, ⟨g2.1, g2.2, g3⟩, g4⟩
      · rintro ⟨A, g1, g2⟩
        exact ⟨A, cm_fs.mp g1.1, ⟨g1.1, g1.2.1⟩, g1.2.2, g2⟩
    refine br_t (nI_le (Nat.le_refl _) (by omega)) (hp w U (cm_Wd_of hI.1 (fun A hA => cm_fs.mp hA)) (cm_lt2 (fun v hv => ?_)) hU)
    obtain ⟨A, g1, g2⟩ := (hU v).mp hv
    exact cm_fb.mp (g1.1 v g2)
  · rintro n i ⟨w, U⟩ hi hI hk
    have hw := cm_Wg_le hI.1
    have hpc := cm_pc_le 10 i
    dsimp only at hw hI
    refine br_f (nI_ge hi (by omega)) (cx_count (by omega) ?_)
    refine pk_lt (cm_pc 10 i) w (fun g => nm_r (nI_1 i) (hk (w, U) (cm_Un_no hI (fun z => by have := z.1; omega)))) (fun g => ?_)
    refine cx_anti ok ha hi (fun hA => br_f (by decide) ?_) (fun hA => br_t rfl (nm_r (nI_1 i) (hk (w, U) (cm_Un_no hI (fun z => hA z.2.2)))))
    exact pk_le (cm_pc 10 i) w (fun g2 => nm_r (cm_or U i) (nm_r (nI_1 i) (hk (cm_pc 10 i, U ||| i) (cm_Un_eq hI ⟨cm_fs.mpr hi, hA⟩ (by omega)))))
      (fun g2 => nm_r (nI_1 i) (hk (cm_pc 10 i, i) (cm_Un_gt hI ⟨cm_fs.mpr hi, hA⟩ (by omega))))
end
section
-- turn, both sides
noncomputable def cm_tf (c : Nat) (d : Nat → Nat) (a : Nat → Int32) : Nat → Int32 := fun j => if j < c then nI (cm_tn c d j) else a j
theorem cm_tfs (i : Nat) (tu a : Nat → Int32) : upd (fun j => if j < i then tu j else a j) i (tu i) = fun j => if j < i + 1 then tu j else a j := by
  funext j
  unfold upd
  by_cases e : j = i
  · subst e
    rw [if_pos rfl, if_pos (by omega)]
  · rw [if_neg e]
    dsimp only
    by_cases h : j < i
    · rw [if_pos h, if_pos (by omega)]
    · rw [if_neg h, if_neg (by omega)]
theorem cm_tf0 (tu a : Nat → Int32) : (fun j => if j < 0 then tu j else a j) = a := by
  funext j
  rw [if_neg (Nat.not_lt_zero j)]
theorem cm_tfe {c : Nat} {d : Nat → Nat} {tu a : Nat → Int32} (h : ∀ j, j < c → tu j = nI (cm_tn c d j)) : (fun j => if j < c then tu j else a j) = cm_tf c d a := by
  funext j
  unfold cm_tf
  by_cases e : j < c
  · rw [if_pos e, if_pos e, h j e]
  · rw [if_neg e, if_neg e]
theorem cx_turn2 {post : Int32 → SX → Prop} {c : Nat} {d : Nat → Nat} {a tu : Nat → Int32} (hc : c ≤ 10) (h : ∀ j, j < c → tu j = nI (cm_tn c d j))
    (hp : post (nI c) (nI c, cm_tf c d a, tu)) : ∃ n, wX_turn_42 post (nI c) n 0 a tu := by
  refine loop_0 (fun n i s => wX_turn_42 post (nI c) n (nI i) s tu) (fun i s => s = fun j => if j < i then tu j else a j) c a ?_ ?_ ?_
  · exact (cm_tf0 tu a).symm
  · intro n s hI
    rw [hI, cm_tfe h]
    exact br_t (nI_le (Nat.le_refl c) (by omega)) hp
  · intro n i s hi hI hk
    refine br_f (nI_ge hi (by omega)) ⟨vp_in_nI (by omega) (by omega), vp_in_nI (by omega) (by omega), nm_r ?_ (nm_r (nI_1 i) (hk _ rfl))⟩
    rw [nI_clamp (by omega), hI, cm_tfs]
theorem cm_mir {c : Nat} {d : Nat → Nat} (hc : c ≤ 10) {i f g : Nat} (hi : i < c) (hf : ∀ t, f.testBit t = true ↔ t < c ∧ (d t).testBit i = true)
    (hg : ∀ t, g.testBit t = true ↔ ∃ v, v < c ∧ f.testBit v = true ∧ c - 1 - v = t) : g = cm_tn c d (c - 1 - i) := by
  apply cm_ext
  intro t
  rw [hg t, cm_tn_bit hc, show c - 1 - (c - 1 - i) = i by omega]
  constructor
  · rintro ⟨v, h1, h2, h3⟩
    have h4 := (hf v).mp h2
    refine ⟨by omega, ?_⟩
    rw [show c - 1 - t = v by omega]
    exact h4.2
  · rintro ⟨h1, h2⟩
    exact ⟨c - 1 - t, by omega, (hf _).mpr ⟨by omega, h2⟩, by omega⟩
theorem cx_turn {post : Int32 → SX → Prop} {c : Nat} {d : Nat → Nat} {a b : Nat → Int32} (ok : cm_OK c d) (ha : ∀ j, j < c → a j = nI (d j))
    (hp : ∀ tu, post (nI c) (nI c, cm_tf c d a, tu)) : wpX_turn post (nI c, a, b) := by
  have hc := ok.1
  refine loop_0 (fun n i s => wX_turn_2 post (nI c) n (nI i) a s) (fun i s => ∀ v, v < i → s (c - 1 - v) = nI (cm_tn c d (c - 1 - v))) c b ?_ ?_ ?_
  · exact fun v hv => absurd hv (Nat.not_lt_zero v)
  · intro n s hI
    refine br_t (nI_le (Nat.le_refl c) (by omega)) (cx_turn2 hc (fun j hj => ?_) (hp s))
    have h := hI (c - 1 - j) (by omega)
    rw [show c - 1 - (c - 1 - j) = j by omega] at h
    exact h
  · intro n i s hi hI hk
    refine br_f (nI_ge hi (by omega)) (cx_ea ok ha hi (fun f hf => cx_mi hc (cm_lt2 (fun t ht => ((hf t).mp ht).1)) (fun g hg => ?_)))
    rw [cm_c1 hi]
    refine ⟨vp_in_nI (by omega) (by omega), nm_e (nm_r (nI_1 i) (hk _ ?_))⟩
    rw [nI_clamp (by omega)]
    intro v hv
    by_cases e : v = i
    · subst e
      rw [pk_us, cm_mir hc hi hf hg]
    · rw [pk_un (by omega)]
      exact hI v (by omega)
end
section
-- the reference's helpers, each against its pure picture
theorem cm_pc_s (k s : Nat) : cm_pc (k + 1) s = cm_pc k s + (s.testBit k).toNat := rfl
theorem cm_nbb (z w : Bool) : nI z.toNat = nI w.toNat ↔ z = w := by
  cases z <;> cases w <;> decide
theorem cm_Wg_cg {G G' D : Nat → Prop} {b : Nat} (h : ∀ A, G A ↔ G' A) (hg : cm_Wg G D b) : cm_Wg G' D b := by
  obtain ⟨⟨A, h1, h2⟩, h3⟩ := hg
  exact ⟨⟨A, (h A).mp h1, h2⟩, fun A hA hG => h3 A hA ((h A).mpr hG)⟩
theorem cm_full {c : Nat} (hc : c ≤ 10) : ((1 : Int32) <<< (nI c &&& 31)) - 1 = nI (2 ^ c - 1) := by
  rw [cm_shl hc]
  exact pk_sub (b := 1) (Nat.two_pow_pos c)
theorem cm_full_lt (c : Nat) : 2 ^ c - 1 < 2 ^ c := by
  have := Nat.two_pow_pos c
  omega

theorem cy_in {post : Int32 → Prop} {c : Nat} {a l : Nat → Int32} {s v : Nat} (hs : s < 2 ^ 31) (hv : v < 32)
    (h1 : s.testBit v = true → post 1) (h0 : s.testBit v = false → post 0) : wpY_in post (nI c, a, l) (nI s) (nI v) := by
  unfold wpY_in
  dsimp only
  exact br_c (fun h => h1 ((cm_b1 hs hv).mp h)) (fun h => h0 (cm_nb (fun g => h ((cm_b1 hs hv).mpr g))))
theorem cy_set_n {post : Int32 → Prop} {c : Nat} {a b : Nat → Int32} (hc : c ≤ 10) {x : Int32} (h : x < 0 ∨ nI (2 ^ c) ≤ x) (hp : post 0) :
    wpY_isSet post (nI c, a, b) x := by
  unfold wpY_isSet
  dsimp only
  rw [cm_shl hc]
  by_cases h0 : x < 0
  · exact br_t h0 hp
  · exact br_f h0 (br_t (h.resolve_left h0) hp)
theorem cy_set_y {post : Int32 → Prop} {c : Nat} {a b : Nat → Int32} (hc : c ≤ 10) {s : Nat} (hs : s < 2 ^ c) (hp : post 1) :
    wpY_isSet post (nI c, a, b) (nI s) := by
  have h2 := cm_p2 hc
  unfold wpY_isSet
  dsimp only
  rw [cm_shl hc]
  exact br_f (nI_pos (by omega)) (br_f (nI_ge hs (by omega)) hp)
theorem cy_size {post : Int32 → Prop} {c : Nat} {a l : Nat → Int32} {s : Nat} (hs : s < 2 ^ 31) (hp : post (nI (cm_pc 10 s))) : wpY_sizeOf post (nI c, a, l) (nI s) := by
  refine loop_0 (fun n i f => wY_sizeOf_4 post (nI s) (nI c) a l n (nI f) (nI i)) (fun i f => f = cm_pc i s) 10 0 ?_ ?_ ?_
  · rfl
  · intro n f hI
    rw [hI]
    exact br_t (nI_le (Nat.le_refl 10) (by decide)) hp
  · intro n i f hi hI hk
    refine br_f (nI_ge (b := 10) hi (by decide)) (cy_in hs (by omega) (fun hb => ?_) (fun hb => ?_))
    · refine br_f (by decide) (nm_r (nI_1 f) (nm_r (nI_1 i) (hk (f + 1) ?_)))
      rw [cm_pc_s, hb, hI]
      rfl
    · refine br_t rfl (nm_r (nI_1 i) (hk f ?_))
      rw [cm_pc_s, hb, hI]
      rfl

-- uniform
def cm_G (c : Nat) (d : Nat → Nat) (w : Bool) (s : Nat) : Prop := ∀ v, v < c → ∀ u, u < v → s.testBit u = true → s.testBit v = true → (d v).testBit u = w
theorem cy_u54 {post J2 J13 : Int32 → Prop} {c : Nat} {a l : Nat → Int32} {s i k : Nat} {w z : Bool} (hs : s < 2 ^ 31) (hi : i < 10) (hk : k < 10)
    (hJ : (s.testBit k = true → s.testBit i = true → z = w) → J13 (nI (k + 1))) (hp : s.testBit k = true → s.testBit i = true → z ≠ w → post 0) :
    wY_uniform_54 post J2 J13 (nI s) (nI w.toNat) (nI i) (nI k) (nI z.toNat) (nI c) a l := by
  unfold wY_uniform_54
  refine cy_in hs (by omega) (fun hb => ?_) (fun hb => ?_)
  · refine br_f (by decide) (cy_in hs (by omega) (fun hb2 => ?_) (fun hb2 => ?_))
    · refine br_f (by decide) (br_c (fun h => nm_r (nI_1 k) (hJ (fun _ _ => (cm_nbb z w).mp h))) (fun h => hp hb hb2 (fun e => h ((cm_nbb z w).mpr e))))
    · exact br_t rfl (nm_r (nI_1 k) (hJ (fun _ h => by rw [hb2] at h; cases h)))
  · exact br_t rfl (nm_r (nI_1 k) (hJ (fun h => by rw [hb] at h; cases h)))
theorem cy_uni {post : Int32 → Prop} {c : Nat} {d : Nat → Nat} {a l : Nat → Int32} (ok : cm_OK c d) (ha : ∀ j, j < c → a j = nI (d j)) {s : Nat} (hs : s < 2 ^ c) (w : Bool)
    (h1 : cm_G c d w s → post 1) (h0 : ¬ cm_G c d w s → post 0) : wpY_uniform post (nI c, a, l) (nI s) (nI w.toNat) := by
  have h2 := cm_p2 ok.1
  have hc := ok.1
  refine loop_0 (σ := Unit) (fun n i _ => wY_uniform_2 post (nI s) (nI w.toNat) (nI c) a l n (nI i))
    (fun i _ => ∀ v, v < i → ∀ u, u < v → s.testBit u = true → s.testBit v = true → (d v).testBit u = w) c () ?_ ?_ ?_
  · exact fun v hv => absurd hv (Nat.not_lt_zero v)
  · intro n _ hI
    exact br_t (nI_le (Nat.le_refl c) (by omega)) (h1 hI)
  · intro n i _ hi hI hk
    have hd := cm_dk ok hi
    refine br_f (nI_ge hi (by omega)) ?_
    refine loop_0 (σ := Unit) (fun m k _ => wY_uniform_13 post (wY_uniform_2 post (nI s) (nI w.toNat) (nI c) a l n) (nI s) (nI w.toNat) (nI i) (nI c) a l m (nI k))
      (fun k _ => ∀ u, u < k → s.testBit u = true → s.testBit i = true → (d i).testBit u = w) i () ?_ ?_ ?_
    · exact fun v hv => absurd hv (Nat.not_lt_zero v)
    · intro m _ hJ
      refine br_t (nI_le (Nat.le_refl i) (by omega)) (nm_r (nI_1 i) (hk () ?_))
      intro v hv u hu
      by_cases e : v = i
      · subst e; exact hJ u hu
      · exact hI v (by omega) u hu
    · intro m k _ hki hJ hm
      have hz : wY_uniform_54 post (wY_uniform_2 post (nI s) (nI w.toNat) (nI c) a l n) (wY_uniform_13 post (wY_uniform_2 post (nI s) (nI w.toNat) (nI c) a l n) (nI s) (nI w.toNat) (nI i) (nI c) a l m)
          (nI s) (nI w.toNat) (nI i) (nI k) (nI ((d i).testBit k).toNat) (nI c) a l :=
        cy_u54 (by omega) (by omega) (by omega) (fun h => hm () (fun u hu g1 g2 => by
          by_cases e : u = k
          · subst e; exact h g1 g2
          · exact hJ u (by omega) g1 g2)) (fun g1 g2 g3 => h0 (fun hG => g3 (hG i hi k hki g1 g2)))
      refine br_f (nI_ge hki (by omega)) ⟨vp_in_nI (by omega) (by omega), ?_⟩
      rw [nI_clamp (n := i) (by omega), ha i hi]
      refine cy_in (by omega) (by omega) (fun hb => ?_) (fun hb => ?_)
      · rw [hb] at hz
        exact br_f (by decide) hz
      · rw [hb] at hz
        refine br_t rfl ⟨vp_in_nI (by omega) (by omega), ?_⟩
        rw [nI_clamp (n := k) (by omega), ha k (by omega)]
        have hdk := cm_dk ok (v := k) (by omega)
        refine cy_in (by omega) (by omega) (fun hb2 => ?_) (fun hb2 => ?_)
        · rw [cm_noabove ok hi hki] at hb2
          cases hb2
        · exact br_t rfl hz
theorem cy_anti {post : Int32 → Prop} {c : Nat} {d : Nat → Nat} {a l : Nat → Int32} (ok : cm_OK c d) (ha : ∀ j, j < c → a j = nI (d j)) {s : Nat} (hs : s < 2 ^ c)
    (h1 : cm_Anti (cm_L c d) s → post 1) (h0 : ¬ cm_Anti (cm_L c d) s → post 0) : wpY_uniform post (nI c, a, l) (nI s) 0 :=
  cy_uni ok ha hs false (fun h => h1 ((cm_uni_anti ok hs).mp h)) (fun h => h0 (fun g => h ((cm_uni_anti ok hs).mpr g)))
theorem cy_chn {post : Int32 → Prop} {c : Nat} {d : Nat → Nat} {a l : Nat → Int32} (ok : cm_OK c d) (ha : ∀ j, j < c → a j = nI (d j)) {s : Nat} (hs : s < 2 ^ c)
    (h1 : cm_Chn (cm_L c d) s → post 1) (h0 : ¬ cm_Chn (cm_L c d) s → post 0) : wpY_uniform post (nI c, a, l) (nI s) 1 :=
  cy_uni ok ha hs true (fun h => h1 ((cm_uni_chn ok hs).mp h)) (fun h => h0 (fun g => h ((cm_uni_chn ok hs).mpr g)))

-- largest
theorem cy_lg {post : Int32 → Prop} {c : Nat} {d : Nat → Nat} {a l : Nat → Int32} (ok : cm_OK c d) (ha : ∀ j, j < c → a j = nI (d j)) {S : Nat} (hS : S < 2 ^ c) (w : Bool)
    (hp : ∀ b, cm_Wg (fun A => cm_Sub A S ∧ cm_G c d w A) (fun _ => True) b → post (nI b)) : wpY_largest post (nI c, a, l) (nI S) (nI w.toNat) := by
  have h2 := cm_p2 ok.1
  have hG0 : cm_G c d w 0 := fun v _ u _ h => by simp at h
  refine lp2 (fun n b p => wY_largest_5 post (nI S) (nI w.toNat) (nI c) a l n (nI b) (nI p))
    (fun b p => cm_Sub p S ∧ cm_Wg (fun A => cm_Sub A S ∧ cm_G c d w A) (fun A => p < A) b) (fun _ p => p) ?_ 0 S ?_
  · intro n b p hI hk
    obtain ⟨hpS, hW⟩ := hI
    have hle := cm_sub_le hpS
    have hb := cm_Wg_le hW
    have hpc := cm_pc_le 10 p
    by_cases p0 : p = 0
    · subst p0
      refine br_t (nI_le (Nat.le_refl 0) (by decide)) (hp b ⟨hW.1, fun A _ hA => ?_⟩)
      by_cases e : A = 0
      · subst e
        rw [cm_pc00]
        exact Nat.zero_le b
      · exact hW.2 A (show 0 < A by omega) hA
    · have hq : cm_Sub ((p - 1) &&& S) S := fun v hv => (cm_and_bit.mp hv).2
      have hq2 : (p - 1) &&& S ≤ p - 1 := Nat.and_le_left
      have hD : ∀ A, (p - 1) &&& S < A → (cm_Sub A S ∧ cm_G c d w A) → p < A ∨ A = p := by
        intro A hA hG
        by_cases e : A < p
        · have := cm_down p S A hpS hG.1 e
          omega
        · omega
      have he : (nI p - 1) &&& nI S = nI ((p - 1) &&& S) := by
        have h1 : nI p - 1 = nI (p - 1) := pk_sub (b := 1) (by omega)
        rw [h1, nx_and]
      refine br_f (nI_nle (by omega) (by omega)) (cy_size (by omega) ?_)
      refine pk_le (cm_pc 10 p) b (fun g => nm_r he (hk b _ ⟨hq, cm_Wg_no p hW hD (fun _ => g)⟩ (by omega))) (fun g => ?_)
      refine cy_uni ok ha (by omega) w (fun hG => ?_) (fun hG => ?_)
      · exact br_f (by decide) (nm_r he (hk (cm_pc 10 p) _ ⟨hq, cm_Wg_yes p hW hD ⟨hpS, hG⟩ (by omega)⟩ (by omega)))
      · exact br_t rfl (nm_r he (hk b _ ⟨hq, cm_Wg_no p hW hD (fun z => absurd z.2 hG)⟩ (by omega)))
  · refine ⟨fun _ h => h, ⟨0, ⟨cm_Sub0 S, hG0⟩, cm_pc00⟩, fun A hA hG => ?_⟩
    have := cm_sub_le hG.1
    have hA' : S < A := hA
    omega
theorem cy_wd {post : Int32 → Prop} {c : Nat} {d : Nat → Nat} {a l : Nat → Int32} (ok : cm_OK c d) (ha : ∀ j, j < c → a j = nI (d j)) {S : Nat} (hS : S < 2 ^ c)
    (hp : ∀ b, cm_Wd (cm_L c d) S b → post (nI b)) : wpY_largest post (nI c, a, l) (nI S) 0 := by
  refine cy_lg ok ha hS false (fun b hb => hp b (cm_Wd_of (D := fun _ => True) (cm_Wg_cg (fun A => ?_) hb) (fun _ _ => trivial)))
  constructor
  · rintro ⟨h1, h2⟩
    exact ⟨h1, (cm_uni_anti ok (Nat.lt_of_le_of_lt (cm_sub_le h1) hS)).mp h2⟩
  · rintro ⟨h1, h2⟩
    exact ⟨h1, (cm_uni_anti ok (Nat.lt_of_le_of_lt (cm_sub_le h1) hS)).mpr h2⟩
theorem cy_lc {post : Int32 → Prop} {c : Nat} {d : Nat → Nat} {a l : Nat → Int32} (ok : cm_OK c d) (ha : ∀ j, j < c → a j = nI (d j)) {S : Nat} (hS : S < 2 ^ c)
    (hp : ∀ b, cm_Lc (cm_L c d) S b → post (nI b)) : wpY_largest post (nI c, a, l) (nI S) 1 := by
  refine cy_lg ok ha hS true (fun b hb => hp b (cm_Lc_of (D := fun _ => True) (cm_Wg_cg (fun A => ?_) hb) (fun _ _ => trivial)))
  constructor
  · rintro ⟨h1, h2⟩
    exact ⟨h1, (cm_uni_chn ok (Nat.lt_of_le_of_lt (cm_sub_le h1) hS)).mp h2⟩
  · rintro ⟨h1, h2⟩
    exact ⟨h1, (cm_uni_chn ok (Nat.lt_of_le_of_lt (cm_sub_le h1) hS)).mpr h2⟩
theorem cy_width {post : Int32 → Prop} {c : Nat} {d : Nat → Nat} {a l : Nat → Int32} (ok : cm_OK c d) (ha : ∀ j, j < c → a j = nI (d j)) {S w : Nat} (hS : S < 2 ^ c)
    (hw : cm_Wd (cm_L c d) S w) (hp : post (nI w)) : wpY_width post (nI c, a, l) (nI S) := by
  unfold wpY_width
  dsimp only
  refine cy_set_y ok.1 hS (br_f (by decide) (cy_wd ok ha hS (fun b hb => ?_)))
  rw [cm_Wd_un hb hw]
  exact hp
end
section
-- the reference turns
theorem cy_turn4 {post : Int32 → SY → Prop} {c : Nat} {d : Nat → Nat} {a le : Nat → Int32} (hc : c ≤ 10) (h : ∀ j, j < c → le j = nI (cm_tn c d j))
    (hp : post (nI c) (nI c, cm_tf c d a, le)) : ∃ n, wY_turn_108 post (nI c) n 0 a le := by
  refine loop_0 (fun n i s => wY_turn_108 post (nI c) n (nI i) s le) (fun i s => s = fun j => if j < i then le j else a j) c a ?_ ?_ ?_
  · exact (cm_tf0 le a).symm
  · intro n s hI
    rw [hI, cm_tfe h]
    exact br_t (nI_le (Nat.le_refl c) (by omega)) hp
  · intro n i s hi hI hk
    refine br_f (nI_ge hi (by omega)) ⟨vp_in_nI (by omega) (by omega), vp_in_nI (by omega) (by omega), nm_r ?_ (nm_r (nI_1 i) (hk _ rfl))⟩
    rw [nI_clamp (by omega), hI, cm_tfs]
theorem cm_updM {c k x : Nat} {le : Nat → Int32} {M : Nat → Nat} (h : ∀ j, j < c → le j = nI (M j)) : ∀ j, j < c → upd le k (nI x) j = nI (cm_ut M k x j) := by
  intro j hj
  unfold upd cm_ut
  by_cases e : j = k
  · rw [if_pos e, if_pos e]
  · rw [if_neg e, if_neg e, h j hj]
theorem cy_turn3 {post : Int32 → SY → Prop} {c : Nat} {d : Nat → Nat} {a le : Nat → Int32} (ok : cm_OK c d) (ha : ∀ j, j < c → a j = nI (d j)) (h : ∀ j, j < c → le j = nI 0)
    (hp : ∀ le, post (nI c) (nI c, cm_tf c d a, le)) : ∃ n, wY_turn_25 post (nI c) n 0 a le := by
  have hc := ok.1
  refine loop_0 (fun n i s => wY_turn_25 post (nI c) n (nI i) a s) (fun i s => ∃ M, (∀ j, j < c → s j = nI (M j)) ∧ cm_Tl c d i 0 M) c le ?_ ?_ ?_
  · exact ⟨fun _ => 0, h, cm_Tl_0 c d (fun _ _ => rfl)⟩
  · rintro n s ⟨M, h1, h2⟩
    refine br_t (nI_le (Nat.le_refl c) (by omega)) (cy_turn4 hc (fun j hj => ?_) (hp s))
    rw [h1 j hj, cm_Tl_e hc h2 j hj]
  · rintro n i s hi ⟨M, h1, h2⟩ hk
    have hd := cm_dk ok hi
    refine br_f (nI_ge hi (by omega)) ?_
    refine loop_0 (fun m k s => wY_turn_35 post (wY_turn_25 post (nI c) n) (nI i) (nI c) m (nI k) a s) (fun k s => ∃ M, (∀ j, j < c → s j = nI (M j)) ∧ cm_Tl c d i k M) c s ?_ ?_ ?_
    · exact ⟨M, h1, h2⟩
    · rintro m s ⟨M, g1, g2⟩
      exact br_t (nI_le (Nat.le_refl c) (by omega)) (nm_r (nI_1 i) (hk s ⟨M, g1, cm_Tl_r g2⟩))
    · rintro m k s hkc ⟨M, g1, g2⟩ hm
      refine br_f (nI_ge hkc (by omega)) ⟨vp_in_nI (by omega) (by omega), ?_⟩
      rw [nI_clamp (n := i) (by omega), ha i hi]
      refine cy_in (by omega) (by omega) (fun hb => ?_) (fun hb => ?_)
      · refine br_f (by decide) ?_
        rw [cm_c1 hkc, cm_c1 hi]
        refine ⟨vp_in_nI (by omega) (by omega), vp_in_nI (by omega) (by omega), nm_r (e' := upd s (c - 1 - k) (nI (M (c - 1 - k) ||| 2 ^ (c - 1 - i)))) ?_ (nm_r (nI_1 k) (hm _ ⟨cm_ut M (c - 1 - k) (M (c - 1 - k) ||| 2 ^ (c - 1 - i)), cm_updM g1, cm_Tl_y hc hi hkc g2 hb⟩))⟩
        rw [nI_clamp (by omega), g1 (c - 1 - k) (by omega), cm_shl (by omega), cm_or]
      · exact br_t rfl (nm_r (nI_1 k) (hm s ⟨M, g1, cm_Tl_n hi hkc g2 hb⟩))
theorem cy_turn {post : Int32 → SY → Prop} {c : Nat} {d : Nat → Nat} {a l : Nat → Int32} (ok : cm_OK c d) (ha : ∀ j, j < c → a j = nI (d j))
    (hp : ∀ le, post (nI c) (nI c, cm_tf c d a, le)) : wpY_turn post (nI c, a, l) := by
  have hc := ok.1
  refine loop_0 (fun n i s => wY_turn_2 post (nI c) n (nI i) a s) (fun i s => ∀ j, j < i → s j = nI 0) c l ?_ ?_ ?_
  · exact fun v hv => absurd hv (Nat.not_lt_zero v)
  · intro n s hI
    exact br_t (nI_le (Nat.le_refl c) (by omega)) (cy_turn3 ok ha hI hp)
  · intro n i s hi hI hk
    refine br_f (nI_ge hi (by omega)) ⟨vp_in_nI (by omega) (by omega), nm_e (nm_r (nI_1 i) (hk _ ?_))⟩
    rw [nI_clamp (by omega)]
    intro j hj
    by_cases e : j = i
    · subst e; exact pk_us
    · rw [pk_un e]
      exact hI j (by omega)
end
section
-- the reference's table of the fewest chains
theorem cm_updS {S k x : Nat} {le : Nat → Int32} {M : Nat → Nat} (h : ∀ j, j ≤ S → le j = nI (M j)) : ∀ j, j ≤ S → upd le k (nI x) j = nI (cm_ut M k x j) := by
  intro j hj
  unfold upd cm_ut
  by_cases e : j = k
  · rw [if_pos e, if_pos e]
  · rw [if_neg e, if_neg e, h j hj]
theorem cy_ch72 {post : Int32 → SY → Prop} {J : Int32 → (Nat → Int32) → (Nat → Int32) → Prop} {lt : Nat → Nat → Prop} {c S m : Nat} {a le : Nat → Int32} {T0 : Nat → Nat}
    (hS : S < 1024) (m0 : m ≠ 0) (mS : cm_Sub m S) (mC : cm_Chn lt m) (hl : ∀ j, j ≤ S → le j = nI (T0 j)) (hlo : cm_Lo lt S T0)
    (hJ : ∀ le T, (∀ j, j ≤ S → le j = nI (T j)) → cm_In lt S m T0 (S + 1) T → J (nI (m + 1)) a le) :
    ∃ n, wY_chains_72 post J (nI S) (nI m) 1 (nI c) n 0 a le := by
  refine loop_0 (fun n r s => wY_chains_72 post J (nI S) (nI m) 1 (nI c) n (nI r) a s) (fun r s => ∃ T, (∀ j, j ≤ S → s j = nI (T j)) ∧ cm_In lt S m T0 r T) (S + 1) le ?_ ?_ ?_
  · exact ⟨T0, hl, cm_In_0 hlo⟩
  · rintro n s ⟨T, h1, h2⟩
    exact br_f (by decide) (br_t (nI_lt (by omega) (by omega)) (nm_r (nI_1 m) (hJ s T h1 h2)))
  · rintro n r s hr ⟨T, h1, h2⟩ hk
    have hrS : r ≤ S := by omega
    refine br_f (by decide) (br_f (nI_nlt hrS (by omega)) (br_c (fun h => ?_) (fun h => ?_)))
    · have e0 := (cm_and0 (by omega)).mp h
      refine br_c (fun g => ?_) (fun g => ?_)
      · have rS := (cm_sub0 (by omega)).mp g
        have hle : r ||| m ≤ S := cm_sub_le (cm_or_sub rS mS)
        have b1 := (h2.2.2.2 r hrS).1
        have b2 := (h2.2.2.2 (r ||| m) hle).1
        rw [cm_or r m, nI_clamp (n := r ||| m) (by omega), nI_clamp (n := r) (by omega), h1 (r ||| m) hle, h1 r hrS, nI_1 (T r)]
        refine ⟨vp_in_nI (by omega) (by omega), vp_in_nI (by omega) (by omega), pk_le (T (r ||| m)) (T r + 1) (fun z => nm_r (nI_1 r) (hk s ⟨T, h1, cm_In_n h2 (fun y => by have := y.2.2; omega)⟩)) (fun z => ?_)⟩
        exact ⟨vp_in_nI (by omega) (by omega), vp_in_nI (by omega) (by omega), nm_e (nm_r (nI_1 r) (hk _ ⟨cm_ut T (r ||| m) (T r + 1), cm_updS h1, cm_In_w hS m0 mS mC rS e0 z h2⟩))⟩
      · exact nm_r (nI_1 r) (hk s ⟨T, h1, cm_In_n h2 (fun y => g ((cm_sub0 (by omega)).mpr y.2.1))⟩)
    · exact nm_r (nI_1 r) (hk s ⟨T, h1, cm_In_n h2 (fun y => h ((cm_and0 (by omega)).mpr y.1))⟩)
theorem cy_ch41 {post : Int32 → SY → Prop} {c : Nat} {d : Nat → Nat} {a le : Nat → Int32} (ok : cm_OK c d) (ha : ∀ j, j < c → a j = nI (d j)) {S w : Nat} (hS : S < 2 ^ c)
    (hw : cm_Wd (cm_L c d) S w) (hl : ∀ j, j ≤ S → le j = nI (cm_T0 j))
    (hp : ∀ le, post (nI w) (nI c, a, le)) : ∃ n, wY_chains_41 post (nI S) (nI c) n 1 a le := by
  have h2 := cm_p2 ok.1
  refine pk_loop (fun n m s => wY_chains_41 post (nI S) (nI c) n (nI m) a s)
    (fun m s => 1 ≤ m ∧ ∃ T, (∀ j, j ≤ S → s j = nI (T j)) ∧ cm_Lo (cm_L c d) S T ∧ cm_Hi (cm_L c d) S m T) (S + 1) 1 le (by omega) ?_ ?_ ?_
  · exact ⟨Nat.le_refl 1, cm_T0, hl, cm_Lo_i _ S, cm_Hi_i _ S⟩
  · rintro n s ⟨_, T, h1, g1, g2⟩
    refine br_t (nI_lt (by omega) (by omega)) ⟨vp_in_nI (by omega) (by omega), ?_⟩
    rw [nI_clamp (by omega), h1 S (Nat.le_refl S), cm_chains (cm_tr ok) (cm_up ok) (by omega) g1 g2 hw]
    exact hp s
  · rintro n m s hm ⟨m1, T, h1, g1, g2⟩ hk
    have no : ¬ (cm_Sub m S ∧ cm_Chn (cm_L c d) m) → ∃ n72, wY_chains_72 post (wY_chains_41 post (nI S) (nI c) n) (nI S) (nI m) 0 (nI c) n72 0 a s :=
      fun z => ⟨1, br_t rfl (nm_r (nI_1 m) (hk s ⟨by omega, T, h1, g1, cm_Hi_n z g2⟩))⟩
    refine br_f (nI_nlt (by omega) (by omega)) (br_c (fun h => ?_) (fun h => ?_))
    · have mS := (cm_sub0 (by omega)).mp h
      refine cy_chn ok ha (by omega) (fun g => ?_) (fun g => ?_)
      · refine br_f (by decide) (cy_ch72 (by omega) (by omega) mS g h1 g1 (fun s' T' f1 f2 => ?_))
        exact hk s' ⟨by omega, T', f1, f2.2.2.2, cm_Hi_g (by omega) g2 f2⟩
      · exact br_t rfl (no (fun z => g z.2))
    · exact no (fun z => h ((cm_sub0 (by omega)).mpr z.1))
theorem cy_chains {post : Int32 → SY → Prop} {c : Nat} {d : Nat → Nat} {a l : Nat → Int32} (ok : cm_OK c d) (ha : ∀ j, j < c → a j = nI (d j)) {S w : Nat} (hS : S < 2 ^ c)
    (hw : cm_Wd (cm_L c d) S w) (hp : ∀ le, post (nI w) (nI c, a, le)) : wpY_chains post (nI c, a, l) (nI S) := by
  have h2 := cm_p2 ok.1
  unfold wpY_chains
  dsimp only
  refine cy_set_y ok.1 hS (br_f (by decide) ?_)
  refine loop_0 (fun n i s => wY_chains_12 post (nI S) (nI c) n (nI i) a s) (fun i s => ∀ j, j < i → s j = nI (cm_T0 j)) (S + 1) l ?_ ?_ ?_
  · exact fun v hv => absurd hv (Nat.not_lt_zero v)
  · intro n s hI
    exact br_t (nI_lt (by omega) (by omega)) (cy_ch41 ok ha hS hw (fun j hj => hI j (by omega)) hp)
  · intro n i s hi hI hk
    have st : ∀ x, x = cm_T0 i → ∀ j, j < i + 1 → upd s i (nI x) j = nI (cm_T0 j) := by
      intro x ex j hj
      by_cases e : j = i
      · subst e; rw [pk_us, ex]
      · rw [pk_un e]; exact hI j (by omega)
    refine br_f (nI_nlt (by omega) (by omega)) (pk_eq i 0 (fun e => ?_) (fun e => ?_))
    · refine ⟨vp_in_nI (by omega) (by omega), nm_e (nm_r (nI_1 i) (hk _ ?_))⟩
      rw [nI_clamp (by omega)]
      exact st 0 (by unfold cm_T0; rw [if_pos e])
    · refine ⟨vp_in_nI (by omega) (by omega), nm_e (nm_r (nI_1 i) (hk _ ?_))⟩
      rw [nI_clamp (by omega)]
      exact st 100 (by unfold cm_T0; rw [if_neg e])
end
section
-- the reference's list of the largest antichains, and its search of the lowest and the highest
theorem cm_fl {P : Nat → Prop} {i : Nat} {le : Nat → Int32} {x : Int32} (h : ∀ s, s < i → (le s = 1 ↔ P s)) (hx : x = 1 ↔ P i) :
    ∀ s, s < i + 1 → (upd le i x s = 1 ↔ P s) := by
  intro s hs
  by_cases e : s = i
  · subst e
    rw [pk_us]
    exact hx
  · rw [pk_un e]
    exact h s (by omega)
theorem cy_find {post : SY → Prop} {c : Nat} {d : Nat → Nat} {a l : Nat → Int32} (ok : cm_OK c d) (ha : ∀ j, j < c → a j = nI (d j)) {w : Nat}
    (hw : cm_Wd (cm_L c d) (2 ^ c - 1) w) (hp : ∀ le, (∀ s, s < 2 ^ c → (le s = 1 ↔ cm_Lg (cm_L c d) (2 ^ c - 1) w s)) → post (nI c, a, le)) :
    wpY_findLargest post (nI c, a, l) := by
  have h2 := cm_p2 ok.1
  have hc := ok.1
  have hw10 := cm_Wd_le hw
  unfold wpY_findLargest
  dsimp only
  rw [cm_full hc]
  refine cy_width ok ha (cm_full_lt c) hw ?_
  refine loop_0 (fun n i s => wY_findLargest_15 post (nI w) (nI c) n (nI i) a s)
    (fun i le => ∀ s, s < i → (le s = 1 ↔ cm_Lg (cm_L c d) (2 ^ c - 1) w s)) (2 ^ c) l ?_ ?_ ?_
  · exact fun v hv => absurd hv (Nat.not_lt_zero v)
  · intro n s hI
    exact br_t (by rw [cm_shl hc]; exact nI_le (Nat.le_refl _) (by omega)) (hp s hI)
  · intro n i s hi hI hk
    have hpc := cm_pc_le 10 i
    refine br_f (by rw [cm_shl hc]; exact nI_ge hi (by omega)) (cy_size (by omega) ?_)
    rw [nI_clamp (n := i) (by omega)]
    refine pk_eq (cm_pc 10 i) w (fun e => ?_) (fun e => ?_)
    · refine cy_anti ok ha hi (fun g => ?_) (fun g => ?_)
      · exact br_f (by decide) ⟨vp_in_nI (by omega) (by omega), nm_e (nm_r (nI_1 i) (hk _ (cm_fl hI ⟨fun _ => ⟨cm_fs.mpr hi, g, e⟩, fun _ => rfl⟩)))⟩
      · exact br_t rfl ⟨vp_in_nI (by omega) (by omega), nm_e (nm_r (nI_1 i) (hk _ (cm_fl hI ⟨fun z => absurd z (by decide), fun z => absurd z.2.1 g⟩)))⟩
    · exact ⟨vp_in_nI (by omega) (by omega), nm_e (nm_r (nI_1 i) (hk _ (cm_fl hI ⟨fun z => absurd z (by decide), fun z => absurd z.2.2 e⟩)))⟩
theorem cy_some {post : Int32 → Prop} {c : Nat} {d : Nat → Nat} {a l : Nat → Int32} (ok : cm_OK c d) (ha : ∀ j, j < c → a j = nI (d j)) {v o : Nat} (hv : v < c) (ho : o < 2 ^ c)
    (h1 : (∃ b, o.testBit b = true ∧ cm_L c d v b) → post 1) (h0 : ¬ (∃ b, o.testBit b = true ∧ cm_L c d v b) → post 0) : wpY_someAbove post (nI c, a, l) (nI v) (nI o) := by
  have h2 := cm_p2 ok.1
  have hc := ok.1
  refine loop_0 (σ := Unit) (fun n i _ => wY_someAbove_2 post (nI v) (nI o) (nI c) a l n (nI i))
    (fun i _ => ∀ b, b < i → ¬ (o.testBit b = true ∧ (d b).testBit v = true)) c () ?_ ?_ ?_
  · exact fun v hv => absurd hv (Nat.not_lt_zero v)
  · intro n _ hI
    refine br_t (nI_le (Nat.le_refl c) (by omega)) (h0 ?_)
    rintro ⟨b, g1, g2, g3⟩
    exact hI b g2 ⟨g1, g3⟩
  · intro n i _ hi hI hk
    have hd := cm_dk ok hi
    have next : ¬ (o.testBit i = true ∧ (d i).testBit v = true) → wY_someAbove_2 post (nI v) (nI o) (nI c) a l n (nI (i + 1)) := fun z => hk () (fun b hb => by
      by_cases e : b = i
      · subst e; exact z
      · exact hI b (by omega))
    refine br_f (nI_ge hi (by omega)) (cy_in (by omega) (by omega) (fun hb => ?_) (fun hb => ?_))
    · refine br_f (by decide) ⟨vp_in_nI (by omega) (by omega), ?_⟩
      rw [nI_clamp (n := i) (by omega), ha i hi]
      refine cy_in (by omega) (by omega) (fun hb2 => ?_) (fun hb2 => ?_)
      · exact br_f (by decide) (h1 ⟨i, hb, hi, hb2⟩)
      · exact br_t rfl (nm_r (nI_1 i) (next (fun z => by rw [hb2] at z; cases z.2)))
    · exact br_t rfl (nm_r (nI_1 i) (next (fun z => by rw [hb] at z; cases z.1)))
def cm_Ab (c : Nat) (d : Nat → Nat) (low : Bool) (s o : Nat) : Prop :=
  ∀ v, s.testBit v = true → o.testBit v = true ∨ ∃ b, o.testBit b = true ∧ cond low (cm_L c d v b) (cm_L c d b v)
theorem cy_bel {post : Int32 → Prop} {c : Nat} {d : Nat → Nat} {a l : Nat → Int32} (ok : cm_OK c d) (ha : ∀ j, j < c → a j = nI (d j)) {s o : Nat} (hs : s < 2 ^ c) (ho : o < 2 ^ c)
    (h1 : cm_Ab c d true s o → post 1) (h0 : ¬ cm_Ab c d true s o → post 0) : wpY_allBelow post (nI c, a, l) (nI s) (nI o) := by
  have h2 := cm_p2 ok.1
  have hc := ok.1
  refine loop_0 (σ := Unit) (fun n i _ => wY_allBelow_2 post (nI s) (nI o) (nI c) a l n (nI i))
    (fun i _ => ∀ v, v < i → s.testBit v = true → o.testBit v = true ∨ ∃ b, o.testBit b = true ∧ cm_L c d v b) c () ?_ ?_ ?_
  · exact fun v hv => absurd hv (Nat.not_lt_zero v)
  · intro n _ hI
    exact br_t (nI_le (Nat.le_refl c) (by omega)) (h1 (fun v hv => hI v (cm_hi2 hs hv) hv))
  · intro n i _ hi hI hk
    have next : (s.testBit i = true → o.testBit i = true ∨ ∃ b, o.testBit b = true ∧ cm_L c d i b) → wY_allBelow_2 post (nI s) (nI o) (nI c) a l n (nI (i + 1)) := fun z => hk () (fun b hb => by
      by_cases e : b = i
      · subst e; exact z
      · exact hI b (by omega))
    refine br_f (nI_ge hi (by omega)) (cy_in (by omega) (by omega) (fun hb => ?_) (fun hb => ?_))
    · refine br_f (by decide) (cy_in (by omega) (by omega) (fun hb2 => ?_) (fun hb2 => ?_))
      · exact br_f (by decide) (nm_r (nI_1 i) (next (fun _ => Or.inl hb2)))
      · refine br_t rfl (cy_some ok ha hi ho (fun g => ?_) (fun g => ?_))
        · exact br_f (by decide) (nm_r (nI_1 i) (next (fun _ => Or.inr g)))
        · refine br_t rfl (h0 (fun z => ?_))
          rcases z i hb with y | y
          · rw [hb2] at y; cases y
          · exact g y
    · exact br_t rfl (nm_r (nI_1 i) (next (fun z => by rw [hb] at z; cases z)))
theorem cy_abo {post : Int32 → Prop} {c : Nat} {d : Nat → Nat} {a l : Nat → Int32} (ok : cm_OK c d) (ha : ∀ j, j < c → a j = nI (d j)) {s o : Nat} (hs : s < 2 ^ c) (ho : o < 2 ^ c)
    (h1 : cm_Ab c d false s o → post 1) (h0 : ¬ cm_Ab c d false s o → post 0) : wpY_allAbove post (nI c, a, l) (nI s) (nI o) := by
  have h2 := cm_p2 ok.1
  have hc := ok.1
  refine loop_0 (σ := Unit) (fun n i _ => wY_allAbove_2 post (nI s) (nI o) (nI c) a l n (nI i))
    (fun i _ => ∀ v, v < i → s.testBit v = true → o.testBit v = true ∨ ∃ b, o.testBit b = true ∧ cm_L c d b v) c () ?_ ?_ ?_
  · exact fun v hv => absurd hv (Nat.not_lt_zero v)
  · intro n _ hI
    exact br_t (nI_le (Nat.le_refl c) (by omega)) (h1 (fun v hv => hI v (cm_hi2 hs hv) hv))
  · intro n i _ hi hI hk
    have hd := cm_dk ok hi
    have next : (s.testBit i = true → o.testBit i = true ∨ ∃ b, o.testBit b = true ∧ cm_L c d b i) → wY_allAbove_2 post (nI s) (nI o) (nI c) a l n (nI (i + 1)) := fun z => hk () (fun b hb => by
      by_cases e : b = i
      · subst e; exact z
      · exact hI b (by omega))
    refine br_f (nI_ge hi (by omega)) (cy_in (by omega) (by omega) (fun hb => ?_) (fun hb => ?_))
    · refine br_f (by decide) (cy_in (by omega) (by omega) (fun hb2 => ?_) (fun hb2 => ?_))
      · exact br_f (by decide) (nm_r (nI_1 i) (next (fun _ => Or.inl hb2)))
      · refine br_t rfl ⟨vp_in_nI (by omega) (by omega), ?_⟩
        rw [nI_clamp (n := i) (by omega), ha i hi]
        refine br_c (fun g => h0 (fun z => ?_)) (fun g => nm_r (nI_1 i) (next (fun _ => Or.inr ?_)))
        · rcases z i hb with y | ⟨b, y1, y2⟩
          · rw [hb2] at y; cases y
          · exact cm_and0'.mp ((cm_and0 hd).mp g) b y2.2 y1
        · apply Classical.byContradiction
          intro hn
          exact g ((cm_and0 hd).mpr (cm_and0'.mpr (fun b y1 y2 => hn ⟨b, y2, hi, y1⟩)))
    · exact br_t rfl (nm_r (nI_1 i) (next (fun z => by rw [hb] at z; cases z)))
theorem cy_isx {post : Int32 → Prop} {c : Nat} {d : Nat → Nat} {a le : Nat → Int32} (ok : cm_OK c d) (ha : ∀ j, j < c → a j = nI (d j)) {s : Nat} (hs : s < 2 ^ c) (low : Bool)
    (h1 : (∀ o, o < 2 ^ c → le o = 1 → cm_Ab c d low s o) → post 1) (h0 : ¬ (∀ o, o < 2 ^ c → le o = 1 → cm_Ab c d low s o) → post 0) :
    wpY_isExtreme post (nI c, a, le) (nI s) (nI low.toNat) := by
  have h2 := cm_p2 ok.1
  have hc := ok.1
  refine loop_0 (σ := Unit) (fun n i _ => wY_isExtreme_2 post (nI s) (nI low.toNat) (nI c) a le n (nI i))
    (fun i _ => ∀ o, o < i → le o = 1 → cm_Ab c d low s o) (2 ^ c) () ?_ ?_ ?_
  · exact fun v hv => absurd hv (Nat.not_lt_zero v)
  · intro n _ hI
    exact br_t (by rw [cm_shl hc]; exact nI_le (Nat.le_refl _) (by omega)) (h1 hI)
  · intro n i _ hi hI hk
    have next : (le i = 1 → cm_Ab c d low s i) → wY_isExtreme_2 post (nI s) (nI low.toNat) (nI c) a le n (nI (i + 1)) := fun z => hk () (fun b hb => by
      by_cases e : b = i
      · subst e; exact z
      · exact hI b (by omega))
    refine br_f (by rw [cm_shl hc]; exact nI_ge hi (by omega)) ⟨vp_in_nI (by omega) (by omega), ?_⟩
    rw [nI_clamp (n := i) (by omega)]
    refine br_c (fun e => ?_) (fun e => nm_r (nI_1 i) (next (fun z => absurd z e)))
    cases low with
    | false =>
      refine br_t rfl (cy_abo ok ha hs hi (fun g => ?_) (fun g => ?_))
      · exact br_f (by decide) (nm_r (nI_1 i) (next (fun _ => g)))
      · exact br_t rfl (h0 (fun z => g (z i hi e)))
    | true =>
      refine br_f (by decide) (cy_bel ok ha hs hi (fun g => ?_) (fun g => ?_))
      · exact br_f (by decide) (nm_r (nI_1 i) (next (fun _ => g)))
      · exact br_t rfl (h0 (fun z => g (z i hi e)))
theorem cy_ext {post : Int32 → SY → Prop} {c : Nat} {d : Nat → Nat} {a l : Nat → Int32} (ok : cm_OK c d) (ha : ∀ j, j < c → a j = nI (d j)) {w M : Nat} (low : Bool)
    (hw : cm_Wd (cm_L c d) (2 ^ c - 1) w) (hM : cm_Lg (cm_L c d) (2 ^ c - 1) w M)
    (hx : ∀ L, cm_Lg (cm_L c d) (2 ^ c - 1) w L → ((∀ B, cm_Lg (cm_L c d) (2 ^ c - 1) w B → cm_Ab c d low L B) ↔ L = M))
    (hp : ∀ le, post (nI M) (nI c, a, le)) : wpY_extreme post (nI c, a, l) (nI low.toNat) := by
  have h2 := cm_p2 ok.1
  have hc := ok.1
  unfold wpY_extreme
  dsimp only
  refine cy_find ok ha hw (fun le hle => ?_)
  dsimp only
  have hMc : M < 2 ^ c := cm_fs.mp hM.1
  have ext : ∀ L, (∀ o, o < 2 ^ c → le o = 1 → cm_Ab c d low L o) ↔ ∀ B, cm_Lg (cm_L c d) (2 ^ c - 1) w B → cm_Ab c d low L B := fun L =>
    ⟨fun h B hB => h B (cm_fs.mp hB.1) ((hle B (cm_fs.mp hB.1)).mpr hB), fun h o ho he => h o ((hle o ho).mp he)⟩
  refine loop_0 (σ := Unit) (fun n i _ => wY_extreme_6 post (nI low.toNat) (nI c) a le n (nI i)) (fun _ _ => True) M () trivial ?_ ?_
  · intro n _ _
    refine br_f (by rw [cm_shl hc]; exact nI_ge hMc (by omega)) ⟨vp_in_nI (by omega) (by omega), ?_⟩
    rw [nI_clamp (n := M) (by omega)]
    refine br_t ((hle M hMc).mpr hM) (cy_isx ok ha hMc low (fun _ => br_f (by decide) (hp le)) (fun g => ?_))
    exact absurd ((ext M).mpr ((hx M hM).mpr rfl)) g
  · intro n i _ hi _ hk
    have hic : i < 2 ^ c := by omega
    refine br_f (by rw [cm_shl hc]; exact nI_ge hic (by omega)) ⟨vp_in_nI (by omega) (by omega), ?_⟩
    rw [nI_clamp (n := i) (by omega)]
    refine br_c (fun e => ?_) (fun e => nm_r (nI_1 i) (hk () trivial))
    refine cy_isx ok ha hic low (fun g => ?_) (fun _ => br_t rfl (nm_r (nI_1 i) (hk () trivial)))
    have := (hx i ((hle i hic).mp e)).mp ((ext i).mp g)
    omega
theorem cy_ins {post : Int32 → SY → Prop} {c : Nat} {d : Nat → Nat} {a l : Nat → Int32} (ok : cm_OK c d) (ha : ∀ j, j < c → a j = nI (d j)) {w v : Nat} (hv : v < c)
    (hw : cm_Wd (cm_L c d) (2 ^ c - 1) w)
    (h1 : (∃ A, cm_Lg (cm_L c d) (2 ^ c - 1) w A ∧ A.testBit v = true) → ∀ le, post 1 (nI c, a, le))
    (h0 : ¬ (∃ A, cm_Lg (cm_L c d) (2 ^ c - 1) w A ∧ A.testBit v = true) → ∀ le, post 0 (nI c, a, le)) : wpY_inSomeLargest post (nI c, a, l) (nI v) := by
  have h2 := cm_p2 ok.1
  have hc := ok.1
  unfold wpY_inSomeLargest
  dsimp only
  refine br_f (nI_pos (by omega)) (br_t (nI_lt hv (by omega)) (cy_find ok ha hw (fun le hle => ?_)))
  dsimp only
  refine loop_0 (σ := Unit) (fun n i _ => wY_inSomeLargest_20 post (nI v) (nI c) a le n (nI i)) (fun i _ => ∀ A, A < i → ¬ (cm_Lg (cm_L c d) (2 ^ c - 1) w A ∧ A.testBit v = true)) (2 ^ c) () ?_ ?_ ?_
  · exact fun v hv => absurd hv (Nat.not_lt_zero v)
  · intro n _ hI
    refine br_t (by rw [cm_shl hc]; exact nI_le (Nat.le_refl _) (by omega)) (h0 ?_ le)
    rintro ⟨A, g1, g2⟩
    exact hI A (cm_fs.mp g1.1) ⟨g1, g2⟩
  · intro n i _ hi hI hk
    have next : ¬ (cm_Lg (cm_L c d) (2 ^ c - 1) w i ∧ i.testBit v = true) → wY_inSomeLargest_20 post (nI v) (nI c) a le n (nI (i + 1)) := fun z => hk () (fun b hb => by
      by_cases e : b = i
      · subst e; exact z
      · exact hI b (by omega))
    refine br_f (by rw [cm_shl hc]; exact nI_ge hi (by omega)) ⟨vp_in_nI (by omega) (by omega), ?_⟩
    rw [nI_clamp (n := i) (by omega)]
    refine br_c (fun e => ?_) (fun e => nm_r (nI_1 i) (next (fun z => e ((hle i hi).mpr z.1))))
    refine cy_in (by omega) (by omega) (fun hb => ?_) (fun hb => ?_)
    · exact br_f (by decide) (h1 ⟨i, (hle i hi).mp e, hb⟩ le)
    · exact br_t rfl (nm_r (nI_1 i) (next (fun z => by rw [hb] at z; cases z.2)))
end
section
-- add and below, both sides
theorem cx_add_f {post : Int32 → SX → Prop} {a b : Nat → Int32} {x : Int32} (hp : post (-2) (nI 10, a, b)) : wpX_add post (nI 10, a, b) x := by
  unfold wpX_add
  dsimp only
  exact br_f (nI_nlt (Nat.le_refl 10) (by decide)) hp
theorem cx_add_n {post : Int32 → SX → Prop} {c : Nat} {a b : Nat → Int32} {x : Int32} (hc : c < 10) (h : x < 0 ∨ nI (2 ^ c) ≤ x) (hp : post (-1) (nI c, a, b)) : wpX_add post (nI c, a, b) x := by
  unfold wpX_add
  dsimp only
  exact br_t (nI_lt (b := 10) hc (by decide)) (cx_set_n (by omega) h (br_t rfl hp))
theorem cx_add_y {post : Int32 → SX → Prop} {c : Nat} {d : Nat → Nat} {a b : Nat → Int32} (ok : cm_OK c d) (ha : ∀ j, j < c → a j = nI (d j)) (hc : c < 10) {s : Nat} (hs : s < 2 ^ c)
    (hp : ∀ f, (∀ t, f.testBit t = true ↔ s.testBit t = true ∨ ∃ v, v < c ∧ s.testBit v = true ∧ (d v).testBit t = true) → post (nI (c + 1)) (nI (c + 1), upd a c (nI f), b)) :
    wpX_add post (nI c, a, b) (nI s) := by
  unfold wpX_add
  dsimp only
  refine br_t (nI_lt (b := 10) hc (by decide)) (cx_set_y (by omega) hs (br_f (by decide) (cx_eb ok ha hs (fun f _ hf => ?_))))
  refine ⟨vp_in_nI hc (by decide), nm_r (e' := upd a c (nI (s ||| f))) ?_ (nm_r (nI_1 c) (hp (s ||| f) (fun t => ?_)))⟩
  · rw [nI_clamp (by omega), cm_or]
  · rw [cm_or_bit, hf t]
theorem cy_add_f {post : Int32 → SY → Prop} {a b : Nat → Int32} {x : Int32} (hp : post (-2) (nI 10, a, b)) : wpY_add post (nI 10, a, b) x := by
  unfold wpY_add
  dsimp only
  exact br_t rfl hp
theorem cm_n10 {c : Nat} (hc : c < 10) : ¬ nI c = 10 := fun h => by
  have := (nI_eq (a := c) (b := 10) (by omega) (by decide)).mp h
  omega
theorem cy_add_n {post : Int32 → SY → Prop} {c : Nat} {a b : Nat → Int32} {x : Int32} (hc : c < 10) (h : x < 0 ∨ nI (2 ^ c) ≤ x) (hp : post (-1) (nI c, a, b)) : wpY_add post (nI c, a, b) x := by
  unfold wpY_add
  dsimp only
  exact br_f (cm_n10 hc) (cy_set_n (by omega) h (br_t rfl hp))
theorem cy_add_y {post : Int32 → SY → Prop} {c : Nat} {d : Nat → Nat} {a l : Nat → Int32} (ok : cm_OK c d) (ha : ∀ j, j < c → a j = nI (d j)) (hc : c < 10) {s : Nat} (hs : s < 2 ^ c)
    (hp : ∀ f, (∀ t, f.testBit t = true ↔ s.testBit t = true ∨ ∃ v, v < c ∧ s.testBit v = true ∧ (d v).testBit t = true) → post (nI (c + 1)) (nI (c + 1), upd a c (nI f), l)) :
    wpY_add post (nI c, a, l) (nI s) := by
  have h2 := cm_p2 ok.1
  unfold wpY_add
  dsimp only
  refine br_f (cm_n10 hc) (cy_set_y (by omega) hs (br_f (by decide) ?_))
  refine loop_0 (fun n i f => wY_add_26 post (nI s) (nI c) a l n (nI f) (nI i))
    (fun i f => ∀ t, f.testBit t = true ↔ s.testBit t = true ∨ ∃ v, v < i ∧ s.testBit v = true ∧ (d v).testBit t = true) c s ?_ ?_ ?_
  · refine fun t => ⟨fun h => Or.inl h, ?_⟩
    rintro (h | ⟨v, hv, _⟩)
    · exact h
    · exact absurd hv (Nat.not_lt_zero v)
  · intro n f hI
    refine br_t (nI_le (Nat.le_refl c) (by omega)) ⟨vp_in_nI hc (by decide), nm_r (e' := upd a c (nI f)) ?_ (nm_r (nI_1 c) (hp f hI))⟩
    rw [nI_clamp (by omega)]
  · intro n i f hi hI hk
    refine br_f (nI_ge hi (by omega)) (cy_in (by omega) (by omega) (fun hb => ?_) (fun hb => ?_))
    · refine br_f (by decide) ⟨vp_in_nI (by omega) (by omega), nm_r ?_ (nm_r (nI_1 i) (hk (f ||| d i) ?_))⟩
      · rw [nI_clamp (by omega), ha i hi, cm_or]
      · intro t
        rw [cm_or_bit, hI t, cm_exs, or_assoc]
        simp [hb]
    · refine br_t rfl (nm_r (nI_1 i) (hk f ?_))
      intro t
      rw [hI t, cm_exs]
      simp [hb]
theorem cx_bel {post : Int32 → Prop} {c : Nat} {d : Nat → Nat} {a b : Nat → Int32} (ok : cm_OK c d) (ha : ∀ j, j < c → a j = nI (d j)) {u v : Nat} (hu : u < c) (hv : v < c)
    (h1 : (d v).testBit u = true → post 1) (h0 : (d v).testBit u = false → post 0) : wpX_below post (nI c, a, b) (nI u) (nI v) := by
  have hc := ok.1
  have hd := cm_dk ok hv
  unfold wpX_below
  dsimp only
  refine cx_elt_y hc hu (br_f (by decide) (cx_elt_y hc hv (br_f (by decide) ⟨vp_in_nI (by omega) (by decide), ?_⟩)))
  rw [nI_clamp (n := v) (by omega), ha v hv]
  exact cx_has (by omega) (by omega) (fun h => br_f (by decide) (h1 h)) (fun h => br_t rfl (h0 h))
theorem cy_below {post : Int32 → Prop} {c : Nat} {d : Nat → Nat} {a b : Nat → Int32} (ok : cm_OK c d) (ha : ∀ j, j < c → a j = nI (d j)) {u v : Nat} (hu : u < c) (hv : v < c)
    (h1 : (d v).testBit u = true → post 1) (h0 : (d v).testBit u = false → post 0) : wpY_below post (nI c, a, b) (nI u) (nI v) := by
  have hc := ok.1
  have hd := cm_dk ok hv
  unfold wpY_below
  dsimp only
  refine br_f (nI_pos (by omega)) (br_f (nI_ge hu (by omega)) (br_f (nI_pos (by omega)) (br_f (nI_ge hv (by omega)) ⟨vp_in_nI (by omega) (by decide), ?_⟩)))
  rw [nI_clamp (n := v) (by omega), ha v hv]
  exact cy_in (by omega) (by omega) (fun h => br_f (by decide) (h1 h)) (fun h => br_t rfl (h0 h))
theorem cx_bel_1 {post : Int32 → Prop} {c : Nat} {a b : Nat → Int32} {x y : Int32} (h : x < 0 ∨ nI c ≤ x) (hp : post 0) : wpX_below post (nI c, a, b) x y := by
  unfold wpX_below
  dsimp only
  exact cx_elt_n h (br_t rfl hp)
theorem cx_bel_2 {post : Int32 → Prop} {c : Nat} {a b : Nat → Int32} {u : Nat} {y : Int32} (hc : c ≤ 10) (hu : u < c) (h : y < 0 ∨ nI c ≤ y) (hp : post 0) : wpX_below post (nI c, a, b) (nI u) y := by
  unfold wpX_below
  dsimp only
  exact cx_elt_y hc hu (br_f (by decide) (cx_elt_n h (br_t rfl hp)))
theorem cy_bel_1 {post : Int32 → Prop} {c : Nat} {a b : Nat → Int32} {x y : Int32} (h : x < 0 ∨ nI c ≤ x) (hp : post 0) : wpY_below post (nI c, a, b) x y := by
  unfold wpY_below
  dsimp only
  by_cases h0 : x < 0
  · exact br_t h0 hp
  · exact br_f h0 (br_t (h.resolve_left h0) hp)
theorem cy_bel_2 {post : Int32 → Prop} {c : Nat} {a b : Nat → Int32} {u : Nat} {y : Int32} (hc : c ≤ 10) (hu : u < c) (h : y < 0 ∨ nI c ≤ y) (hp : post 0) : wpY_below post (nI c, a, b) (nI u) y := by
  unfold wpY_below
  dsimp only
  refine br_f (nI_pos (by omega)) (br_f (nI_ge hu (by omega)) ?_)
  by_cases h0 : y < 0
  · exact br_t h0 hp
  · exact br_f h0 (br_t (h.resolve_left h0) hp)
-- the argument of a method that takes a set, or an element
theorem cm_arg (x : Int32) {n : Nat} (hn : n < 2 ^ 31) : (x < 0 ∨ nI n ≤ x) ∨ ∃ s, s < n ∧ x = nI s := by
  rcases pk_ix x hn with h | h | ⟨s, h1, h2⟩
  · exact Or.inl (Or.inl h)
  · exact Or.inl (Or.inr h)
  · exact Or.inr ⟨s, h1, h2⟩
end
section
/-- both sides keep the same order: c elements, the same array of down-sets; the component's second array and the reference's table are free -/
def i_Rel (_ : Nat) (u : SX) (v : SY) : Prop :=
  ∃ (c : Nat) (d : Nat → Nat) (a b l : Nat → Int32), cm_OK c d ∧ (∀ j, j < c → a j = nI (d j)) ∧ u = (nI c, a, b) ∧ v = (nI c, a, l)
theorem i_up {k : Nat} {u : SX} {v : SY} (h : i_Rel k u v) : i_Rel (k + 3) u v := h
theorem i_vc0 : wpX_init (fun u => wpY_init (fun v => i_Rel 0 u v)) :=
  ⟨0, fun _ => 0, fun _ => 0, fun _ => 0, fun _ => 0, ⟨Nat.zero_le 10, fun v hv => absurd hv (Nat.not_lt_zero v), fun v _ _ hv => absurd hv (Nat.not_lt_zero v)⟩,
    fun j hj => absurd hj (Nat.not_lt_zero j), rfl, rfl⟩
theorem i_vc_add {k : Nat} {u : SX} {v : SY} (I : i_Rel k u v) (hk : k + 3 ≤ 1536) (v1 : Int32) : wpX_add (fun r u' => wpY_add (fun r' v' => r' = r ∧ i_Rel (k + 3) u' v') v v1) u v1 := by
  obtain ⟨c, d, a, b, l, ok, ha, rfl, rfl⟩ := I
  have h2 := cm_p2 ok.1
  by_cases hc : c < 10
  · rcases cm_arg v1 (n := 2 ^ c) (by omega) with h | ⟨s, hs, rfl⟩
    · exact cx_add_n hc h (cy_add_n hc h ⟨rfl, c, d, a, b, l, ok, ha, rfl, rfl⟩)
    · refine cx_add_y ok ha hc hs (fun f hf => cy_add_y ok ha hc hs (fun g hg => ?_))
      have e : g = f := cm_ext (fun t => by rw [hg t, hf t])
      subst e
      refine ⟨rfl, c + 1, cm_ud d c g, upd a c (nI g), b, l, cm_add_ok ok hc hs hf, fun j hj => ?_, rfl, rfl⟩
      unfold upd cm_ud
      by_cases e : j = c
      · rw [if_pos e, if_pos e]
      · rw [if_neg e, if_neg e, ha j (by omega)]
  · have e : c = 10 := by have := ok.1; omega
    subst e
    exact cx_add_f (cy_add_f ⟨rfl, 10, d, a, b, l, ok, ha, rfl, rfl⟩)
theorem i_vc_removeLast {k : Nat} {u : SX} {v : SY} (I : i_Rel k u v) (hk : k + 3 ≤ 1536) : wpX_removeLast (fun r u' => wpY_removeLast (fun r' v' => r' = r ∧ i_Rel (k + 3) u' v') v) u := by
  obtain ⟨c, d, a, b, l, ok, ha, rfl, rfl⟩ := I
  have hc := ok.1
  unfold wpX_removeLast wpY_removeLast
  dsimp only
  cases c with
  | zero => exact br_t rfl (br_t rfl ⟨rfl, 0, d, a, b, l, ok, ha, rfl, rfl⟩)
  | succ c =>
    have h0 : ¬ nI (c + 1) = 0 := nI_ne0 (by omega) (by omega)
    exact br_f h0 (nm_r (nI_pred c) (br_f h0 (nm_r (nI_pred c) ⟨rfl, c, d, a, b, l, cm_less_ok ok, fun j hj => ha j (by omega), rfl, rfl⟩)))
theorem i_vc_turn {k : Nat} {u : SX} {v : SY} (I : i_Rel k u v) (hk : k + 3 ≤ 1536) : wpX_turn (fun r u' => wpY_turn (fun r' v' => r' = r ∧ i_Rel (k + 3) u' v') v) u := by
  obtain ⟨c, d, a, b, l, ok, ha, rfl, rfl⟩ := I
  exact cx_turn ok ha (fun tu => cy_turn ok ha (fun le => ⟨rfl, c, cm_tn c d, cm_tf c d a, tu, le, cm_tn_ok ok, fun j hj => if_pos hj, rfl, rfl⟩))
theorem i_vc_size {k : Nat} {u : SX} {v : SY} (I : i_Rel k u v) (hk : k + 3 ≤ 1536) : wpX_size (fun r => wpY_size (fun r' => r' = r ∧ i_Rel (k + 3) u v) v) u := by
  obtain ⟨c, d, a, b, l, ok, ha, rfl, rfl⟩ := I
  exact ⟨rfl, c, d, a, b, l, ok, ha, rfl, rfl⟩
theorem i_vc_below {k : Nat} {u : SX} {v : SY} (I : i_Rel k u v) (hk : k + 3 ≤ 1536) (v1 : Int32) (v2 : Int32) : wpX_below (fun r => wpY_below (fun r' => r' = r ∧ i_Rel (k + 3) u v) v v1 v2) u v1 v2 := by
  have J : i_Rel (k + 3) u v := I
  obtain ⟨c, d, a, b, l, ok, ha, rfl, rfl⟩ := I
  have hc := ok.1
  rcases cm_arg v1 (n := c) (by omega) with h | ⟨x, hx, rfl⟩
  · exact cx_bel_1 h (cy_bel_1 h ⟨rfl, J⟩)
  · rcases cm_arg v2 (n := c) (by omega) with h | ⟨y, hy, rfl⟩
    · exact cx_bel_2 hc hx h (cy_bel_2 hc hx h ⟨rfl, J⟩)
    · refine cx_bel ok ha hx hy (fun h => cy_below ok ha hx hy (fun _ => ⟨rfl, J⟩) (fun g => ?_)) (fun h => cy_below ok ha hx hy (fun g => ?_) (fun _ => ⟨rfl, J⟩))
      · rw [h] at g; cases g
      · rw [h] at g; cases g
theorem i_vc_width {k : Nat} {u : SX} {v : SY} (I : i_Rel k u v) (hk : k + 3 ≤ 1536) (v1 : Int32) : wpX_width (fun r => wpY_width (fun r' => r' = r ∧ i_Rel (k + 3) u v) v v1) u v1 := by
  have J : i_Rel (k + 3) u v := I
  obtain ⟨c, d, a, b, l, ok, ha, rfl, rfl⟩ := I
  have hc := ok.1
  have h2 := cm_p2 hc
  unfold wpX_width
  dsimp only
  rcases cm_arg v1 (n := 2 ^ c) (by omega) with h | ⟨s, hs, rfl⟩
  · refine cx_set_n hc h (br_t rfl ?_)
    unfold wpY_width
    dsimp only
    exact cy_set_n hc h (br_t rfl ⟨rfl, J⟩)
  · exact cx_set_y hc hs (br_f (by decide) (cx_size ok ha hs (fun w hw => cy_width ok ha hs hw ⟨rfl, J⟩)))
theorem i_vc_chains {k : Nat} {u : SX} {v : SY} (I : i_Rel k u v) (hk : k + 3 ≤ 1536) (v1 : Int32) : wpX_chains (fun r => wpY_chains (fun r' v' => r' = r ∧ i_Rel (k + 3) u v') v v1) u v1 := by
  obtain ⟨c, d, a, b, l, ok, ha, rfl, rfl⟩ := I
  have hc := ok.1
  have h2 := cm_p2 hc
  unfold wpX_chains
  dsimp only
  rcases cm_arg v1 (n := 2 ^ c) (by omega) with h | ⟨s, hs, rfl⟩
  · refine cx_set_n hc h (br_t rfl ?_)
    unfold wpY_chains
    dsimp only
    exact cy_set_n hc h (br_t rfl ⟨rfl, c, d, a, b, l, ok, ha, rfl, rfl⟩)
  · exact cx_set_y hc hs (br_f (by decide) (cx_size ok ha hs (fun w hw => cy_chains ok ha hs hw (fun le => ⟨rfl, c, d, a, b, le, ok, ha, rfl, rfl⟩))))
theorem i_vc_longestChain {k : Nat} {u : SX} {v : SY} (I : i_Rel k u v) (hk : k + 3 ≤ 1536) (v1 : Int32) : wpX_longestChain (fun r => wpY_longestChain (fun r' => r' = r ∧ i_Rel (k + 3) u v) v v1) u v1 := by
  have J : i_Rel (k + 3) u v := I
  obtain ⟨c, d, a, b, l, ok, ha, rfl, rfl⟩ := I
  have hc := ok.1
  have h2 := cm_p2 hc
  unfold wpX_longestChain
  dsimp only
  rcases cm_arg v1 (n := 2 ^ c) (by omega) with h | ⟨s, hs, rfl⟩
  · refine cx_set_n hc h (br_t rfl ?_)
    unfold wpY_longestChain
    dsimp only
    exact cy_set_n hc h (br_t rfl ⟨rfl, J⟩)
  · refine cx_set_y hc hs (br_f (by decide) (cx_long ok ha hs (fun w hw => ?_)))
    unfold wpY_longestChain
    dsimp only
    refine cy_set_y hc hs (br_f (by decide) (cy_lc ok ha hs (fun w' hw' => ?_)))
    rw [cm_Lc_un hw' hw]
    exact ⟨rfl, J⟩
theorem i_vc_lowest {k : Nat} {u : SX} {v : SY} (I : i_Rel k u v) (hk : k + 3 ≤ 1536) : wpX_lowest (fun r => wpY_lowest (fun r' v' => r' = r ∧ i_Rel (k + 3) u v') v) u := by
  obtain ⟨c, d, a, b, l, ok, ha, rfl, rfl⟩ := I
  have hc := ok.1
  have h2 := cm_p2 hc
  have h3 := cm_full_lt c
  unfold wpX_lowest
  dsimp only
  refine cx_union ok ha (fun w U hw hU hch => cx_mn ok ha hU ?_)
  obtain ⟨A, g1, g2, g3⟩ := hw.1
  obtain ⟨hM, hx⟩ := cm_low_eq (cm_tr ok) (cm_ir ok) (S := 2 ^ c - 1) (w := w) (U := U) (by omega) hw.2 ⟨A, g1, g2, g3⟩ hch
  unfold wpY_lowest
  dsimp only
  exact cy_ext ok ha true hw hM hx (fun le => ⟨rfl, c, d, a, b, le, ok, ha, rfl, rfl⟩)
theorem i_vc_highest {k : Nat} {u : SX} {v : SY} (I : i_Rel k u v) (hk : k + 3 ≤ 1536) : wpX_highest (fun r => wpY_highest (fun r' v' => r' = r ∧ i_Rel (k + 3) u v') v) u := by
  obtain ⟨c, d, a, b, l, ok, ha, rfl, rfl⟩ := I
  have hc := ok.1
  have h2 := cm_p2 hc
  have h3 := cm_full_lt c
  unfold wpX_highest
  dsimp only
  refine cx_union ok ha (fun w U hw hU hch => cx_eb ok ha hU (fun f hf hb => ?_))
  rw [cm_not (by omega), cm_mx_eq hc hU hb]
  obtain ⟨A, g1, g2, g3⟩ := hw.1
  obtain ⟨hM, hx⟩ := cm_hi_eq (cm_tr ok) (cm_ir ok) (S := 2 ^ c - 1) (w := w) (U := U) (by omega) hw.2 ⟨A, g1, g2, g3⟩ hch
  unfold wpY_highest
  dsimp only
  exact cy_ext ok ha false hw hM hx (fun le => ⟨rfl, c, d, a, b, le, ok, ha, rfl, rfl⟩)
theorem i_vc_isLargest {k : Nat} {u : SX} {v : SY} (I : i_Rel k u v) (hk : k + 3 ≤ 1536) (v1 : Int32) : wpX_isLargest (fun r => wpY_isLargest (fun r' => r' = r ∧ i_Rel (k + 3) u v) v v1) u v1 := by
  have J : i_Rel (k + 3) u v := I
  obtain ⟨c, d, a, b, l, ok, ha, rfl, rfl⟩ := I
  have hc := ok.1
  have h2 := cm_p2 hc
  unfold wpX_isLargest wpY_isLargest
  dsimp only
  rw [cm_full hc]
  rcases cm_arg v1 (n := 2 ^ c) (by omega) with h | ⟨s, hs, rfl⟩
  · exact cx_set_n hc h (br_t rfl (cy_set_n hc h (br_t rfl ⟨rfl, J⟩)))
  · refine cx_set_y hc hs (br_f (by decide) (cx_anti ok ha hs (fun g => br_f (by decide) (nm_e (cx_count (by omega) (cx_size ok ha (cm_full_lt c) (fun w hw => ?_)))))
      (fun g => br_t rfl (cy_set_y hc hs (br_f (by decide) (cy_anti ok ha hs (fun z => absurd z g) (fun _ => br_t rfl ⟨rfl, J⟩)))))))
    refine br_c (fun e => ?_) (fun e => ?_)
    · exact cy_set_y hc hs (br_f (by decide) (cy_anti ok ha hs (fun _ => br_f (by decide) (cy_size (by omega) (cy_width ok ha (cm_full_lt c) hw (br_t e ⟨rfl, J⟩)))) (fun z => absurd g z)))
    · exact cy_set_y hc hs (br_f (by decide) (cy_anti ok ha hs (fun _ => br_f (by decide) (cy_size (by omega) (cy_width ok ha (cm_full_lt c) hw (br_f e ⟨rfl, J⟩)))) (fun z => absurd g z)))
theorem i_vc_inSomeLargest {k : Nat} {u : SX} {v : SY} (I : i_Rel k u v) (hk : k + 3 ≤ 1536) (v1 : Int32) : wpX_inSomeLargest (fun r => wpY_inSomeLargest (fun r' v' => r' = r ∧ i_Rel (k + 3) u v') v v1) u v1 := by
  obtain ⟨c, d, a, b, l, ok, ha, rfl, rfl⟩ := I
  have hc := ok.1
  have h2 := cm_p2 hc
  unfold wpX_inSomeLargest
  dsimp only
  rcases cm_arg v1 (n := c) (by omega) with h | ⟨s, hs, rfl⟩
  · refine cx_elt_n h (br_t rfl ?_)
    unfold wpY_inSomeLargest
    dsimp only
    by_cases h0 : v1 < 0
    · exact br_t h0 ⟨rfl, c, d, a, b, l, ok, ha, rfl, rfl⟩
    · exact br_f h0 (br_f (Int32.not_lt.mpr (h.resolve_left h0)) ⟨rfl, c, d, a, b, l, ok, ha, rfl, rfl⟩)
  · refine cx_elt_y hc hs (br_f (by decide) (cx_union ok ha (fun w U hw hU hch => cx_has (by omega) (by omega) (fun hb => ⟨rfl, ?_⟩) (fun hb => ⟨rfl, ?_⟩))))
    · exact cy_ins ok ha hs hw (fun _ le => ⟨rfl, c, d, a, b, le, ok, ha, rfl, rfl⟩) (fun z => absurd ((hch s).mp hb) z)
    · refine cy_ins ok ha hs hw (fun z => ?_) (fun _ le => ⟨rfl, c, d, a, b, le, ok, ha, rfl, rfl⟩)
      have := (hch s).mpr z
      rw [hb] at this
      cases this
end
