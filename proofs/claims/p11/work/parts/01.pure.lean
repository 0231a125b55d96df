/-! own rows: the packing of an outcome into a long; stores; sums -/
def bt (x : Int32) (i : Nat) : Bool := x.toBitVec.getLsbD i
theorem b_ext {x y : Int32} (h : ∀ i, i < 32 → bt x i = bt y i) : x = y := Int32.toBitVec_inj.mp (BitVec.eq_of_getLsbD_eq (fun i hi => h i hi))
theorem b_or (x y : Int32) (i : Nat) : bt (x ||| y) i = (bt x i || bt y i) := by unfold bt; rw [Int32.toBitVec_or, BitVec.getLsbD_or]
theorem b_and (x y : Int32) (i : Nat) : bt (x &&& y) i = (bt x i && bt y i) := by unfold bt; rw [Int32.toBitVec_and, BitVec.getLsbD_and]
theorem b_big {x : Int32} {i : Nat} (h : 32 ≤ i) : bt x i = false := BitVec.getLsbD_of_ge _ _ h
theorem b_0 (i : Nat) : bt 0 i = false := BitVec.getLsbD_zero
theorem s_u : ∀ n, n < 32 → (((nI n).toUInt32 &&& Int32.toUInt32 31).toBitVec % 32).toNat = n := by decide +kernel
theorem b_ushr (n : Nat) (hn : n < 32) (x : Int32) (i : Nat) : bt ((x.toUInt32 >>> ((nI n).toUInt32 &&& Int32.toUInt32 31)).toInt32) i = bt x (n + i) := by
  show (x.toUInt32 >>> ((nI n).toUInt32 &&& Int32.toUInt32 31)).toBitVec.getLsbD i = x.toUInt32.toBitVec.getLsbD (n + i)
  rw [UInt32.toBitVec_shiftRight]
  show (x.toUInt32.toBitVec >>> (((nI n).toUInt32 &&& Int32.toUInt32 31).toBitVec % 32).toNat).getLsbD i = _
  rw [s_u n hn, BitVec.getLsbD_ushiftRight]
/-! the packing -/
def im_P (k v : Int32) : Int64 := (k.toInt64 <<< ((32 : Int32).toInt64 &&& 63)) ||| (v.toInt64 &&& 4294967295)
theorem im_m32 : ∀ i, i < 64 → (4294967295 : Int64).toBitVec.getLsbD i = decide (i < 32) := by decide +kernel
theorem im_s32 : (((32 : Int32).toInt64 &&& 63).toBitVec.smod 64).toNat = 32 := by decide +kernel
theorem im_u32 : (((32 : Int32).toInt64.toUInt64 &&& Int64.toUInt64 63).toBitVec % 64).toNat = 32 := by decide +kernel
theorem im_bit (k v : Int32) (i : Nat) (hi : i < 64) : (im_P k v).toBitVec.getLsbD i = if i < 32 then bt v i else bt k (i - 32) := by
  unfold im_P
  rw [Int64.toBitVec_or, BitVec.getLsbD_or, Int64.toBitVec_and, BitVec.getLsbD_and, im_m32 i hi, Int64.toBitVec_shiftLeft]
  rw [BitVec.shiftLeft_eq', im_s32, BitVec.getLsbD_shiftLeft, Int32.toBitVec_toInt64, Int32.toBitVec_toInt64, BitVec.getLsbD_signExtend, BitVec.getLsbD_signExtend]
  unfold bt
  by_cases h : i < 32
  · simp [h, hi]
  · have h2 : i - 32 < 32 := by omega
    have h3 : i - 32 < 64 := by omega
    simp [h, hi, h2, h3]
theorem im_shr (x : Int64) : (x.toUInt64 >>> ((32 : Int32).toInt64.toUInt64 &&& Int64.toUInt64 63)).toInt64.toBitVec = x.toBitVec >>> 32 := by
  show x.toBitVec >>> (((32 : Int32).toInt64.toUInt64 &&& Int64.toUInt64 63).toBitVec % 64) = x.toBitVec >>> 32
  rw [BitVec.ushiftRight_eq', im_u32]
theorem im_t32 (x : Int64) {i : Nat} (hi : i < 32) : bt x.toInt32 i = x.toBitVec.getLsbD i := by
  unfold bt
  rw [Int64.toBitVec_toInt32, BitVec.getLsbD_signExtend, if_pos (show i < 64 by omega), decide_eq_true hi, Bool.true_and]
theorem im_kind (k v : Int32) : (((im_P k v).toUInt64 >>> ((32 : Int32).toInt64.toUInt64 &&& Int64.toUInt64 63)).toInt64).toInt32 = k := by
  apply b_ext
  intro i hi
  rw [im_t32 _ hi, im_shr, BitVec.getLsbD_ushiftRight, im_bit k v (32 + i) (by omega), if_neg (by omega), show 32 + i - 32 = i by omega]
theorem im_pay (k v : Int32) : (im_P k v).toInt32 = v := by
  apply b_ext
  intro i hi
  rw [im_t32 _ hi, im_bit k v i (by omega), if_pos hi]
theorem im_is3 (k v : Int32) : ((im_P k v).toUInt64 >>> ((32 : Int32).toInt64.toUInt64 &&& Int64.toUInt64 63)).toInt64 = 3 ↔ k = 3 := by
  constructor
  · intro h
    have e := im_kind k v
    rw [h] at e
    rw [← e]; decide
  · rintro rfl
    apply Int64.toBitVec_inj.mp
    rw [im_shr]
    apply BitVec.eq_of_getLsbD_eq
    intro i hi
    rw [BitVec.getLsbD_ushiftRight]
    have h3 : ∀ i, i < 32 → (3 : Int64).toBitVec.getLsbD i = bt 3 i := by decide +kernel
    have h4 : ∀ i, i < 64 → 32 ≤ i → (3 : Int64).toBitVec.getLsbD i = false := by decide +kernel
    rcases Nat.lt_or_ge i 32 with h | h
    · rw [im_bit 3 v (32 + i) (by omega), h3 i h, if_neg (by omega), show 32 + i - 32 = i by omega]
    · rw [h4 i hi h, BitVec.getLsbD_of_ge _ _ (by omega)]
theorem im_inj {k v k' v' : Int32} (h : im_P k v = im_P k' v') : k = k' ∧ v = v' := by
  constructor
  · rw [← im_kind k v, h, im_kind]
  · rw [← im_pay k v, h, im_pay]
theorem im_P00 : im_P 0 0 = 0 := by decide +kernel
theorem im_P30 : im_P 3 0 = 12884901888 := by decide +kernel
/-! sums over the first n -/
def im_S (f : Nat → Nat) : Nat → Nat
  | 0 => 0
  | n + 1 => im_S f n + f n
theorem im_S_le {f g : Nat → Nat} : ∀ n, (∀ i, i < n → f i ≤ g i) → im_S f n ≤ im_S g n
  | 0, _ => Nat.le_refl _
  | n + 1, h => Nat.add_le_add (im_S_le n (fun i hi => h i (by omega))) (h n (by omega))
theorem im_S_lt {f g : Nat → Nat} : ∀ n, (∀ i, i < n → f i ≤ g i) → (∃ i, i < n ∧ f i < g i) → im_S f n < im_S g n
  | 0, _, ⟨_, hi, _⟩ => absurd hi (Nat.not_lt_zero _)
  | n + 1, h, ⟨i, hi, hl⟩ => by
    have h1 := im_S_le n (fun i hi => h i (by omega))
    have h2 := h n (by omega)
    show im_S f n + f n < im_S g n + g n
    by_cases e : i = n
    · subst e; omega
    · have h3 := im_S_lt n (fun i hi => h i (by omega)) ⟨i, by omega, hl⟩
      omega
theorem im_S_eq {f g : Nat → Nat} : ∀ n, (∀ i, i < n → f i = g i) → im_S f n = im_S g n := fun n h =>
  Nat.le_antisymm (im_S_le n (fun i hi => Nat.le_of_eq (h i hi))) (im_S_le n (fun i hi => Nat.le_of_eq (h i hi).symm))
theorem im_S_b {f : Nat → Nat} {b : Nat} : ∀ n, (∀ i, i < n → f i ≤ b) → im_S f n ≤ n * b
  | 0, _ => by simp [im_S]
  | n + 1, h => by
    have h1 := im_S_b n (fun i hi => h i (by omega))
    have h2 := h n (by omega)
    show im_S f n + f n ≤ (n + 1) * b
    rw [Nat.succ_mul]
    omega
/-! the codes of a mask, counted -/
def im_c1 (m : Int32) (i : Nat) : Nat := if bt m i = true then 1 else 0
def im_pc (m : Int32) : Nat := im_S (im_c1 m) 16
theorem im_pc_b (m : Int32) : im_pc m ≤ 16 := by
  have h := im_S_b (f := im_c1 m) (b := 1) 16 (fun i _ => by unfold im_c1; split <;> omega)
  unfold im_pc; omega
theorem im_c1_le {m m' : Int32} (h : ∀ i, bt m' i = true → bt m i = true) (i : Nat) : im_c1 m' i ≤ im_c1 m i := by
  unfold im_c1
  by_cases e : bt m' i = true
  · rw [if_pos e, if_pos (h i e)]; exact Nat.le_refl _
  · rw [if_neg e]; exact Nat.zero_le _
theorem im_pc_lt {m m' : Int32} (h : ∀ i, bt m' i = true → bt m i = true) (hb : ∀ i, bt m i = true → i < 16) (hn : m ≠ m') : im_pc m' < im_pc m := by
  apply im_S_lt 16 (fun i _ => im_c1_le h i)
  apply Classical.byContradiction
  intro hc
  apply hn
  apply b_ext
  intro i _
  by_cases e : bt m i = true
  · by_cases e' : bt m' i = true
    · rw [e, e']
    · exact absurd ⟨i, hb i e, by unfold im_c1; rw [if_pos e, if_neg e']; omega⟩ hc
  · by_cases e' : bt m' i = true
    · exact absurd (h i e') e
    · rw [Bool.not_eq_true] at e e'; rw [e, e']
/-! arrays filled from the left; a loop whose state is its counter's -/
def im_fl {α : Type} (f g : Nat → α) (t : Nat) : Nat → α := fun j => if j < t then g j else f j
theorem im_fl0 {α : Type} (f g : Nat → α) : im_fl f g 0 = f := funext fun j => if_neg (Nat.not_lt_zero j)
theorem im_fl_lt {α : Type} {f g : Nat → α} {t j : Nat} (h : j < t) : im_fl f g t j = g j := if_pos h
theorem im_fl_ge {α : Type} {f g : Nat → α} {t j : Nat} (h : ¬ j < t) : im_fl f g t j = f j := if_neg h
theorem im_flU (f g : Nat → Int32) (t : Nat) : upd (im_fl f g t) t (g t) = im_fl f g (t + 1) := by
  funext j
  by_cases e : j = t
  · subst e; rw [pk_us, im_fl_lt (by omega)]
  · rw [pk_un e]
    by_cases h : j < t
    · rw [im_fl_lt h, im_fl_lt (by omega)]
    · rw [im_fl_ge h, im_fl_ge (by omega)]
theorem im_flL (f g : Nat → Int64) (t : Nat) : vp_updL (im_fl f g t) t (g t) = im_fl f g (t + 1) := by
  funext j
  by_cases e : j = t
  · subst e; rw [pk_uLs, im_fl_lt (by omega)]
  · rw [pk_uLn e]
    by_cases h : j < t
    · rw [im_fl_lt h, im_fl_lt (by omega)]
    · rw [im_fl_ge h, im_fl_ge (by omega)]
theorem im_flfl {α : Type} (f g h : Nat → α) (t : Nat) : im_fl (im_fl f g t) h t = im_fl f h t := by
  funext j
  by_cases e : j < t
  · rw [im_fl_lt e, im_fl_lt e]
  · rw [im_fl_ge e, im_fl_ge e, im_fl_ge e]
theorem im_flc {α : Type} {f g g' : Nat → α} {t : Nat} (h : ∀ j, j < t → g j = g' j) : im_fl f g t = im_fl f g' t := by
  funext j
  by_cases e : j < t
  · rw [im_fl_lt e, im_fl_lt e, h j e]
  · rw [im_fl_ge e, im_fl_ge e]
theorem im_lp {W : Nat → Nat → Prop} (e : Nat) (hx : ∀ n, W (n + 1) e) (hs : ∀ n i, i < e → W n (i + 1) → W (n + 1) i) : ∀ n i, i ≤ e → e - i < n → W n i := by
  intro n
  induction n with
  | zero => intro i _ h; omega
  | succ n ih =>
    intro i hi h
    by_cases e1 : i = e
    · subst e1; exact hx n
    · exact hs n i (by omega) (ih (i + 1) (by omega) (by omega))
theorem im_lp0 {W : Nat → Nat → Prop} (e : Nat) (hx : ∀ n, W (n + 1) e) (hs : ∀ n i, i < e → W n (i + 1) → W (n + 1) i) : ∃ n, W n 0 := ⟨e + 1, im_lp e hx hs (e + 1) 0 (by omega) (by omega)⟩
/-! whether one of the first n differs -/
def im_ch (p : Nat → Prop) : Nat → Prop
  | 0 => False
  | n + 1 => im_ch p n ∨ p n
theorem im_ch_iff (p : Nat → Prop) : ∀ n, im_ch p n ↔ ∃ i, i < n ∧ p i
  | 0 => ⟨fun z => z.elim, fun ⟨_, h, _⟩ => absurd h (Nat.not_lt_zero _)⟩
  | n + 1 => by
    unfold im_ch
    rw [im_ch_iff p n]
    constructor
    · rintro (⟨i, h, hp⟩ | hp)
      · exact ⟨i, by omega, hp⟩
      · exact ⟨n, by omega, hp⟩
    · rintro ⟨i, h, hp⟩
      by_cases e : i = n
      · subst e; exact Or.inr hp
      · exact Or.inl ⟨i, by omega, hp⟩
