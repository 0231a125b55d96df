section
/-! own rows: the packing of an outcome into a long; stores; sums -/
def bt (x : Int32) (i : Nat) : Bool := x.toBitVec.getLsbD i
theorem b_ext {x y : Int32} (h : ∀ i, i < 32 → bt x i = bt y i) : x = y := Int32.toBitVec_inj.mp (BitVec.eq_of_getLsbD_eq (fun i hi => h i hi))
theorem b_or (x y : Int32) (i : Nat) : bt (x ||| y) i = (bt x i || bt y i) := by unfold bt; rw [Int32.toBitVec_or, BitVec.getLsbD_or]
theorem b_and (x y : Int32) (i : Nat) : bt (x &&& y) i = (bt x i && bt y i) := by unfold bt; rw [Int32.toBitVec_and, BitVec.getLsbD_and]
theorem b_big {x : Int32} {i : Nat} (h : 32 ≤ i) : bt x i = false := BitVec.getLsbD_of_ge _ _ h
theorem b_0 (i : Nat) : bt 0 i = false := BitVec.getLsbD_zero
theorem s_u : ∀ n, n < 32 → (((nI n).toUInt32 &&& Int32.toUInt32 31).toBitVec % 32).toNat = n := by decide +kernel
theorem b_ushr (n : Nat) (hn : n < 32) (x : Int32) (i : Nat) : bt ((x.toUInt32 >>> ((nI n).toUInt32 &&& Int32.toUInt32 31)).toInt32) i = bt x (n + i) := by
  show (x.toUInt32 >>> ((nI n).toUInt32 &&& Int32.toUInt32 31)).toBitVec.getLsbD i = x.toUInt32.toBitVec.getLsbD (n + i)
  rw [UInt32.toBitVec_shiftRight]
  show (x.toUInt32.toBitVec >>> (((nI n).toUInt32 &&& Int32.toUInt32 31).toBitVec % 32).toNat).getLsbD i = _
  rw [s_u n hn, BitVec.getLsbD_ushiftRight]
/-! the packing -/
def im_P (k v : Int32) : Int64 := (k.toInt64 <<< ((32 : Int32).toInt64 &&& 63)) ||| (v.toInt64 &&& 4294967295)
theorem im_m32 : ∀ i, i < 64 → (4294967295 : Int64).toBitVec.getLsbD i = decide (i < 32) := by decide +kernel
theorem im_s32 : (((32 : Int32).toInt64 &&& 63).toBitVec.smod 64).toNat = 32 := by decide +kernel
theorem im_u32 : (((32 : Int32).toInt64.toUInt64 &&& Int64.toUInt64 63).toBitVec % 64).toNat = 32 := by decide +kernel
theorem im_bit (k v : Int32) (i : Nat) (hi : i < 64) : (im_P k v).toBitVec.getLsbD i = if i < 32 then bt v i else bt k (i - 32) := by
  unfold im_P
  rw [Int64.toBitVec_or, BitVec.getLsbD_or, Int64.toBitVec_and, BitVec.getLsbD_and, im_m32 i hi, Int64.toBitVec_shiftLeft]
  rw [BitVec.shiftLeft_eq', im_s32, BitVec.getLsbD_shiftLeft, Int32.toBitVec_toInt64, Int32.toBitVec_toInt64, BitVec.getLsbD_signExtend, BitVec.getLsbD_signExtend]
  unfold bt
  by_cases h : i < 32
  · simp [h, hi]
  · have h2 : i - 32 < 32 := by omega
    have h3 : i - 32 < 64 := by omega
    simp [h, hi, h2, h3]
theorem im_shr (x : Int64) : (x.toUInt64 >>> ((32 : Int32).toInt64.toUInt64 &&& Int64.toUInt64 63)).toInt64.toBitVec = x.toBitVec >>> 32 := by
  show x.toBitVec >>> (((32 : Int32).toInt64.toUInt64 &&& Int64.toUInt64 63).toBitVec % 64) = x.toBitVec >>> 32
  rw [BitVec.ushiftRight_eq', im_u32]
theorem im_t32 (x : Int64) {i : Nat} (hi : i < 32) : bt x.toInt32 i = x.toBitVec.getLsbD i := by
  unfold bt
  rw [Int64.toBitVec_toInt32, BitVec.getLsbD_signExtend, if_pos (show i < 64 by omega), decide_eq_true hi, Bool.true_and]
theorem im_kind (k v : Int32) : (((im_P k v).toUInt64 >>> ((32 : Int32).toInt64.toUInt64 &&& Int64.toUInt64 63)).toInt64).toInt32 = k := by
  apply b_ext
  intro i hi
  rw [im_t32 _ hi, im_shr, BitVec.getLsbD_ushiftRight, im_bit k v (32 + i) (by omega), if_neg (by omega), show 32 + i - 32 = i by omega]
theorem im_pay (k v : Int32) : (im_P k v).toInt32 = v := by
  apply b_ext
  intro i hi
  rw [im_t32 _ hi, im_bit k v i (by omega), if_pos hi]
theorem im_is3 (k v : Int32) : ((im_P k v).toUInt64 >>> ((32 : Int32).toInt64.toUInt64 &&& Int64.toUInt64 63)).toInt64 = 3 ↔ k = 3 := by
  constructor
  · intro h
    have e := im_kind k v
    rw [h] at e
    rw [← e]; decide
  · rintro rfl
    apply Int64.toBitVec_inj.mp
    rw [im_shr]
    apply BitVec.eq_of_getLsbD_eq
    intro i hi
    rw [BitVec.getLsbD_ushiftRight]
    have h3 : ∀ i, i < 32 → (3 : Int64).toBitVec.getLsbD i = bt 3 i := by decide +kernel
    have h4 : ∀ i, i < 64 → 32 ≤ i → (3 : Int64).toBitVec.getLsbD i = false := by decide +kernel
    rcases Nat.lt_or_ge i 32 with h | h
    · rw [im_bit 3 v (32 + i) (by omega), h3 i h, if_neg (by omega), show 32 + i - 32 = i by omega]
    · rw [h4 i hi h, BitVec.getLsbD_of_ge _ _ (by omega)]
theorem im_inj {k v k' v' : Int32} (h : im_P k v = im_P k' v') : k = k' ∧ v = v' := by
  constructor
  · rw [← im_kind k v, h, im_kind]
  · rw [← im_pay k v, h, im_pay]
theorem im_P00 : im_P 0 0 = 0 := by decide +kernel
theorem im_P30 : im_P 3 0 = 12884901888 := by decide +kernel
/-! sums over the first n -/
def im_S (f : Nat → Nat) : Nat → Nat
  | 0 => 0
  | n + 1 => im_S f n + f n
theorem im_S_le {f g : Nat → Nat} : ∀ n, (∀ i, i < n → f i ≤ g i) → im_S f n ≤ im_S g n
  | 0, _ => Nat.le_refl _
  | n + 1, h => Nat.add_le_add (im_S_le n (fun i hi => h i (by omega))) (h n (by omega))
theorem im_S_lt {f g : Nat → Nat} : ∀ n, (∀ i, i < n → f i ≤ g i) → (∃ i, i < n ∧ f i < g i) → im_S f n < im_S g n
  | 0, _, ⟨_, hi, _⟩ => absurd hi (Nat.not_lt_zero _)
  | n + 1, h, ⟨i, hi, hl⟩ => by
    have h1 := im_S_le n (fun i hi => h i (by omega))
    have h2 := h n (by omega)
    show im_S f n + f n < im_S g n + g n
    by_cases e : i = n
    · subst e; omega
    · have h3 := im_S_lt n (fun i hi => h i (by omega)) ⟨i, by omega, hl⟩
      omega
theorem im_S_eq {f g : Nat → Nat} : ∀ n, (∀ i, i < n → f i = g i) → im_S f n = im_S g n := fun n h =>
  Nat.le_antisymm (im_S_le n (fun i hi => Nat.le_of_eq (h i hi))) (im_S_le n (fun i hi => Nat.le_of_eq (h i hi).symm))
theorem im_S_b {f : Nat → Nat} {b : Nat} : ∀ n, (∀ i, i < n → f i ≤ b) → im_S f n ≤ n * b
  | 0, _ => by simp [im_S]
  | n + 1, h => by
    have h1 := im_S_b n (fun i hi => h i (by omega))
    have h2 := h n (by omega)
    show im_S f n + f n ≤ (n + 1) * b
    rw [Nat.succ_mul]
    omega
/-! the codes of a mask, counted -/
def im_c1 (m : Int32) (i : Nat) : Nat := if bt m i = true then 1 else 0
def im_pc (m : Int32) : Nat := im_S (im_c1 m) 16
theorem im_pc_b (m : Int32) : im_pc m ≤ 16 := by
  have h := im_S_b (f := im_c1 m) (b := 1) 16 (fun i _ => by unfold im_c1; split <;> omega)
  unfold im_pc; omega
theorem im_c1_le {m m' : Int32} (h : ∀ i, bt m' i = true → bt m i = true) (i : Nat) : im_c1 m' i ≤ im_c1 m i := by
  unfold im_c1
  by_cases e : bt m' i = true
  · rw [if_pos e, if_pos (h i e)]; exact Nat.le_refl _
  · rw [if_neg e]; exact Nat.zero_le _
theorem im_pc_lt {m m' : Int32} (h : ∀ i, bt m' i = true → bt m i = true) (hb : ∀ i, bt m i = true → i < 16) (hn : m ≠ m') : im_pc m' < im_pc m := by
  apply im_S_lt 16 (fun i _ => im_c1_le h i)
  apply Classical.byContradiction
  intro hc
  apply hn
  apply b_ext
  intro i _
  by_cases e : bt m i = true
  · by_cases e' : bt m' i = true
    · rw [e, e']
    · exact absurd ⟨i, hb i e, by unfold im_c1; rw [if_pos e, if_neg e']; omega⟩ hc
  · by_cases e' : bt m' i = true
    · exact absurd (h i e') e
    · rw [Bool.not_eq_true] at e e'; rw [e, e']
/-! arrays filled from the left; a loop whose state is its counter's -/
def im_fl {α : Type} (f g : Nat → α) (t : Nat) : Nat → α := fun j => if j < t then g j else f j
theorem im_fl0 {α : Type} (f g : Nat → α) : im_fl f g 0 = f := funext fun j => if_neg (Nat.not_lt_zero j)
theorem im_fl_lt {α : Type} {f g : Nat → α} {t j : Nat} (h : j < t) : im_fl f g t j = g j := if_pos h
theorem im_fl_ge {α : Type} {f g : Nat → α} {t j : Nat} (h : ¬ j < t) : im_fl f g t j = f j := if_neg h
theorem im_flU (f g : Nat → Int32) (t : Nat) : upd (im_fl f g t) t (g t) = im_fl f g (t + 1) := by
  funext j
  by_cases e : j = t
  · subst e; rw [pk_us, im_fl_lt (by omega)]
  · rw [pk_un e]
    by_cases h : j < t
    · rw [im_fl_lt h, im_fl_lt (by omega)]
    · rw [im_fl_ge h, im_fl_ge (by omega)]
theorem im_flL (f g : Nat → Int64) (t : Nat) : vp_updL (im_fl f g t) t (g t) = im_fl f g (t + 1) := by
  funext j
  by_cases e : j = t
  · subst e; rw [pk_uLs, im_fl_lt (by omega)]
  · rw [pk_uLn e]
    by_cases h : j < t
    · rw [im_fl_lt h, im_fl_lt (by omega)]
    · rw [im_fl_ge h, im_fl_ge (by omega)]
theorem im_flfl {α : Type} (f g h : Nat → α) (t : Nat) : im_fl (im_fl f g t) h t = im_fl f h t := by
  funext j
  by_cases e : j < t
  · rw [im_fl_lt e, im_fl_lt e]
  · rw [im_fl_ge e, im_fl_ge e, im_fl_ge e]
theorem im_flc {α : Type} {f g g' : Nat → α} {t : Nat} (h : ∀ j, j < t → g j = g' j) : im_fl f g t = im_fl f g' t := by
  funext j
  by_cases e : j < t
  · rw [im_fl_lt e, im_fl_lt e, h j e]
  · rw [im_fl_ge e, im_fl_ge e]
theorem im_lp {W : Nat → Nat → Prop} (e : Nat) (hx : ∀ n, W (n + 1) e) (hs : ∀ n i, i < e → W n (i + 1) → W (n + 1) i) : ∀ n i, i ≤ e → e - i < n → W n i := by
  intro n
  induction n with
  | zero => intro i _ h; omega
  | succ n ih =>
    intro i hi h
    by_cases e1 : i = e
    · subst e1; exact hx n
    · exact hs n i (by omega) (ih (i + 1) (by omega) (by omega))
theorem im_lp0 {W : Nat → Nat → Prop} (e : Nat) (hx : ∀ n, W (n + 1) e) (hs : ∀ n i, i < e → W n (i + 1) → W (n + 1) i) : ∃ n, W n 0 := ⟨e + 1, im_lp e hx hs (e + 1) 0 (by omega) (by omega)⟩
/-! whether one of the first n differs -/
def im_ch (p : Nat → Prop) : Nat → Prop
  | 0 => False
  | n + 1 => im_ch p n ∨ p n
theorem im_ch_iff (p : Nat → Prop) : ∀ n, im_ch p n ↔ ∃ i, i < n ∧ p i
  | 0 => ⟨fun z => z.elim, fun ⟨_, h, _⟩ => absurd h (Nat.not_lt_zero _)⟩
  | n + 1 => by
    unfold im_ch
    rw [im_ch_iff p n]
    constructor
    · rintro (⟨i, h, hp⟩ | hp)
      · exact ⟨i, by omega, hp⟩
      · exact ⟨n, by omega, hp⟩
    · rintro ⟨i, h, hp⟩
      by_cases e : i = n
      · subst e; exact Or.inr hp
      · exact Or.inl ⟨i, by omega, hp⟩
end
section
/-! the denotation: the equation of a node, the order, the rounds -/
def im_s1 (x : Int32) : Int32 := (1 : Int32) <<< (x &&& 31)
def im_mk (m : Int32) : Prop := m ≠ 0 ∧ ∀ i, bt m i = true → 1 ≤ i ∧ i < 16
def im_ar (k x y : Int32) : Int32 := if k = 2 then x + y else if k = 3 then x - y else if k = 4 then x * y else if k = 5 then (if y = 0 then 0 else x / y) else if x < y then 1 else 0
def im_g (c : Nat) (d : Nat → Int32 × Int32) (r : Int32) : Int32 × Int32 := if r < 0 ∨ nI c ≤ r then (3, 16) else d r.toNatClampNeg
def im_bin (k : Int32) (a b : Int32 × Int32) : Int32 × Int32 :=
  if a.1 = 3 then (if b.1 = 3 then (3, a.2 ||| b.2) else a)
  else if b.1 = 3 then b
  else if a.1 = 2 ∨ b.1 = 2 then (3, 4)
  else if k = 5 ∧ b.2 = 0 then (3, 2)
  else (1, im_ar k a.2 b.2)
def im_ct (c : Nat) (K A B C : Nat → Int32) (i : Nat) (a : Int32 × Int32) : Option Int32 :=
  if K i = 7 then (if a.1 = 2 then none else if a.2 = 0 then some (C i) else some (B i))
  else if K i = 8 then some (B i)
  else if a.1 = 2 then (if K i = 10 then some (A a.2.toNatClampNeg) else some (B a.2.toNatClampNeg))
  else none
def im_gO (c : Nat) (d : Nat → Int32 × Int32) : Option Int32 → Int32 × Int32
  | none => (3, 4)
  | some r => im_g c d r
def im_dq (c : Nat) (K A B C : Nat → Int32) (d : Nat → Int32 × Int32) (i : Nat) : Int32 × Int32 :=
  if K i = 0 then (1, A i)
  else if K i = 9 then (2, nI i)
  else if K i = 1 then (3, im_s1 (A i))
  else if 2 ≤ K i ∧ K i ≤ 6 then im_bin (K i) (im_g c d (A i)) (im_g c d (B i))
  else if (im_g c d (A i)).1 = 3 then im_g c d (A i)
  else im_gO c d (im_ct c K A B C i (im_g c d (A i)))
/-- a value: INT v, or PAIR of a K_PAIR node -/
def im_vl (c : Nat) (K : Nat → Int32) (a : Int32 × Int32) : Prop := a.1 = 1 ∨ (a.1 = 2 ∧ ∃ j, j < c ∧ a.2 = nI j ∧ K j = 9)
def im_wf (c : Nat) (K : Nat → Int32) (a : Int32 × Int32) : Prop := (a.1 = 3 ∧ im_mk a.2) ∨ im_vl c K a
def im_le (a b : Int32 × Int32) : Prop := a = b ∨ a = (3, 65534) ∨ (a.1 = 3 ∧ b.1 = 3 ∧ ∀ i, bt b.2 i = true → bt a.2 i = true)
/-- the program: kinds, codes and references -/
def im_Pr (c : Nat) (K A B C : Nat → Int32) : Prop := ∀ i, i < c → (0 ≤ K i ∧ K i ≤ 11) ∧ (K i = 1 → 5 ≤ A i ∧ A i ≤ 15) ∧ (K i ≠ 0 → K i ≠ 1 → A i ≠ -1) ∧ (K i ≠ 0 → K i ≠ 1 → K i ≠ 10 → K i ≠ 11 → B i ≠ -1) ∧ (K i = 7 → C i ≠ -1)
theorem im_ball : ∀ i, bt 65534 i = true ↔ 1 ≤ i ∧ i < 16 := by
  intro i
  rcases Nat.lt_or_ge i 32 with h | h
  · exact (by decide +kernel : ∀ i, i < 32 → (bt 65534 i = true ↔ 1 ≤ i ∧ i < 16)) i h
  · rw [b_big h]
    constructor
    · intro z; exact absurd z (by decide)
    · omega
theorem im_mk_all : im_mk 65534 := ⟨by decide, fun i h => (im_ball i).mp h⟩
theorem im_mk_dec {m : Int32} (h0 : m ≠ 0) (h : ∀ i, i < 32 → bt m i = true → 1 ≤ i ∧ i < 16) : im_mk m := by
  refine ⟨h0, fun i hi => ?_⟩
  rcases Nat.lt_or_ge i 32 with h1 | h1
  · exact h i h1 hi
  · rw [b_big h1] at hi; exact absurd hi (by decide)
theorem im_mk2 : im_mk 2 := im_mk_dec (by decide) (by decide +kernel)
theorem im_mk4 : im_mk 4 := im_mk_dec (by decide) (by decide +kernel)
theorem im_mk16 : im_mk 16 := im_mk_dec (by decide) (by decide +kernel)
theorem im_mk_s1N : ∀ n, n < 16 → 5 ≤ n → im_s1 (nI n) ≠ 0 ∧ ∀ i, i < 32 → bt (im_s1 (nI n)) i = true → 1 ≤ i ∧ i < 16 := by decide +kernel
theorem im_mk_s1 {x : Int32} (h5 : 5 ≤ x) (h15 : x ≤ 15) : im_mk (im_s1 x) := by
  have h0 : ¬ x < 0 := by
    intro z
    have := Int32.lt_of_lt_of_le z (Int32.le_trans (show (0 : Int32) ≤ 5 by decide) h5)
    exact Int32.lt_irrefl this
  obtain ⟨j, hj, rfl⟩ := nI_of h0
  have h1 : 5 ≤ j := (nI_leI (a := 5) (by decide) hj).mp h5
  have h2 : j ≤ 15 := (nI_leI (b := 15) hj (by decide)).mp h15
  have h := im_mk_s1N j (by omega) h1
  exact im_mk_dec h.1 h.2
theorem im_mk_or {a b : Int32} (ha : im_mk a) (hb : im_mk b) : im_mk (a ||| b) := by
  constructor
  · intro h
    apply ha.1
    apply b_ext
    intro i _
    have e := congrArg (fun z => bt z i) h
    simp only [b_or, b_0] at e
    rw [b_0]
    revert e
    cases bt a i <;> cases bt b i <;> simp
  · intro i h
    rw [b_or, Bool.or_eq_true] at h
    rcases h with h | h
    · exact ha.2 i h
    · exact hb.2 i h
theorem im_all_or {b : Int32} (hb : im_mk b) : (65534 : Int32) ||| b = 65534 := by
  apply b_ext
  intro i _
  rw [b_or]
  by_cases h : bt b i = true
  · rw [h, (im_ball i).mpr (hb.2 i h)]; rfl
  · rw [Bool.not_eq_true] at h; rw [h, Bool.or_false]
theorem im_or_all {b : Int32} (hb : im_mk b) : b ||| (65534 : Int32) = 65534 := by
  apply b_ext
  intro i _
  rw [b_or]
  by_cases h : bt b i = true
  · rw [h, (im_ball i).mpr (hb.2 i h)]; rfl
  · rw [Bool.not_eq_true] at h; rw [h, Bool.false_or]
theorem im_wf_ne {c : Nat} {K : Nat → Int32} {a : Int32 × Int32} (h : im_vl c K a) : a.1 ≠ 3 := by
  rcases h with h | ⟨h, _⟩ <;> rw [h] <;> decide
theorem im_wf_s {c : Nat} {K : Nat → Int32} {a : Int32 × Int32} (h : im_wf c K a) (h3 : a.1 = 3) : im_mk a.2 := by
  rcases h with h | h
  · exact h.2
  · exact absurd h3 (im_wf_ne h)
theorem im_wf_v {c : Nat} {K : Nat → Int32} {a : Int32 × Int32} (h : im_wf c K a) (h3 : a.1 ≠ 3) : im_vl c K a := by
  rcases h with h | h
  · exact absurd h.1 h3
  · exact h
theorem im_wf_g {c : Nat} {K : Nat → Int32} {d : Nat → Int32 × Int32} (hc : c < 2 ^ 31) (hd : ∀ j, j < c → im_wf c K (d j)) (r : Int32) : im_wf c K (im_g c d r) := by
  unfold im_g
  by_cases h : r < 0 ∨ nI c ≤ r
  · rw [if_pos h]; exact Or.inl ⟨rfl, im_mk16⟩
  · rw [if_neg h]
    rcases pk_ix r hc with z | z | ⟨j, hj, rfl⟩
    · exact absurd (Or.inl z) h
    · exact absurd (Or.inr z) h
    · rw [nI_clamp (by omega)]; exact hd j hj
theorem im_wf_gO {c : Nat} {K : Nat → Int32} {d : Nat → Int32 × Int32} (hc : c < 2 ^ 31) (hd : ∀ j, j < c → im_wf c K (d j)) (r : Option Int32) : im_wf c K (im_gO c d r) := by
  cases r with
  | none => exact Or.inl ⟨rfl, im_mk4⟩
  | some r => exact im_wf_g hc hd r
theorem im_wf_bin {c : Nat} {K : Nat → Int32} {k : Int32} {a b : Int32 × Int32} (ha : im_wf c K a) (hb : im_wf c K b) : im_wf c K (im_bin k a b) := by
  unfold im_bin
  by_cases h1 : a.1 = 3
  · rw [if_pos h1]
    by_cases h2 : b.1 = 3
    · rw [if_pos h2]; exact Or.inl ⟨rfl, im_mk_or (im_wf_s ha h1) (im_wf_s hb h2)⟩
    · rw [if_neg h2]; exact ha
  · rw [if_neg h1]
    by_cases h2 : b.1 = 3
    · rw [if_pos h2]; exact hb
    · rw [if_neg h2]
      split
      · exact Or.inl ⟨rfl, im_mk4⟩
      · split
        · exact Or.inl ⟨rfl, im_mk2⟩
        · exact Or.inr (Or.inl rfl)
theorem im_wf_dq {c : Nat} {K A B C : Nat → Int32} {d : Nat → Int32 × Int32} (hc : c < 2 ^ 31) (hp : im_Pr c K A B C) (hd : ∀ j, j < c → im_wf c K (d j)) {i : Nat} (hi : i < c) : im_wf c K (im_dq c K A B C d i) := by
  unfold im_dq
  by_cases h0 : K i = 0
  · rw [if_pos h0]; exact Or.inr (Or.inl rfl)
  rw [if_neg h0]
  by_cases h9 : K i = 9
  · rw [if_pos h9]; exact Or.inr (Or.inr ⟨rfl, i, hi, rfl, h9⟩)
  rw [if_neg h9]
  by_cases h1 : K i = 1
  · rw [if_pos h1]; exact Or.inl ⟨rfl, im_mk_s1 ((hp i hi).2.1 h1).1 ((hp i hi).2.1 h1).2⟩
  rw [if_neg h1]
  by_cases hb : 2 ≤ K i ∧ K i ≤ 6
  · rw [if_pos hb]; exact im_wf_bin (im_wf_g hc hd _) (im_wf_g hc hd _)
  rw [if_neg hb]
  by_cases h3 : (im_g c d (A i)).1 = 3
  · rw [if_pos h3]; exact im_wf_g hc hd _
  · rw [if_neg h3]; exact im_wf_gO hc hd _
theorem im_all1 : ((3, 65534) : Int32 × Int32).1 = 3 := rfl
theorem im_le_rf (a : Int32 × Int32) : im_le a a := Or.inl rfl
theorem im_le_all (a : Int32 × Int32) : im_le (3, 65534) a := Or.inr (Or.inl rfl)
theorem im_le_g {c : Nat} {d d' : Nat → Int32 × Int32} (hc : c < 2 ^ 31) (h : ∀ j, j < c → im_le (d j) (d' j)) (r : Int32) : im_le (im_g c d r) (im_g c d' r) := by
  unfold im_g
  by_cases hr : r < 0 ∨ nI c ≤ r
  · rw [if_pos hr, if_pos hr]; exact im_le_rf _
  · rw [if_neg hr, if_neg hr]
    rcases pk_ix r hc with z | z | ⟨j, hj, rfl⟩
    · exact absurd (Or.inl z) hr
    · exact absurd (Or.inr z) hr
    · rw [nI_clamp (by omega)]; exact h j hj
theorem im_le_gO {c : Nat} {d d' : Nat → Int32 × Int32} (hc : c < 2 ^ 31) (h : ∀ j, j < c → im_le (d j) (d' j)) (r : Option Int32) : im_le (im_gO c d r) (im_gO c d' r) := by
  cases r with
  | none => exact im_le_rf _
  | some r => exact im_le_g hc h r
theorem im_le_bin {c : Nat} {K : Nat → Int32} {k : Int32} {a b a' b' : Int32 × Int32} (ha : im_wf c K a) (hb : im_wf c K b) (la : im_le a a') (lb : im_le b b') : im_le (im_bin k a b) (im_bin k a' b') := by
  rcases la with rfl | rfl | ⟨a3, a3', sa⟩
  · rcases lb with rfl | rfl | ⟨b3, b3', sb⟩
    · exact im_le_rf _
    · by_cases h : a.1 = 3
      · have e : im_bin k a (3, 65534) = (3, 65534) := by
          unfold im_bin
          rw [if_pos h, if_pos im_all1]
          show ((3 : Int32), a.2 ||| 65534) = (3, 65534)
          rw [im_or_all (im_wf_s ha h)]
        rw [e]; exact im_le_all _
      · have e : im_bin k a (3, 65534) = (3, 65534) := by
          unfold im_bin
          rw [if_neg h, if_pos im_all1]
        rw [e]; exact im_le_all _
    · by_cases h : a.1 = 3
      · have e : im_bin k a b = (3, a.2 ||| b.2) := by unfold im_bin; rw [if_pos h, if_pos b3]
        have e' : im_bin k a b' = (3, a.2 ||| b'.2) := by unfold im_bin; rw [if_pos h, if_pos b3']
        rw [e, e']
        refine Or.inr (Or.inr ⟨rfl, rfl, fun i => ?_⟩)
        show bt (a.2 ||| b'.2) i = true → bt (a.2 ||| b.2) i = true
        rw [b_or, b_or, Bool.or_eq_true, Bool.or_eq_true]
        exact fun z => z.imp id (sb i)
      · have e : im_bin k a b = b := by unfold im_bin; rw [if_neg h, if_pos b3]
        have e' : im_bin k a b' = b' := by unfold im_bin; rw [if_neg h, if_pos b3']
        rw [e, e']
        exact Or.inr (Or.inr ⟨b3, b3', sb⟩)
  · have e : im_bin k (3, 65534) b = (3, 65534) := by
      unfold im_bin
      rw [if_pos im_all1]
      by_cases h : b.1 = 3
      · rw [if_pos h]
        show ((3 : Int32), 65534 ||| b.2) = (3, 65534)
        rw [im_all_or (im_wf_s hb h)]
      · rw [if_neg h]
    rw [e]; exact im_le_all _
  · rcases lb with rfl | rfl | ⟨b3, b3', sb⟩
    · by_cases h : b.1 = 3
      · have e : im_bin k a b = (3, a.2 ||| b.2) := by unfold im_bin; rw [if_pos a3, if_pos h]
        have e' : im_bin k a' b = (3, a'.2 ||| b.2) := by unfold im_bin; rw [if_pos a3', if_pos h]
        rw [e, e']
        refine Or.inr (Or.inr ⟨rfl, rfl, fun i => ?_⟩)
        show bt (a'.2 ||| b.2) i = true → bt (a.2 ||| b.2) i = true
        rw [b_or, b_or, Bool.or_eq_true, Bool.or_eq_true]
        exact fun z => z.imp (sa i) id
      · have e : im_bin k a b = a := by unfold im_bin; rw [if_pos a3, if_neg h]
        have e' : im_bin k a' b = a' := by unfold im_bin; rw [if_pos a3', if_neg h]
        rw [e, e']
        exact Or.inr (Or.inr ⟨a3, a3', sa⟩)
    · have e : im_bin k a (3, 65534) = (3, 65534) := by
        unfold im_bin
        rw [if_pos a3, if_pos im_all1]
        show ((3 : Int32), a.2 ||| 65534) = (3, 65534)
        rw [im_or_all (im_wf_s ha a3)]
      rw [e]; exact im_le_all _
    · have e : im_bin k a b = (3, a.2 ||| b.2) := by unfold im_bin; rw [if_pos a3, if_pos b3]
      have e' : im_bin k a' b' = (3, a'.2 ||| b'.2) := by unfold im_bin; rw [if_pos a3', if_pos b3']
      rw [e, e']
      refine Or.inr (Or.inr ⟨rfl, rfl, fun i => ?_⟩)
      show bt (a'.2 ||| b'.2) i = true → bt (a.2 ||| b.2) i = true
      rw [b_or, b_or, Bool.or_eq_true, Bool.or_eq_true]
      exact fun z => z.imp (sa i) (sb i)
theorem im_le_dq {c : Nat} {K A B C : Nat → Int32} {d d' : Nat → Int32 × Int32} (hc : c < 2 ^ 31) (hd : ∀ j, j < c → im_wf c K (d j)) (h : ∀ j, j < c → im_le (d j) (d' j)) (i : Nat) : im_le (im_dq c K A B C d i) (im_dq c K A B C d' i) := by
  unfold im_dq
  by_cases h0 : K i = 0
  · rw [if_pos h0, if_pos h0]; exact im_le_rf _
  rw [if_neg h0, if_neg h0]
  by_cases h9 : K i = 9
  · rw [if_pos h9, if_pos h9]; exact im_le_rf _
  rw [if_neg h9, if_neg h9]
  by_cases h1 : K i = 1
  · rw [if_pos h1, if_pos h1]; exact im_le_rf _
  rw [if_neg h1, if_neg h1]
  by_cases hb : 2 ≤ K i ∧ K i ≤ 6
  · rw [if_pos hb, if_pos hb]; exact im_le_bin (im_wf_g hc hd _) (im_wf_g hc hd _) (im_le_g hc h _) (im_le_g hc h _)
  rw [if_neg hb, if_neg hb]
  have la := im_le_g hc h (A i)
  generalize im_g c d (A i) = a at la ⊢
  generalize im_g c d' (A i) = a' at la ⊢
  rcases la with rfl | rfl | ⟨a3, a3', sa⟩
  · by_cases h3 : a.1 = 3
    · rw [if_pos h3, if_pos h3]; exact im_le_rf _
    · rw [if_neg h3, if_neg h3]; exact im_le_gO hc h _
  · rw [if_pos im_all1]; exact im_le_all _
  · rw [if_pos a3, if_pos a3']; exact Or.inr (Or.inr ⟨a3, a3', sa⟩)
/-! the rounds -/
def im_J (c : Nat) (K A B C : Nat → Int32) (d : Nat → Int32 × Int32) : Nat → Int32 × Int32 := fun i => if i < c then im_dq c K A B C d i else (3, 65534)
def im_it (c : Nat) (K A B C : Nat → Int32) : Nat → Nat → Int32 × Int32
  | 0 => fun _ => (3, 65534)
  | n + 1 => im_J c K A B C (im_it c K A B C n)
section
variable {c : Nat} {K A B C : Nat → Int32}
theorem im_it_wf (hc : c < 2 ^ 31) (hp : im_Pr c K A B C) : ∀ n j, im_wf c K (im_it c K A B C n j)
  | 0, _ => Or.inl ⟨rfl, im_mk_all⟩
  | n + 1, j => by
    show im_wf c K (im_J c K A B C (im_it c K A B C n) j)
    unfold im_J
    by_cases h : j < c
    · rw [if_pos h]; exact im_wf_dq hc hp (fun j _ => im_it_wf hc hp n j) h
    · rw [if_neg h]; exact Or.inl ⟨rfl, im_mk_all⟩
theorem im_it_le (hc : c < 2 ^ 31) (hp : im_Pr c K A B C) : ∀ n j, im_le (im_it c K A B C n j) (im_it c K A B C (n + 1) j)
  | 0, _ => im_le_all _
  | n + 1, j => by
    show im_le (im_J c K A B C (im_it c K A B C n) j) (im_J c K A B C (im_it c K A B C (n + 1)) j)
    unfold im_J
    by_cases h : j < c
    · rw [if_pos h, if_pos h]
      exact im_le_dq hc (fun j _ => im_it_wf hc hp n j) (fun j _ => im_it_le hc hp n j) j
    · rw [if_neg h, if_neg h]; exact im_le_rf _
def im_h (a : Int32 × Int32) : Nat := if a.1 = 3 then 16 - im_pc a.2 else 17
theorem im_h_b (a : Int32 × Int32) : im_h a ≤ 17 := by unfold im_h; split <;> omega
theorem im_h_lt {a b : Int32 × Int32} (ha : im_wf c K a) (hb : im_wf c K b) (h : im_le a b) (hn : a ≠ b) : im_h a < im_h b := by
  have key : a.1 = 3 → b.1 = 3 → (∀ i, bt b.2 i = true → bt a.2 i = true) → im_h a < im_h b := by
    intro a3 b3 s
    have hne : a.2 ≠ b.2 := fun e => hn (Prod.ext (a3.trans b3.symm) e)
    have h1 := im_pc_lt s (fun i hi => ((im_wf_s ha a3).2 i hi).2) hne
    have h2 := im_pc_b a.2
    unfold im_h
    rw [if_pos a3, if_pos b3]
    omega
  rcases h with h | h | ⟨a3, b3, s⟩
  · exact absurd h hn
  · subst h
    by_cases b3 : b.1 = 3
    · exact key rfl b3 (fun i hi => (im_ball i).mpr ((im_wf_s hb b3).2 i hi))
    · unfold im_h
      rw [if_pos im_all1, if_neg b3]
      omega
  · exact key a3 b3 s
theorem im_h_le {a b : Int32 × Int32} (ha : im_wf c K a) (hb : im_wf c K b) (h : im_le a b) : im_h a ≤ im_h b := by
  by_cases e : a = b
  · rw [e]; exact Nat.le_refl _
  · exact Nat.le_of_lt (im_h_lt ha hb h e)
theorem im_it_out : ∀ n j, ¬ j < c → im_it c K A B C n j = (3, 65534)
  | 0, _, _ => rfl
  | n + 1, j, h => if_neg h
theorem im_it_grow (hc : c < 2 ^ 31) (hp : im_Pr c K A B C) : ∀ n, (∀ m, m < n → im_it c K A B C (m + 1) ≠ im_it c K A B C m) → n ≤ im_S (fun j => im_h (im_it c K A B C n j)) c
  | 0, _ => Nat.zero_le _
  | n + 1, h => by
    have ih := im_it_grow hc hp n (fun m hm => h m (by omega))
    have hn := h n (by omega)
    have hl : im_S (fun j => im_h (im_it c K A B C n j)) c < im_S (fun j => im_h (im_it c K A B C (n + 1) j)) c := by
      apply im_S_lt
      · intro i _
        exact im_h_le (im_it_wf hc hp n i) (im_it_wf hc hp (n + 1) i) (im_it_le hc hp n i)
      · apply Classical.byContradiction
        intro hx
        apply hn
        funext j
        by_cases hj : j < c
        · apply Classical.byContradiction
          intro e
          exact hx ⟨j, hj, im_h_lt (im_it_wf hc hp n j) (im_it_wf hc hp (n + 1) j) (im_it_le hc hp n j) (fun z => e z.symm)⟩
        · rw [im_it_out _ _ hj, im_it_out _ _ hj]
    omega
theorem im_it_st : ∀ n, im_it c K A B C (n + 1) = im_it c K A B C n → ∀ m, im_it c K A B C (n + m) = im_it c K A B C n
  | _, _, 0 => rfl
  | n, h, m + 1 => by
    have ih := im_it_st n h m
    show im_J c K A B C (im_it c K A B C (n + m)) = _
    rw [ih]
    exact h
theorem im_it_end (hc : c ≤ 32) (hp : im_Pr c K A B C) : ∃ n, n < 600 ∧ im_it c K A B C (n + 1) = im_it c K A B C n := by
  apply Classical.byContradiction
  intro hx
  have h1 := im_it_grow (K := K) (A := A) (B := B) (C := C) (c := c) (by omega) hp 600 (fun m hm e => hx ⟨m, hm, e⟩)
  have h2 := im_S_b (f := fun j => im_h (im_it c K A B C 600 j)) (b := 17) c (fun i _ => im_h_b _)
  have h3 : c * 17 ≤ 32 * 17 := Nat.mul_le_mul_right _ hc
  omega
/-- what the rounds come to -/
theorem im_it_fin (hc : c ≤ 32) (hp : im_Pr c K A B C) {n : Nat} (h : im_it c K A B C (n + 1) = im_it c K A B C n ∨ 1024 ≤ n) : im_it c K A B C n = im_it c K A B C 1024 := by
  obtain ⟨m, hm, e⟩ := im_it_end hc hp
  have e1 := im_it_st m e (1024 - m)
  rw [show m + (1024 - m) = 1024 by omega] at e1
  rcases h with h | h
  · rcases Nat.le_total n m with z | z
    · have e2 := im_it_st n h (m - n)
      rw [show n + (m - n) = m by omega] at e2
      rw [e1, e2]
    · have e2 := im_it_st m e (n - m)
      rw [show m + (n - m) = n by omega] at e2
      rw [e1, e2]
  · have e2 := im_it_st m e (n - m)
    rw [show m + (n - m) = n by omega] at e2
    rw [e1, e2]
end
end
section
/-! the machine: node states, frames, the two stacks -/
def im_bn (k : Int32) : Prop := 2 ≤ k ∧ k ≤ 6
def im_ST (c : Nat) (K A : Nat → Int32) (sX : Nat → Int64) (st sv : Nat → Int32) : Prop :=
  ∀ i, i < c → sX i = im_P (st i) (sv i) ∧ ((st i = 3 ∧ sv i = 0) ∨ im_vl c K (st i, sv i)) ∧ (K i = 0 → st i = 1 ∧ sv i = A i) ∧ (K i = 9 → st i = 2 ∧ sv i = nI i) ∧ (K i = 1 → st i = 3)
def im_RF (c : Nat) (K rf : Nat → Int32) : Prop := ∀ i, i < 32 → rf i = 0 ∨ (rf i = 1 ∧ i < c ∧ im_bn (K i))
def im_FR (K st fN fP fB fK fV stg rf : Nat → Int32) (eo : Nat → Int64) (t n : Nat) : Prop :=
  fN t = nI n ∧ (st n = 3 ∧ K n ≠ 0 ∧ K n ≠ 1 ∧ K n ≠ 9) ∧
  ((fP t = 0 ∧ stg n = 1) ∨ (fP t = 1 ∧ stg n = 2) ∨ (fP t = 2 ∧ stg n = 3 ∧ (im_bn (K n) → eo n = im_P (fK t) (fV t)))) ∧
  (fP t ≠ 0 → im_bn (K n) → fB t = rf n)
def im_lk (g : Nat → Nat) (t : Nat) : Int32 := if t = 0 then -1 else nI (g (t - 1))
def im_ac (act : Nat → Int32) (i : Nat) : Nat := if act i = 0 then 0 else 1
def im_FL (c : Nat) (K st fN fP fB fK fV act stg rf : Nat → Int32) (eo : Nat → Int64) (dem : Nat → Int32) (inn : Int32) (s : Nat) (g : Nat → Nat) : Prop :=
  (∀ t, t < s → g t < c ∧ im_FR K st fN fP fB fK fV stg rf eo t (g t)) ∧
  (∀ t t', t < s → t' < s → g t = g t' → t = t') ∧
  (∀ i, i < 32 → (stg i = 0 ∧ act i = 0) ∨ (act i = 1 ∧ ∃ t, t < s ∧ g t = i)) ∧
  inn = im_lk g s ∧ (∀ t, t < s → dem (g t) = im_lk g t) ∧ (∀ t, t + 1 < s → fP t ≠ 0) ∧
  im_S (im_ac act) 32 = s
def im_wt (a b : Int32) : Nat := if a = 3 then (if b = 0 then 4 else if b = 1 then 3 else if b = 2 then 2 else 1) else 0
def im_w (st stg : Nat → Int32) (i : Nat) : Nat := im_wt (st i) (stg i)
def im_mu (c : Nat) (st stg : Nat → Int32) : Nat := im_S (im_w st stg) c
theorem im_mu_b (c : Nat) (st stg : Nat → Int32) : im_mu c st stg ≤ c * 4 := by
  apply im_S_b
  intro i _
  unfold im_w im_wt
  repeat' split
  all_goals omega
theorem im_mu_lt {c : Nat} {st stg st' stg' : Nat → Int32} (n : Nat) (hn : n < c) (h : ∀ i, i ≠ n → st' i = st i ∧ stg' i = stg i) (hl : im_w st' stg' n < im_w st stg n) : im_mu c st' stg' < im_mu c st stg := by
  apply im_S_lt
  · intro i _
    by_cases e : i = n
    · subst e; exact Nat.le_of_lt hl
    · unfold im_w; rw [(h i e).1, (h i e).2]; exact Nat.le_refl _
  · exact ⟨n, hn, hl⟩
theorem im_mu_pos {c : Nat} {st stg : Nat → Int32} {n : Nat} (hn : n < c) (h : st n = 3) : 0 < im_mu c st stg := by
  have h1 : im_S (fun _ => 0) c < im_mu c st stg := by
    apply im_S_lt
    · intro i _; exact Nat.zero_le _
    · refine ⟨n, hn, ?_⟩
      unfold im_w im_wt
      rw [if_pos h]
      repeat' split
      all_goals omega
  omega
theorem im_S_up {f g : Nat → Nat} {n : Nat} (j : Nat) (hj : j < n) (h : ∀ i, i ≠ j → g i = f i) (h1 : g j = f j + 1) : im_S g n = im_S f n + 1 := by
  induction n with
  | zero => omega
  | succ n ih =>
    show im_S g n + g n = im_S f n + f n + 1
    by_cases e : j = n
    · subst e
      rw [h1, im_S_eq j (fun i hi => h i (by omega))]
      omega
    · rw [ih (by omega), h n (fun z => e z.symm)]
      omega
section
variable {c : Nat} {K st fN fP fB fK fV act stg rf : Nat → Int32} {eo : Nat → Int64} {dem : Nat → Int32} {inn : Int32} {s : Nat} {g : Nat → Nat}
theorem im_FR_stg {t n : Nat} (h : im_FR K st fN fP fB fK fV stg rf eo t n) : stg n ≠ 0 := by
  rcases h.2.2.1 with ⟨_, e⟩ | ⟨_, e⟩ | ⟨_, e, _⟩ <;> rw [e] <;> decide
/-- a node that isn't active leaves room on the stack -/
theorem im_FL_room (h : im_FL c K st fN fP fB fK fV act stg rf eo dem inn s g) {j : Nat} (hj : j < 32) (hs : act j = 0) : s < 32 := by
  have h1 := h.2.2.2.2.2.2
  have h2 : im_S (im_ac act) 32 < im_S (fun _ => 1) 32 := by
    apply im_S_lt
    · intro i _; unfold im_ac; split <;> omega
    · exact ⟨j, hj, by unfold im_ac; rw [if_pos hs]; omega⟩
  have h3 : im_S (fun _ => 1) 32 = 32 := by decide
  omega
theorem im_FL_le (h : im_FL c K st fN fP fB fK fV act stg rf eo dem inn s g) : s ≤ 32 := by
  have h1 := h.2.2.2.2.2.2
  have h2 : im_S (im_ac act) 32 ≤ 32 * 1 := by
    apply im_S_b
    intro i _; unfold im_ac; split <;> omega
  omega
/-- the top frame goes on -/
theorem im_FL_top {t : Nat} (h : im_FL c K st fN fP fB fK fV act stg rf eo dem inn (t + 1) g) {fP' fB' fK' fV' stg' rf' : Nat → Int32} {eo' : Nat → Int64}
    (hx : ∀ i, i ≠ g t → stg' i = stg i ∧ rf' i = rf i ∧ eo' i = eo i) (hy : ∀ i, i ≠ t → fP' i = fP i ∧ fB' i = fB i ∧ fK' i = fK i ∧ fV' i = fV i)
    (hf : im_FR K st fN fP' fB' fK' fV' stg' rf' eo' t (g t)) : im_FL c K st fN fP' fB' fK' fV' act stg' rf' eo' dem inn (t + 1) g := by
  obtain ⟨h1, h2, h3, h4, h5, h6, h7⟩ := h
  refine ⟨?_, h2, ?_, h4, h5, ?_, h7⟩
  · intro t' ht'
    refine ⟨(h1 t' ht').1, ?_⟩
    by_cases e : t' = t
    · subst e; exact hf
    · have hg : g t' ≠ g t := fun z => e (h2 t' t ht' (by omega) z)
      have hF := (h1 t' ht').2
      unfold im_FR at hF ⊢
      rw [(hx _ hg).1, (hx _ hg).2.1, (hx _ hg).2.2, (hy _ e).1, (hy _ e).2.1, (hy _ e).2.2.1, (hy _ e).2.2.2]
      exact hF
  · intro i hi
    rcases h3 i hi with ⟨a, b⟩ | h
    · have : i ≠ g t := fun z => im_FR_stg (h1 t (by omega)).2 (z ▸ a)
      exact Or.inl ⟨by rw [(hx i this).1]; exact a, b⟩
    · exact Or.inr h
  · intro t' ht'
    rw [(hy t' (by omega)).1]
    exact h6 t' ht'
/-- a node is entered -/
theorem im_FL_push (h : im_FL c K st fN fP fB fK fV act stg rf eo dem inn s g) (hc : c ≤ 32) {j : Nat} (hj : j < c) (hs : stg j = 0) (ha : act j = 0) (hp : ∀ t, t < s → fP t ≠ 0) (hst : st j = 3 ∧ K j ≠ 0 ∧ K j ≠ 1 ∧ K j ≠ 9) :
    im_FL c K st (upd fN s (nI j)) (upd fP s 0) (upd fB s 0) (upd fK s 0) (upd fV s 0) (upd act j 1) (upd stg j 1) rf eo (upd dem j inn) (nI j) (s + 1) (fun t => if t = s then j else g t) := by
  obtain ⟨h1, h2, h3, h4, h5, h6, h7⟩ := h
  have hne : ∀ t, t < s → g t ≠ j := fun t ht z => im_FR_stg (h1 t ht).2 (by rw [z]; exact hs)
  refine ⟨?_, ?_, ?_, ?_, ?_, ?_, ?_⟩
  · intro t ht
    by_cases e : t = s
    · subst e
      dsimp only
      rw [if_pos rfl]
      refine ⟨hj, pk_us, hst, Or.inl ⟨pk_us, pk_us⟩, fun z => absurd pk_us z⟩
    · dsimp only
      rw [if_neg e]
      have hF := h1 t (by omega)
      refine ⟨hF.1, ?_⟩
      have hg := hne t (by omega)
      have hF := hF.2
      unfold im_FR at hF ⊢
      rw [pk_un e, pk_un e, pk_un e, pk_un e, pk_un e, pk_un hg]
      exact hF
  · intro t t' ht ht'
    dsimp only
    by_cases e : t = s
    · by_cases e' : t' = s
      · intro _; omega
      · rw [if_pos e, if_neg e']; intro z; exact absurd z.symm (hne t' (by omega))
    · by_cases e' : t' = s
      · rw [if_neg e, if_pos e']; intro z; exact absurd z (hne t (by omega))
      · rw [if_neg e, if_neg e']; exact h2 t t' (by omega) (by omega)
  · intro i hi
    by_cases e : i = j
    · subst e
      exact Or.inr ⟨pk_us, s, by omega, if_pos rfl⟩
    · rw [pk_un e, pk_un e]
      rcases h3 i hi with h | ⟨h, t, ht, e2⟩
      · exact Or.inl h
      · exact Or.inr ⟨h, t, by omega, by dsimp only; rw [if_neg (by omega)]; exact e2⟩
  · unfold im_lk
    rw [if_neg (by omega)]
    dsimp only
    rw [if_pos (by omega)]
  · intro t ht
    by_cases e : t = s
    · subst e
      dsimp only
      rw [if_pos rfl, pk_us, h4]
      unfold im_lk
      by_cases z : t = 0
      · rw [if_pos z, if_pos z]
      · rw [if_neg z, if_neg z]; dsimp only; rw [if_neg (by omega)]
    · dsimp only
      rw [if_neg e, pk_un (hne t (by omega)), h5 t (by omega)]
      unfold im_lk
      by_cases z : t = 0
      · rw [if_pos z, if_pos z]
      · rw [if_neg z, if_neg z]; dsimp only; rw [if_neg (by omega)]
  · intro t ht
    rw [pk_un (by omega)]
    exact hp t (by omega)
  · rw [im_S_up (f := im_ac act) (g := im_ac (upd act j 1)) j (by omega), h7]
    · intro i hi; unfold im_ac; rw [pk_un hi]
    · unfold im_ac; rw [pk_us, ha]; decide
/-- a node is done -/
theorem im_FL_pop {t : Nat} (h : im_FL c K st fN fP fB fK fV act stg rf eo dem inn (t + 1) g) (hc : c ≤ 32) (k : Int32) :
    im_FL c K (upd st (g t) k) fN fP fB fK fV (upd act (g t) 0) (upd stg (g t) 0) rf eo dem (dem (g t)) t g := by
  obtain ⟨h1, h2, h3, h4, h5, h6, h7⟩ := h
  have hne : ∀ t', t' < t → g t' ≠ g t := fun t' ht z => by have := h2 t' t (by omega) (by omega) z; omega
  have hgc := (h1 t (by omega)).1
  have hact : act (g t) = 1 := by
    rcases h3 (g t) (by omega) with ⟨a, _⟩ | ⟨a, _⟩
    · exact absurd a (im_FR_stg (h1 t (by omega)).2)
    · exact a
  refine ⟨?_, fun a b ha hb => h2 a b (by omega) (by omega), ?_, ?_, fun t' ht' => h5 t' (by omega), fun t' ht' => h6 t' (by omega), ?_⟩
  · intro t' ht'
    have hF := h1 t' (by omega)
    refine ⟨hF.1, ?_⟩
    have hF := hF.2
    have hg := hne t' ht'
    unfold im_FR at hF ⊢
    rw [pk_un hg, pk_un hg]
    exact hF
  · intro i hi
    by_cases e : i = g t
    · subst e; exact Or.inl ⟨pk_us, pk_us⟩
    · rw [pk_un e, pk_un e]
      rcases h3 i hi with h | ⟨h, t', ht', e2⟩
      · exact Or.inl h
      · refine Or.inr ⟨h, t', ?_, e2⟩
        have : t' ≠ t := fun z => e (by rw [← e2, z])
        omega
  · exact h5 t (by omega)
  · have h8 := im_S_up (f := im_ac (upd act (g t) 0)) (g := im_ac act) (n := 32) (g t) (by omega) (fun i hi => by unfold im_ac; rw [pk_un hi]) (by unfold im_ac; rw [pk_us, hact]; decide)
    omega
/-- the start: nothing active -/
theorem im_FL_0 (hs : ∀ i, i < 32 → stg i = 0) (ha : ∀ i, i < 32 → act i = 0) (g : Nat → Nat) : im_FL c K st fN fP fB fK fV act stg rf eo dem (-1) 0 g := by
  refine ⟨fun t ht => absurd ht (Nat.not_lt_zero _), fun t _ ht => absurd ht (Nat.not_lt_zero _), fun i hi => Or.inl ⟨hs i hi, ha i hi⟩, (if_pos rfl).symm, fun t ht => absurd ht (Nat.not_lt_zero _), fun t ht => absurd ht (Nat.not_lt_zero _), ?_⟩
  have h : im_S (im_ac act) 32 ≤ 32 * 0 := by
    apply im_S_b
    intro i hi; unfold im_ac; rw [if_pos (ha i hi)]; omega
  omega
end
/-- a state stored at a node whose evaluation is done -/
theorem im_ST_up {c : Nat} {K A : Nat → Int32} {sX : Nat → Int64} {st sv : Nat → Int32} (h : im_ST c K A sX st sv) {n : Nat} {k v : Int32} (hv : im_vl c K (k, v)) (hk : K n ≠ 0 ∧ K n ≠ 1 ∧ K n ≠ 9) : im_ST c K A (vp_updL sX n (im_P k v)) (upd st n k) (upd sv n v) := by
  intro i hi
  by_cases e : i = n
  · subst e
    rw [pk_uLs, pk_us, pk_us]
    exact ⟨rfl, Or.inr hv, fun z => absurd z hk.1, fun z => absurd z hk.2.2, fun z => absurd z hk.2.1⟩
  · rw [pk_uLn e, pk_un e, pk_un e]; exact h i hi
/-! a node's first state; the relation's parts -/
def im_ik (k a : Int32) (i : Nat) : Int32 × Int32 := if k = 0 then (1, a) else if k = 9 then (2, nI i) else (3, 0)
def im_is (K A : Nat → Int32) (i : Nat) : Int64 := im_P (im_ik (K i) (A i) i).1 (im_ik (K i) (A i) i).2
def im_LA (la : Int64) (lo le lv : Int32) : Prop := ∃ k v : Int32, la = im_P k v ∧ lo = k ∧ le = (if k = 3 then v else 0) ∧ lv = (if k = 3 then 0 else v)
def im_DX (c : Nat) (K A B C : Nat → Int32) (dX : Nat → Int64) : Prop := ∀ j, j < c → dX j = im_P (im_it c K A B C 1024 j).1 (im_it c K A B C 1024 j).2
def im_IV (p c : Nat) (la : Int64) (K A B C : Nat → Int32) (sX dX : Nat → Int64) (stg rf st sv : Nat → Int32) (lo le lv : Int32) : Prop :=
  (8 ≤ p ∧ p ≤ 32 ∧ c ≤ p) ∧ im_Pr c K A B C ∧ im_ST c K A sX st sv ∧ im_RF c K rf ∧ (∀ i, i < 32 → stg i = 0) ∧ im_LA la lo le lv ∧ im_DX c K A B C dX
def im_ok (k a b d : Int32) : Prop := (0 ≤ k ∧ k ≤ 11) ∧ (k = 1 → 5 ≤ a ∧ a ≤ 15) ∧ (k ≠ 0 → k ≠ 1 → a ≠ -1) ∧ (k ≠ 0 → k ≠ 1 → k ≠ 10 → k ≠ 11 → b ≠ -1) ∧ (k = 7 → d ≠ -1)
theorem im_Pr_add {c : Nat} {K A B C : Nat → Int32} (h : im_Pr c K A B C) {k a b d : Int32} (hk : im_ok k a b d) : im_Pr (c + 1) (upd K c k) (upd A c a) (upd B c b) (upd C c d) := by
  intro i hi
  by_cases e : i = c
  · subst e; rw [pk_us, pk_us, pk_us, pk_us]; exact hk
  · rw [pk_un e, pk_un e, pk_un e, pk_un e]; exact h i (by omega)
theorem im_vl_add {c : Nat} {K : Nat → Int32} {a : Int32 × Int32} (h : im_vl c K a) (k : Int32) : im_vl (c + 1) (upd K c k) a := by
  rcases h with h | ⟨h, j, hj, e, h9⟩
  · exact Or.inl h
  · exact Or.inr ⟨h, j, by omega, e, by rw [pk_un (by omega)]; exact h9⟩
theorem im_ik_st (k a : Int32) (i : Nat) (c : Nat) (K : Nat → Int32) (hi : i < c) (hK : K i = k) : (((im_ik k a i).1 = 3 ∧ (im_ik k a i).2 = 0) ∨ im_vl c K (im_ik k a i)) ∧ (k = 0 → (im_ik k a i).1 = 1 ∧ (im_ik k a i).2 = a) ∧ (k = 9 → (im_ik k a i).1 = 2 ∧ (im_ik k a i).2 = nI i) ∧ (k = 1 → (im_ik k a i).1 = 3) := by
  unfold im_ik
  by_cases h0 : k = 0
  · rw [if_pos h0]
    exact ⟨Or.inr (Or.inl rfl), fun _ => ⟨rfl, rfl⟩, fun z => absurd (h0.symm.trans z) (by decide), fun z => absurd (h0.symm.trans z) (by decide)⟩
  · rw [if_neg h0]
    by_cases h9 : k = 9
    · rw [if_pos h9]
      exact ⟨Or.inr (Or.inr ⟨rfl, i, hi, rfl, hK.trans h9⟩), fun z => absurd z h0, fun _ => ⟨rfl, rfl⟩, fun z => absurd (h9.symm.trans z) (by decide)⟩
    · rw [if_neg h9]
      exact ⟨Or.inl ⟨rfl, rfl⟩, fun z => absurd z h0, fun z => absurd z h9, fun _ => rfl⟩
theorem im_ST_add {c : Nat} {K A : Nat → Int32} {sX : Nat → Int64} {st sv : Nat → Int32} (h : im_ST c K A sX st sv) (k a : Int32) : im_ST (c + 1) (upd K c k) (upd A c a) (vp_updL sX c (im_P (im_ik k a c).1 (im_ik k a c).2)) (upd st c (im_ik k a c).1) (upd sv c (im_ik k a c).2) := by
  intro i hi
  by_cases e : i = c
  · subst e
    rw [pk_us, pk_us, pk_us, pk_us, pk_uLs]
    exact ⟨rfl, im_ik_st k a i (i + 1) (upd K i k) (by omega) pk_us⟩
  · rw [pk_un e, pk_un e, pk_un e, pk_un e, pk_uLn e]
    obtain ⟨h1, h2, h3⟩ := h i (by omega)
    exact ⟨h1, h2.imp id (fun z => im_vl_add z k), h3⟩
theorem im_RF_add {c : Nat} {K rf : Nat → Int32} (h : im_RF c K rf) (k : Int32) : im_RF (c + 1) (upd K c k) rf := by
  intro i hi
  rcases h i hi with z | ⟨z, hc, hb⟩
  · exact Or.inl z
  · exact Or.inr ⟨z, by omega, by rw [pk_un (by omega)]; exact hb⟩
/-- all thunks reset -/
theorem im_ST_reset {c : Nat} {K A : Nat → Int32} {sX : Nat → Int64} {st sv : Nat → Int32} (h : im_ST c K A sX st sv) {sX' : Nat → Int64} {st' sv' : Nat → Int32} (h1 : ∀ i, i < c → sX' i = im_is K A i)
    (h2 : ∀ i, i < c → (K i = 0 ∨ K i = 1 ∨ K i = 9) → st' i = st i ∧ sv' i = sv i) (h3 : ∀ i, i < c → ¬ (K i = 0 ∨ K i = 1 ∨ K i = 9) → st' i = 3 ∧ sv' i = 0) : im_ST c K A sX' st' sv' := by
  intro i hi
  have e : (st' i, sv' i) = im_ik (K i) (A i) i := by
    obtain ⟨_, q2, q3, q4, q5⟩ := h i hi
    unfold im_ik
    by_cases k0 : K i = 0
    · rw [if_pos k0, (h2 i hi (Or.inl k0)).1, (h2 i hi (Or.inl k0)).2, (q3 k0).1, (q3 k0).2]
    · rw [if_neg k0]
      by_cases k9 : K i = 9
      · rw [if_pos k9, (h2 i hi (Or.inr (Or.inr k9))).1, (h2 i hi (Or.inr (Or.inr k9))).2, (q4 k9).1, (q4 k9).2]
      · rw [if_neg k9]
        by_cases k1 : K i = 1
        · rw [(h2 i hi (Or.inr (Or.inl k1))).1, (h2 i hi (Or.inr (Or.inl k1))).2, q5 k1]
          rcases q2 with q2 | q2
          · rw [q2.2]
          · exact absurd (q5 k1) (im_wf_ne q2)
        · have hn : ¬ (K i = 0 ∨ K i = 1 ∨ K i = 9) := fun z => z.elim k0 (fun z => z.elim k1 k9)
          rw [(h3 i hi hn).1, (h3 i hi hn).2]
  have e1 : st' i = (im_ik (K i) (A i) i).1 := by rw [← e]
  have e2 : sv' i = (im_ik (K i) (A i) i).2 := by rw [← e]
  rw [e1, e2, h1 i hi]
  exact ⟨rfl, im_ik_st (K i) (A i) i c K hi rfl⟩
theorem im_ct_ne {c : Nat} {K A B C : Nat → Int32} (hp : im_Pr c K A B C) {n : Nat} (hn : n < c) (k0 : K n ≠ 0) (k1 : K n ≠ 1) (hb : ¬ im_bn (K n)) {a : Int32 × Int32} (ha : im_vl c K a) (hc : c ≤ 32) {r : Int32} (h : im_ct c K A B C n a = some r) : r ≠ -1 := by
  obtain ⟨p1, p2, p3, p4, p5⟩ := hp n hn
  unfold im_ct at h
  by_cases h7 : K n = 7
  · rw [if_pos h7] at h
    by_cases z : a.1 = 2
    · rw [if_pos z] at h; exact absurd h (by simp)
    · rw [if_neg z] at h
      by_cases z2 : a.2 = 0
      · rw [if_pos z2] at h; cases h; exact p5 h7
      · rw [if_neg z2] at h; cases h; exact p4 k0 k1 (by rw [h7]; decide) (by rw [h7]; decide)
  · rw [if_neg h7] at h
    by_cases h8 : K n = 8
    · rw [if_pos h8] at h; cases h; exact p4 k0 k1 (by rw [h8]; decide) (by rw [h8]; decide)
    · rw [if_neg h8] at h
      by_cases z : a.1 = 2
      · rw [if_pos z] at h
        rcases ha with ha | ⟨_, j, hj, e, k9⟩
        · exact absurd (ha.symm.trans z) (by decide)
        · rw [e, nI_clamp (by omega)] at h
          obtain ⟨_, _, q3, q4, _⟩ := hp j hj
          by_cases h10 : K n = 10
          · rw [if_pos h10] at h; cases h; exact q3 (by rw [k9]; decide) (by rw [k9]; decide)
          · rw [if_neg h10] at h; cases h; exact q4 (by rw [k9]; decide) (by rw [k9]; decide) (by rw [k9]; decide) (by rw [k9]; decide)
      · rw [if_neg z] at h; exact absurd h (by simp)
end
section
/-! the component's methods, each over a general post -/
def im_bt (scr : Int64) (p : Int32) : Int32 := ((scr.toUInt64 >>> (p.toInt64.toUInt64 &&& Int64.toUInt64 63)).toInt64 &&& 1).toInt32
theorem im_b1 (w : Int64) : (w &&& 1).toInt32 = w.toInt32 &&& 1 := by
  apply b_ext
  intro i hi
  have h : ∀ i, i < 32 → (1 : Int64).toBitVec.getLsbD i = bt 1 i := by decide +kernel
  rw [b_and, im_t32 _ hi, im_t32 _ hi, Int64.toBitVec_and, BitVec.getLsbD_and, h i hi]
theorem im_a1 (x : Int32) : x &&& 1 = 0 ∨ x &&& 1 = 1 := by
  have h1 : ∀ i, i < 32 → bt 1 i = decide (i = 0) := by decide +kernel
  cases hb : bt x 0
  · left
    apply b_ext
    intro i hi
    rw [b_and, b_0, h1 i hi]
    by_cases e : i = 0
    · subst e; rw [hb]; rfl
    · simp [e]
  · right
    apply b_ext
    intro i hi
    rw [b_and, h1 i hi]
    by_cases e : i = 0
    · subst e; rw [hb]; rfl
    · simp [e]
theorem im_bt01 (scr : Int64) (p : Int32) : im_bt scr p = 0 ∨ im_bt scr p = 1 := by
  unfold im_bt
  rw [im_b1]
  exact im_a1 _
def im_cb (k : Int32) (a b : Int32 × Int32) : Int32 × Int32 := if a.1 = 2 ∨ b.1 = 2 then (3, 2) else if k = 5 ∧ b.2 = 0 then (3, 1) else (1, im_ar k a.2 b.2)
theorem im_cb_1 {k : Int32} {a b : Int32 × Int32} (h : (im_cb k a b).1 ≠ 3) : (im_cb k a b).1 = 1 := by
  unfold im_cb at h ⊢
  split at h
  · exact absurd rfl h
  · split at h
    · exact absurd rfl h
    · rename_i h1 h2
      rw [if_neg h1, if_neg h2]
def im_cr : Option Int32 → Int32
  | none => -1
  | some r => r
theorem im_p {α : Sort _} {P : α → Prop} {a b : α} (e : a = b) (h : P b) : P a := e ▸ h
theorem im_234 (x : Int32) (h2 : 2 ≤ x) (h5 : x < 5) : x = 2 ∨ x = 3 ∨ x = 4 := by
  have h0 : ¬ x < 0 := fun z => Int32.lt_irrefl (Int32.lt_of_lt_of_le z (Int32.le_trans (show (0 : Int32) ≤ 2 by decide) h2))
  obtain ⟨j, hj, rfl⟩ := nI_of h0
  have a : 2 ≤ j := (nI_leI (a := 2) (by decide) hj).mp h2
  have b : j < 5 := (nI_ltI (b := 5) hj (by decide)).mp h5
  have e : j = 2 ∨ j = 3 ∨ j = 4 := by omega
  rcases e with rfl | rfl | rfl
  · exact Or.inl rfl
  · exact Or.inr (Or.inl rfl)
  · exact Or.inr (Or.inr rfl)
theorem im_vb0 : vp_nar .boolean 0 = 0 := by decide
theorem im_vb1 : vp_nar .boolean 1 = 1 := by decide
theorem im_nb {k : Int32} {P Q : Prop} (hb : ¬ im_bn k) (h : P) : (k < 2 → P) ∧ (¬ k < 2 → ((6 < k → P) ∧ (¬ 6 < k → Q))) := by
  by_cases h2 : k < 2
  · exact br_t h2 h
  · by_cases h6 : 6 < k
    · exact br_f h2 (br_t h6 h)
    · exact absurd ⟨Int32.not_lt.mp h2, Int32.not_lt.mp h6⟩ hb
theorem im_yb {k : Int32} {P Q : Prop} (hb : im_bn k) (h : Q) : (k < 2 → P) ∧ (¬ k < 2 → ((6 < k → P) ∧ (¬ 6 < k → Q))) := br_f (Int32.not_lt.mpr hb.1) (br_f (Int32.not_lt.mpr hb.2) h)
section
variable {post : Int64 → Prop} {posti : Int32 → Prop}
theorem xo_outcome {k v : Int32} (h : post (im_P k v)) : wpX_outcome post () k v := h
theorem xo_kindOf {k v : Int32} (h : posti k) : wpX_kindOf posti () (im_P k v) := im_p (P := posti) (im_kind k v) h
theorem xo_payloadOf {k v : Int32} (h : posti v) : wpX_payloadOf posti () (im_P k v) := im_p (P := posti) (im_pay k v) h
theorem xo_exceptionOf {k v : Int32} (h : posti (if k = 3 then v else 0)) : wpX_exceptionOf posti () (im_P k v) := by
  by_cases e : k = 3
  · rw [if_pos e] at h
    exact br_t ((im_is3 k v).mpr e) (im_p (P := posti) (im_pay k v) h)
  · rw [if_neg e] at h
    exact br_f (fun z => e ((im_is3 k v).mp z)) h
theorem xo_valueOf {k v : Int32} (h : posti (if k = 3 then 0 else v)) : wpX_valueOf posti () (im_P k v) := by
  by_cases e : k = 3
  · rw [if_pos e] at h
    exact br_t ((im_is3 k v).mpr e) h
  · rw [if_neg e] at h
    exact br_f (fun z => e ((im_is3 k v).mp z)) (im_p (P := posti) (im_pay k v) h)
theorem xo_singleton {x : Int32} (h : post (im_P 3 (im_s1 x))) : wpX_singleton post () x := h
theorem xo_isBinary_t {k : Int32} (hk : im_bn k) (h : posti 1) : wpX_isBinary posti () k := by
  exact im_yb hk h
theorem xo_isBinary_f {k : Int32} (hk : ¬ im_bn k) (h : posti 0) : wpX_isBinary posti () k := by
  exact im_nb hk h
theorem xo_combine {k : Int32} {a b : Int32 × Int32} (hk : im_bn k) (h : post (im_P (im_cb k a b).1 (im_cb k a b).2)) : wpX_combine post () k (im_P a.1 a.2) (im_P b.1 b.2) := by
  unfold wpX_combine
  refine xo_kindOf ?_
  unfold im_cb at h
  by_cases a2 : a.1 = 2
  · rw [if_pos (Or.inl a2)] at h
    exact br_t a2 h
  · refine br_f a2 (xo_kindOf ?_)
    by_cases b2 : b.1 = 2
    · rw [if_pos (Or.inr b2)] at h
      exact br_t b2 h
    · rw [if_neg (fun z => z.elim a2 b2)] at h
      refine br_f b2 (xo_payloadOf (xo_payloadOf (br_f (Int32.not_lt.mpr hk.1) ?_)))
      by_cases k2 : k = 2
      · subst k2
        rw [if_neg (fun z => absurd z.1 (by decide))] at h
        exact br_f (by decide) (br_t rfl h)
      by_cases k3 : k = 3
      · subst k3
        rw [if_neg (fun z => absurd z.1 (by decide))] at h
        exact br_f (by decide) (br_f (by decide) (br_t rfl h))
      by_cases k4 : k = 4
      · subst k4
        rw [if_neg (fun z => absurd z.1 (by decide))] at h
        exact br_f (by decide) (br_f (by decide) (br_f (by decide) (br_t rfl h)))
      by_cases k5 : k = 5
      · subst k5
        refine br_f (by decide) (br_f (by decide) (br_f (by decide) (br_f (by decide) (br_t rfl ?_))))
        by_cases y0 : b.2 = 0
        · rw [if_pos ⟨rfl, y0⟩] at h
          exact br_t y0 h
        · rw [if_neg (fun z => y0 z.2)] at h
          have e : im_ar 5 a.2 b.2 = a.2 / b.2 := by
            unfold im_ar
            rw [if_neg (by decide), if_neg (by decide), if_neg (by decide), if_pos rfl, if_neg y0]
          rw [e] at h
          exact br_f y0 ⟨y0, h⟩
      · rw [if_neg (fun z => k5 z.1)] at h
        have e : im_ar k a.2 b.2 = if a.2 < b.2 then 1 else 0 := by
          unfold im_ar
          rw [if_neg k2, if_neg k3, if_neg k4, if_neg k5]
        rw [e] at h
        have h5 : 5 < k := by
          rcases Int32.lt_or_eq_of_le (Int32.not_lt.mp (fun z : k < 5 => by
            have h6 : ∀ x : Int32, 2 ≤ x → x < 5 → x = 2 ∨ x = 3 ∨ x = 4 := im_234
            rcases h6 k hk.1 z with q | q | q
            · exact k2 q
            · exact k3 q
            · exact k4 q)) with z | z
          · exact z
          · exact absurd z.symm k5
        refine br_t h5 ?_
        by_cases z : b.2 ≤ a.2
        · rw [if_neg (Int32.not_lt.mpr z)] at h
          exact br_t z h
        · rw [if_pos (Int32.not_le.mp z)] at h
          exact br_f z h
end
section
variable {cap : Int32} {c : Nat} {scr la : Int64} {K A B C : Nat → Int32} {dX nX : Nat → Int64} {sX : Nat → Int64} {inn : Int32} {dem stg rf : Nat → Int32} {eo : Nat → Int64} {xp : Int32} {ans : Int64}
theorem xo_isNode_t {post : Int32 → Prop} (hc : c ≤ 32) {j : Nat} (hj : j < c) (h : post 1) : wpX_isNode post (cap, nI c, scr, la, inn, xp, ans, K, A, B, C, sX, dX, nX, dem, stg, rf, eo) (nI j) := by
  unfold wpX_isNode
  exact br_f (nI_pos (by omega)) (br_f (nI_ge hj (by omega)) h)
theorem xo_isNode_f {post : Int32 → Prop} (hc : c ≤ 32) {r : Int32} (hr : r < 0 ∨ nI c ≤ r) (h : post 0) : wpX_isNode post (cap, nI c, scr, la, inn, xp, ans, K, A, B, C, sX, dX, nX, dem, stg, rf, eo) r := by
  unfold wpX_isNode
  by_cases z : r < 0
  · exact br_t z h
  · exact br_f z (br_t (hr.resolve_left z) h)
theorem xo_init {post : Int64 → Prop} {i : Nat} (hi : i < 32) (h : post (im_is K A i)) : wpX_initialState post (cap, nI c, scr, la, inn, xp, ans, K, A, B, C, sX, dX, nX, dem, stg, rf, eo) (nI i) := by
  have cl : (nI i).toNatClampNeg = i := nI_clamp (by omega)
  have vi : vp_in (nI i) 32 := vp_in_nI hi (by decide)
  unfold wpX_initialState
  dsimp only
  rw [cl]
  unfold im_is im_ik at h
  by_cases h0 : K i = 0
  · rw [if_pos h0] at h
    exact ⟨vi, br_t h0 ⟨vi, h⟩⟩
  · rw [if_neg h0] at h
    by_cases h9 : K i = 9
    · rw [if_pos h9] at h
      exact ⟨vi, br_f h0 ⟨vi, br_t h9 h⟩⟩
    · rw [if_neg h9] at h
      have h : post (im_P 3 0) := h
      rw [im_P30] at h
      exact ⟨vi, br_f h0 ⟨vi, br_f h9 h⟩⟩
theorem xo_cont {post : Int32 → Prop} (hc : c ≤ 32) {n : Nat} (hn : n < c) {a : Int32 × Int32} (ha : im_vl c K a) (h : post (im_cr (im_ct c K A B C n a))) : wpX_continuation post (cap, nI c, scr, la, inn, xp, ans, K, A, B, C, sX, dX, nX, dem, stg, rf, eo) (nI n) (im_P a.1 a.2) := by
  have cl : (nI n).toNatClampNeg = n := nI_clamp (by omega)
  have vi : vp_in (nI n) 32 := vp_in_nI (by omega) (by decide)
  unfold wpX_continuation
  dsimp only
  refine xo_payloadOf (xo_kindOf ?_)
  by_cases a2 : a.1 = 2
  · rcases ha with ha | ⟨_, j, hj, ej, _⟩
    · exact absurd (ha.symm.trans a2) (by decide)
    · refine br_t a2 ?_
      have clj : (nI j).toNatClampNeg = j := nI_clamp (by omega)
      have vj : vp_in (nI j) 32 := vp_in_nI (by omega) (by decide)
      rw [ej]
      refine xo_isNode_t hc hj (br_f (by decide) ?_)
      unfold wX_continuation_28 wX_continuation_122
      rw [cl, clj]
      refine ⟨vi, nm_e ?_⟩
      unfold im_ct at h
      rw [ej, clj] at h
      by_cases h7 : K n = 7
      · rw [if_pos h7, if_pos a2] at h
        exact br_f (by rw [h7]; decide) (br_f (by rw [h7]; decide) (br_t h7 (br_f (by decide) h)))
      · rw [if_neg h7] at h
        by_cases h8 : K n = 8
        · rw [if_pos h8] at h
          exact br_f (by rw [h8]; decide) (br_f (by rw [h8]; decide) (br_f h7 (br_t h8 ⟨vi, h⟩)))
        · rw [if_neg h8, if_pos a2] at h
          by_cases h10 : K n = 10
          · rw [if_pos h10] at h
            exact br_f (by rw [h10]; decide) (br_f (by rw [h10]; decide) (br_f h7 (br_f h8 (br_f (by rw [h10]; decide) (br_t h10 (br_f (by decide) ⟨vj, h⟩))))))
          · rw [if_neg h10] at h
            have hh : ((1 : Int32) = 0 → post (-1)) ∧ (¬ (1 : Int32) = 0 → vp_in (nI j) 32 ∧ post (B j)) := br_f (by decide) ⟨vj, h⟩
            refine br_c (fun _ => hh) (fun _ => br_c (fun _ => hh) (fun _ => br_f h7 (br_f h8 (br_c (fun _ => hh) (fun _ => br_f h10 trivial)))))
  · refine br_f a2 ?_
    unfold wX_continuation_27 wX_continuation_28 wX_continuation_122
    rw [cl]
    refine ⟨vi, nm_e ?_⟩
    unfold im_ct at h
    by_cases h7 : K n = 7
    · rw [if_pos h7, if_neg a2] at h
      refine br_f (by rw [h7]; decide) (br_f (by rw [h7]; decide) (br_t h7 (br_t rfl ?_)))
      by_cases z : a.2 = 0
      · rw [if_pos z] at h
        exact br_t z ⟨vi, h⟩
      · rw [if_neg z] at h
        exact br_f z ⟨vi, h⟩
    · rw [if_neg h7] at h
      by_cases h8 : K n = 8
      · rw [if_pos h8] at h
        exact br_f (by rw [h8]; decide) (br_f (by rw [h8]; decide) (br_f h7 (br_t h8 ⟨vi, h⟩)))
      · rw [if_neg h8, if_neg a2] at h
        refine br_c (fun _ => br_t rfl h) (fun _ => br_c (fun _ => br_t rfl h) (fun _ => br_f h7 (br_f h8 (br_c (fun _ => br_t rfl h) (fun _ => br_c (fun _ => br_t rfl h) (fun _ => trivial))))))
theorem xd_miss {post : St2 → Prop} (hc : c ≤ 32) {r : Int32} (hr : r < 0 ∨ nI c ≤ r) (h : post (cap, nI c, scr, la, inn, xp, im_P 3 4, K, A, B, C, sX, dX, nX, dem, stg, rf, eo)) : wpX_demand post (cap, nI c, scr, la, inn, xp, ans, K, A, B, C, sX, dX, nX, dem, stg, rf, eo) r := by
  unfold wpX_demand
  exact xo_isNode_f hc hr (br_t rfl h)
theorem xd_val {post : St2 → Prop} (hc : c ≤ 32) {j : Nat} (hj : j < c) {k v : Int32} (hs : sX j = im_P k v) (hk : k ≠ 3) (h : post (cap, nI c, scr, la, inn, xp, im_P k v, K, A, B, C, sX, dX, nX, dem, stg, rf, eo)) : wpX_demand post (cap, nI c, scr, la, inn, xp, ans, K, A, B, C, sX, dX, nX, dem, stg, rf, eo) (nI j) := by
  have cl : (nI j).toNatClampNeg = j := nI_clamp (by omega)
  have vj : vp_in (nI j) 32 := vp_in_nI (by omega) (by decide)
  unfold wpX_demand
  dsimp only
  rw [cl]
  refine xo_isNode_t hc hj (br_f (by decide) ⟨vj, ?_⟩)
  rw [hs]
  exact xo_kindOf (br_f hk ⟨vj, nm_e h⟩)
theorem xd_raise {post : St2 → Prop} (hc : c ≤ 32) {j : Nat} (hj : j < c) {v : Int32} (hs : sX j = im_P 3 v) (hk : K j = 1) (h : post (cap, nI c, scr, la, inn, xp, im_P 3 (A j), K, A, B, C, sX, dX, nX, dem, stg, rf, eo)) : wpX_demand post (cap, nI c, scr, la, inn, xp, ans, K, A, B, C, sX, dX, nX, dem, stg, rf, eo) (nI j) := by
  have cl : (nI j).toNatClampNeg = j := nI_clamp (by omega)
  have vj : vp_in (nI j) 32 := vp_in_nI (by omega) (by decide)
  unfold wpX_demand
  dsimp only
  rw [cl]
  refine xo_isNode_t hc hj (br_f (by decide) ⟨vj, ?_⟩)
  rw [hs]
  exact xo_kindOf (br_t rfl ⟨vj, br_t hk ⟨vj, h⟩⟩)
theorem xd_loop {post : St2 → Prop} (hc : c ≤ 32) {j : Nat} (hj : j < c) {v : Int32} (hs : sX j = im_P 3 v) (hk : K j ≠ 1) (hg : stg j ≠ 0) (h : post (cap, nI c, scr, la, inn, xp, im_P 3 3, K, A, B, C, sX, dX, nX, dem, stg, rf, eo)) : wpX_demand post (cap, nI c, scr, la, inn, xp, ans, K, A, B, C, sX, dX, nX, dem, stg, rf, eo) (nI j) := by
  have cl : (nI j).toNatClampNeg = j := nI_clamp (by omega)
  have vj : vp_in (nI j) 32 := vp_in_nI (by omega) (by decide)
  unfold wpX_demand
  dsimp only
  rw [cl]
  refine xo_isNode_t hc hj (br_f (by decide) ⟨vj, ?_⟩)
  rw [hs]
  exact xo_kindOf (br_t rfl ⟨vj, br_f hk ⟨vj, br_f hg h⟩⟩)
theorem xd_enter {post : St2 → Prop} (hc : c ≤ 32) {j : Nat} (hj : j < c) {v : Int32} (hs : sX j = im_P 3 v) (hk : K j ≠ 1) (hg : stg j = 0) (h : post (cap, nI c, scr, la, nI j, xp, 0, K, A, B, C, sX, dX, nX, upd dem j inn, upd stg j 1, rf, eo)) : wpX_demand post (cap, nI c, scr, la, inn, xp, ans, K, A, B, C, sX, dX, nX, dem, stg, rf, eo) (nI j) := by
  have cl : (nI j).toNatClampNeg = j := nI_clamp (by omega)
  have vj : vp_in (nI j) 32 := vp_in_nI (by omega) (by decide)
  unfold wpX_demand
  dsimp only
  rw [cl]
  refine xo_isNode_t hc hj (br_f (by decide) ⟨vj, ?_⟩)
  rw [hs]
  refine xo_kindOf (br_t rfl ⟨vj, br_f hk ⟨vj, br_t hg ?_⟩⟩)
  unfold wpX_enter
  dsimp only
  rw [cl]
  exact ⟨vj, nm_e ⟨vj, nm_e h⟩⟩
theorem xs_first_b {post : St2 → Prop} (hc : c ≤ 32) {n : Nat} (hn : n < c) (hb : im_bn (K n)) {b : Int32} (hbe : im_bt scr xp = b) (hb01 : b = 0 ∨ b = 1) (h : wpX_demand post (cap, nI c, scr, la, inn, (xp + 1) &&& 63, ans, K, A, B, C, sX, dX, nX, dem, upd stg n 2, upd rf n b, eo) (if b = 0 then A n else B n)) : wpX_demandFirst post (cap, nI c, scr, la, inn, xp, ans, K, A, B, C, sX, dX, nX, dem, stg, rf, eo) (nI n) := by
  have cl : (nI n).toNatClampNeg = n := nI_clamp (by omega)
  have vn : vp_in (nI n) 32 := vp_in_nI (by omega) (by decide)
  unfold wpX_demandFirst
  dsimp only
  rw [cl]
  refine ⟨vn, nm_e ⟨vn, xo_isBinary_t hb (br_f (by decide) ?_)⟩⟩
  unfold wpX_takeScriptBit
  dsimp only
  refine nm_r ((im_b1 _).symm.trans hbe) (nm_e ?_)
  rcases hb01 with rfl | rfl
  · rw [if_pos rfl] at h
    refine br_f (by decide) ?_
    unfold wX_demandFirst_37
    rw [cl]
    refine ⟨vn, nm_r (by rw [im_vb0]) ?_⟩
    unfold wX_demandFirst_38 wX_demandFirst_63
    rw [cl]
    exact ⟨vn, br_t pk_us ⟨vn, h⟩⟩
  · rw [if_neg (by decide)] at h
    refine br_t rfl ?_
    unfold wX_demandFirst_37
    rw [cl]
    refine ⟨vn, nm_r (by rw [im_vb1]) ?_⟩
    unfold wX_demandFirst_38 wX_demandFirst_63
    rw [cl]
    exact ⟨vn, br_f (by rw [pk_us]; decide) ⟨vn, h⟩⟩
theorem xs_first_n {post : St2 → Prop} (hc : c ≤ 32) {n : Nat} (hn : n < c) (hb : ¬ im_bn (K n)) (hr : rf n = 0) (h : wpX_demand post (cap, nI c, scr, la, inn, xp, ans, K, A, B, C, sX, dX, nX, dem, upd stg n 2, rf, eo) (A n)) : wpX_demandFirst post (cap, nI c, scr, la, inn, xp, ans, K, A, B, C, sX, dX, nX, dem, stg, rf, eo) (nI n) := by
  have cl : (nI n).toNatClampNeg = n := nI_clamp (by omega)
  have vn : vp_in (nI n) 32 := vp_in_nI (by omega) (by decide)
  unfold wpX_demandFirst
  dsimp only
  rw [cl]
  refine ⟨vn, nm_e ⟨vn, xo_isBinary_f hb (br_t rfl ?_)⟩⟩
  unfold wX_demandFirst_38 wX_demandFirst_63
  rw [cl]
  exact ⟨vn, br_t hr ⟨vn, h⟩⟩
theorem xo_lastRef_b {post : Int32 → Prop} (hc : c ≤ 32) {n : Nat} (hn : n < c) (hb : im_bn (K n)) (h : post (if rf n = 0 then B n else A n)) : wpX_lastReference post (cap, nI c, scr, la, inn, xp, ans, K, A, B, C, sX, dX, nX, dem, stg, rf, eo) (nI n) := by
  have cl : (nI n).toNatClampNeg = n := nI_clamp (by omega)
  have vn : vp_in (nI n) 32 := vp_in_nI (by omega) (by decide)
  unfold wpX_lastReference
  dsimp only
  rw [cl]
  refine ⟨vn, xo_isBinary_t hb (br_f (by decide) ⟨vn, ?_⟩)⟩
  by_cases z : rf n = 0
  · rw [if_pos z] at h
    exact br_t z ⟨vn, h⟩
  · rw [if_neg z] at h
    exact br_f z ⟨vn, h⟩
theorem xo_lastRef_n {post : Int32 → Prop} (hc : c ≤ 32) {n : Nat} (hn : n < c) (hb : ¬ im_bn (K n)) {rk rv : Int32} (hv : im_vl c K (rk, rv)) (h : post (im_cr (im_ct c K A B C n (rk, rv)))) : wpX_lastReference post (cap, nI c, scr, la, inn, xp, im_P rk rv, K, A, B, C, sX, dX, nX, dem, stg, rf, eo) (nI n) := by
  have cl : (nI n).toNatClampNeg = n := nI_clamp (by omega)
  have vn : vp_in (nI n) 32 := vp_in_nI (by omega) (by decide)
  unfold wpX_lastReference
  dsimp only
  rw [cl]
  exact ⟨vn, xo_isBinary_f hb (br_t rfl (xo_cont (a := (rk, rv)) hc hn hv h))⟩
theorem xs_last_b {post : St2 → Prop} (hc : c ≤ 32) {n : Nat} (hn : n < c) (hb : im_bn (K n)) (hr : rf n = 0 ∨ rf n = 1) (hne : (if rf n = 0 then B n else A n) ≠ -1) (h : wpX_demand post (cap, nI c, scr, la, inn, xp, ans, K, A, B, C, sX, dX, nX, dem, upd stg n 3, rf, vp_updL eo n ans) (if rf n = 0 then B n else A n)) : wpX_demandLast post (cap, nI c, scr, la, inn, xp, ans, K, A, B, C, sX, dX, nX, dem, stg, rf, eo) (nI n) := by
  have cl : (nI n).toNatClampNeg = n := nI_clamp (by omega)
  have vn : vp_in (nI n) 32 := vp_in_nI (by omega) (by decide)
  unfold wpX_demandLast
  dsimp only
  rw [cl]
  refine ⟨vn, nm_e ⟨vn, nm_e ?_⟩⟩
  exact xo_lastRef_b hc hn hb (br_f hne h)
theorem xs_last_none {post : St2 → Prop} (hc : c ≤ 32) {n : Nat} (hn : n < c) (hk : K n ≠ 0 ∧ K n ≠ 1 ∧ K n ≠ 9) (hb : ¬ im_bn (K n)) {rk rv : Int32} (hans : ans = im_P rk rv) (hv : im_vl c K (rk, rv)) (hct : im_ct c K A B C n (rk, rv) = none) (h : post (cap, nI c, scr, la, inn, xp, im_P 3 2, K, A, B, C, sX, dX, nX, dem, upd stg n 3, rf, vp_updL eo n ans)) : wpX_demandLast post (cap, nI c, scr, la, inn, xp, ans, K, A, B, C, sX, dX, nX, dem, stg, rf, eo) (nI n) := by
  have cl : (nI n).toNatClampNeg = n := nI_clamp (by omega)
  have vn : vp_in (nI n) 32 := vp_in_nI (by omega) (by decide)
  subst hans
  unfold wpX_demandLast
  dsimp only
  rw [cl]
  refine ⟨vn, nm_e ⟨vn, nm_e ?_⟩⟩
  exact xo_lastRef_n hc hn hb hv (by rw [hct]; exact br_t rfl h)
theorem xs_last_some {post : St2 → Prop} (hc : c ≤ 32) {n : Nat} (hn : n < c) (hk : K n ≠ 0 ∧ K n ≠ 1 ∧ K n ≠ 9) (hb : ¬ im_bn (K n)) {rk rv : Int32} (hans : ans = im_P rk rv) (hv : im_vl c K (rk, rv)) {r : Int32} (hct : im_ct c K A B C n (rk, rv) = some r) (hne : r ≠ -1) (h : wpX_demand post (cap, nI c, scr, la, inn, xp, ans, K, A, B, C, sX, dX, nX, dem, upd stg n 3, rf, vp_updL eo n ans) r) : wpX_demandLast post (cap, nI c, scr, la, inn, xp, ans, K, A, B, C, sX, dX, nX, dem, stg, rf, eo) (nI n) := by
  have cl : (nI n).toNatClampNeg = n := nI_clamp (by omega)
  have vn : vp_in (nI n) 32 := vp_in_nI (by omega) (by decide)
  subst hans
  unfold wpX_demandLast
  dsimp only
  rw [cl]
  refine ⟨vn, nm_e ⟨vn, nm_e ?_⟩⟩
  exact xo_lastRef_n hc hn hb hv (by rw [hct]; exact br_f hne h)
theorem x75_v {post : St2 → Prop} {n : Nat} (hn : n < 32) {k v : Int32} (h3 : k ≠ 3) (h : post (cap, nI c, scr, la, dem n, xp, im_P k v, K, A, B, C, vp_updL sX n (im_P k v), dX, nX, dem, upd stg n 0, rf, eo)) : wX_finish_75 post (nI n) cap (nI c) scr la inn xp (im_P k v) K A B C sX dX nX dem stg rf eo := by
  have cl : (nI n).toNatClampNeg = n := nI_clamp (by omega)
  have vn : vp_in (nI n) 32 := vp_in_nI (by omega) (by decide)
  unfold wX_finish_75
  rw [cl]
  exact xo_kindOf (br_f h3 ⟨vn, nm_e ⟨vn, nm_e ⟨vn, nm_e h⟩⟩⟩)
theorem x75_x {post : St2 → Prop} {n : Nat} {v : Int32} (h : post (cap, nI c, scr, la, inn, xp, im_P 3 v, K, A, B, C, sX, dX, nX, dem, stg, rf, eo)) : wX_finish_75 post (nI n) cap (nI c) scr la inn xp (im_P 3 v) K A B C sX dX nX dem stg rf eo := by
  unfold wX_finish_75
  exact xo_kindOf (br_t rfl h)
theorem x57 {post : St2 → Prop} {n : Nat} (hn : n < 32) (hb : im_bn (K n)) (hr : rf n = 0 ∨ rf n = 1) {rk rv ek ev : Int32} (heo : eo n = im_P ek ev) {q : Int32 × Int32} (hq : im_cb (K n) (if rf n = 0 then (ek, ev) else (rk, rv)) (if rf n = 0 then (rk, rv) else (ek, ev)) = q) (h : wX_finish_75 post (nI n) cap (nI c) scr la inn xp (im_P q.1 q.2) K A B C sX dX nX dem stg rf eo) : wpX_finish post (cap, nI c, scr, la, inn, xp, im_P rk rv, K, A, B, C, sX, dX, nX, dem, stg, rf, eo) (nI n) := by
  have cl : (nI n).toNatClampNeg = n := nI_clamp (by omega)
  have vn : vp_in (nI n) 32 := vp_in_nI (by omega) (by decide)
  unfold wpX_finish
  dsimp only
  rw [cl]
  refine ⟨vn, xo_isBinary_t hb (br_f (by decide) ⟨vn, ?_⟩)⟩
  unfold wX_finish_34 wX_finish_57
  rw [cl, heo]
  subst hq
  rcases hr with z | z
  · rw [if_pos z, if_pos z] at h
    exact br_t z ⟨vn, vn, br_t z ⟨vn, xo_combine (a := (ek, ev)) (b := (rk, rv)) hb h⟩⟩
  · have z0 : ¬ rf n = 0 := by rw [z]; decide
    rw [if_neg z0, if_neg z0] at h
    exact br_f z0 ⟨vn, br_f z0 ⟨vn, vn, xo_combine (a := (rk, rv)) (b := (ek, ev)) hb h⟩⟩
theorem xs_fin_n {post : St2 → Prop} (hc : c ≤ 32) {n : Nat} (hn : n < c) (hb : ¬ im_bn (K n)) {rk rv : Int32} (hans : ans = im_P rk rv) (h3 : rk ≠ 3) (h : post (cap, nI c, scr, la, dem n, xp, im_P rk rv, K, A, B, C, vp_updL sX n (im_P rk rv), dX, nX, dem, upd stg n 0, rf, eo)) : wpX_finish post (cap, nI c, scr, la, inn, xp, ans, K, A, B, C, sX, dX, nX, dem, stg, rf, eo) (nI n) := by
  have cl : (nI n).toNatClampNeg = n := nI_clamp (by omega)
  have vn : vp_in (nI n) 32 := vp_in_nI (by omega) (by decide)
  subst hans
  unfold wpX_finish
  dsimp only
  rw [cl]
  exact ⟨vn, xo_isBinary_f hb (br_t rfl (x75_v (by omega) h3 h))⟩
theorem xs_fin_bx {post : St2 → Prop} (hc : c ≤ 32) {n : Nat} (hn : n < c) (hb : im_bn (K n)) (hr : rf n = 0 ∨ rf n = 1) {rk rv ek ev : Int32} (hans : ans = im_P rk rv) (heo : eo n = im_P ek ev) {q : Int32 × Int32} (hq : im_cb (K n) (if rf n = 0 then (ek, ev) else (rk, rv)) (if rf n = 0 then (rk, rv) else (ek, ev)) = q) (q3 : q.1 = 3) (h : post (cap, nI c, scr, la, inn, xp, im_P 3 q.2, K, A, B, C, sX, dX, nX, dem, stg, rf, eo)) : wpX_finish post (cap, nI c, scr, la, inn, xp, ans, K, A, B, C, sX, dX, nX, dem, stg, rf, eo) (nI n) := by
  subst hans
  refine x57 (by omega) hb hr heo hq ?_
  rw [q3]
  exact x75_x h
theorem xs_fin_bv {post : St2 → Prop} (hc : c ≤ 32) {n : Nat} (hn : n < c) (hb : im_bn (K n)) (hr : rf n = 0 ∨ rf n = 1) {rk rv ek ev : Int32} (hans : ans = im_P rk rv) (heo : eo n = im_P ek ev) {q : Int32 × Int32} (hq : im_cb (K n) (if rf n = 0 then (ek, ev) else (rk, rv)) (if rf n = 0 then (rk, rv) else (ek, ev)) = q) (q1 : q.1 = 1) (h : post (cap, nI c, scr, la, dem n, xp, im_P 1 q.2, K, A, B, C, vp_updL sX n (im_P 1 q.2), dX, nX, dem, upd stg n 0, rf, eo)) : wpX_finish post (cap, nI c, scr, la, inn, xp, ans, K, A, B, C, sX, dX, nX, dem, stg, rf, eo) (nI n) := by
  subst hans
  refine x57 (by omega) hb hr heo hq ?_
  rw [q1]
  exact x75_v (by omega) (by decide) h
end
end
section
/-! the component's denotations -/
theorem im_g_in {c : Nat} (hc : c ≤ 32) (d : Nat → Int32 × Int32) {j : Nat} (hj : j < c) : im_g c d (nI j) = d j := by
  unfold im_g
  rw [if_neg (fun z => z.elim (nI_pos (by omega)) (nI_ge hj (by omega))), nI_clamp (by omega)]
theorem im_g_out {c : Nat} (d : Nat → Int32 × Int32) {r : Int32} (hr : r < 0 ∨ nI c ≤ r) : im_g c d r = (3, 16) := if_pos hr
theorem im_s1_4 : im_s1 4 = 16 := by decide
theorem im_s1_2 : im_s1 2 = 4 := by decide
theorem im_s1_1 : im_s1 1 = 2 := by decide
section
variable {cap : Int32} {c : Nat} {scr la : Int64} {K A B C : Nat → Int32} {dX nX : Nat → Int64} {sX : Nat → Int64} {inn : Int32} {dem stg rf : Nat → Int32} {eo : Nat → Int64} {xp : Int32} {ans : Int64}
theorem xo_denOf {post : Int64 → Prop} (hc : c ≤ 32) {d : Nat → Int32 × Int32} (hd : ∀ j, j < c → dX j = im_P (d j).1 (d j).2) {r : Int32} (h : post (im_P (im_g c d r).1 (im_g c d r).2)) : wpX_denotationOf post (cap, nI c, scr, la, inn, xp, ans, K, A, B, C, sX, dX, nX, dem, stg, rf, eo) r := by
  unfold wpX_denotationOf
  dsimp only
  rcases pk_ix r (show c < 2 ^ 31 by omega) with z | z | ⟨j, hj, rfl⟩
  · rw [im_g_out d (Or.inl z)] at h
    exact xo_isNode_f hc (Or.inl z) (br_t rfl (xo_singleton (by rw [im_s1_4]; exact h)))
  · rw [im_g_out d (Or.inr z)] at h
    exact xo_isNode_f hc (Or.inr z) (br_t rfl (xo_singleton (by rw [im_s1_4]; exact h)))
  · rw [im_g_in hc d hj] at h
    refine xo_isNode_t hc hj (br_f (by decide) ⟨vp_in_nI (by omega) (by decide), ?_⟩)
    rw [nI_clamp (by omega), hd j hj]
    exact h
theorem xo_cden {post : Int64 → Prop} {k : Int32} (hk : im_bn k) {a b : Int32 × Int32} (ha : im_wf c K a) (hb : im_wf c K b) (h : post (im_P (im_bin k a b).1 (im_bin k a b).2)) : wpX_combineDenotations post () k (im_P a.1 a.2) (im_P b.1 b.2) := by
  unfold wpX_combineDenotations
  refine xo_exceptionOf (xo_exceptionOf ?_)
  unfold im_bin at h
  by_cases a3 : a.1 = 3
  · have a0 : ¬ a.2 = 0 := (im_wf_s ha a3).1
    rw [if_pos a3] at h ⊢
    refine br_f a0 ?_
    by_cases b3 : b.1 = 3
    · rw [if_pos b3] at h ⊢
      exact h
    · rw [if_neg b3, a3] at h
      rw [if_neg b3]
      unfold wX_combineDenotations_22
      rw [Int32.or_zero]
      exact h
  · rw [if_neg a3] at h ⊢
    refine br_t rfl ?_
    by_cases b3 : b.1 = 3
    · have b0 : ¬ b.2 = 0 := (im_wf_s hb b3).1
      rw [if_pos b3, b3] at h
      rw [if_pos b3]
      refine br_f b0 ?_
      unfold wX_combineDenotations_22
      rw [Int32.zero_or]
      exact h
    · rw [if_neg b3] at h ⊢
      refine br_t rfl (xo_combine hk (xo_exceptionOf ?_))
      unfold im_cb
      by_cases p2 : a.1 = 2 ∨ b.1 = 2
      · rw [if_pos p2] at h ⊢
        exact br_f (by decide) (xo_singleton (by rw [if_pos rfl, im_s1_2]; exact h))
      · rw [if_neg p2] at h ⊢
        by_cases d0 : k = 5 ∧ b.2 = 0
        · rw [if_pos d0] at h ⊢
          exact br_f (by decide) (xo_singleton (by rw [if_pos rfl, im_s1_1]; exact h))
        · rw [if_neg d0] at h ⊢
          exact br_t (if_neg (show ¬ (1 : Int32) = 3 by decide)) h
theorem xo_eq {post : Int64 → Prop} (hc : c ≤ 32) (hp : im_Pr c K A B C) {d : Nat → Int32 × Int32} (hd : ∀ j, j < c → dX j = im_P (d j).1 (d j).2) (hw : ∀ j, j < c → im_wf c K (d j)) {i : Nat} (hi : i < c) (h : post (im_P (im_dq c K A B C d i).1 (im_dq c K A B C d i).2)) : wpX_equation post (cap, nI c, scr, la, inn, xp, ans, K, A, B, C, sX, dX, nX, dem, stg, rf, eo) (nI i) := by
  have cl : (nI i).toNatClampNeg = i := nI_clamp (by omega)
  have vi : vp_in (nI i) 32 := vp_in_nI (by omega) (by decide)
  unfold wpX_equation
  dsimp only
  rw [cl]
  refine ⟨vi, nm_e ?_⟩
  unfold im_dq at h
  by_cases k0 : K i = 0
  · rw [if_pos k0] at h
    refine br_t k0 ?_
    unfold wX_equation_17
    refine xo_init (by omega) ?_
    unfold im_is im_ik
    rw [if_pos k0]
    exact h
  rw [if_neg k0] at h
  refine br_f k0 ?_
  by_cases k9 : K i = 9
  · rw [if_pos k9] at h
    refine br_t k9 ?_
    unfold wX_equation_17
    refine xo_init (by omega) ?_
    unfold im_is im_ik
    rw [if_neg k0, if_pos k9]
    exact h
  rw [if_neg k9] at h
  refine br_f k9 ?_
  by_cases k1 : K i = 1
  · rw [if_pos k1] at h
    exact br_t k1 ⟨vi, xo_singleton h⟩
  rw [if_neg k1] at h
  refine br_f k1 ⟨vi, xo_denOf hc hd ?_⟩
  have hwa := im_wf_g (K := K) (show c < 2 ^ 31 by omega) hw (A i)
  by_cases hb : im_bn (K i)
  · rw [if_pos (show 2 ≤ K i ∧ K i ≤ 6 from hb)] at h
    exact xo_isBinary_t hb (br_f (by decide) ⟨vi, xo_denOf hc hd (xo_cden hb hwa (im_wf_g (K := K) (show c < 2 ^ 31 by omega) hw (B i)) h)⟩)
  rw [if_neg (show ¬ (2 ≤ K i ∧ K i ≤ 6) from hb)] at h
  refine xo_isBinary_f hb (br_t rfl (xo_kindOf ?_))
  by_cases a3 : (im_g c d (A i)).1 = 3
  · rw [if_pos a3] at h
    exact br_t a3 h
  rw [if_neg a3] at h
  have hv := im_wf_v hwa a3
  refine br_f a3 (xo_cont hc hi hv ?_)
  cases hct : im_ct c K A B C i (im_g c d (A i)) with
  | none =>
    rw [hct] at h
    exact br_t rfl (xo_singleton (by rw [im_s1_2]; exact h))
  | some r =>
    rw [hct] at h
    exact br_f (im_ct_ne hp hi k0 k1 hb hv hc hct) (xo_denOf hc hd h)
end
end
section
/-! the component's loops -/
section
variable {cap : Int32} {c : Nat} {scr la : Int64} {K A B C : Nat → Int32} {dX nX : Nat → Int64} {sX : Nat → Int64} {inn : Int32} {dem stg rf : Nat → Int32} {eo : Nat → Int64} {xp : Int32} {ans : Int64}
theorem xl_leave {post : St2 → Prop} (hc : c ≤ 32) (h : post (cap, nI c, scr, la, inn, xp, ans, K, A, B, C, sX, dX, nX, dem, im_fl stg (fun _ => 0) c, rf, eo)) : wpX_leaveActiveNodes post (cap, nI c, scr, la, inn, xp, ans, K, A, B, C, sX, dX, nX, dem, stg, rf, eo) := by
  have q := im_lp0 (W := fun n i => wX_leaveActiveNodes_2 post cap (nI c) scr la inn xp ans n (nI i) K A B C sX dX nX dem (im_fl stg (fun _ => 0) i) rf eo) c
    (fun n => by
      rw [wX_leaveActiveNodes_2]
      exact br_t (Int32.le_refl _) h)
    (fun n i hi ih => by
      rw [wX_leaveActiveNodes_2]
      refine br_f (nI_ge hi (by omega)) ⟨vp_in_nI (by omega) (by decide), nm_r (show _ = im_fl stg (fun _ => 0) (i + 1) by rw [nI_clamp (by omega)]; exact im_flU stg (fun _ => 0) i) (nm_r (nI_1 i) ih)⟩)
  rw [im_fl0, nI_0] at q
  exact q
theorem xl_reset {post : St2 → Prop} (hc : c ≤ 32) (h : post (cap, nI c, scr, la, inn, xp, ans, K, A, B, C, im_fl sX (im_is K A) c, dX, nX, dem, stg, rf, eo)) : wpX_resetThunks post (cap, nI c, scr, la, inn, xp, ans, K, A, B, C, sX, dX, nX, dem, stg, rf, eo) := by
  have q := im_lp0 (W := fun n i => wX_resetThunks_2 post cap (nI c) scr la inn xp ans n (nI i) K A B C (im_fl sX (im_is K A) i) dX nX dem stg rf eo) c
    (fun n => by
      rw [wX_resetThunks_2]
      exact br_t (Int32.le_refl _) h)
    (fun n i hi ih => by
      rw [wX_resetThunks_2]
      refine br_f (nI_ge hi (by omega)) (xo_init (by omega) ⟨vp_in_nI (by omega) (by decide), nm_r (show _ = im_fl sX (im_is K A) (i + 1) by rw [nI_clamp (by omega)]; exact im_flL sX (im_is K A) i) (nm_r (nI_1 i) ih)⟩))
  rw [im_fl0, nI_0] at q
  exact q
/-- the round's end: what the new row is, and whether it differs -/
theorem xl_take {post : Int32 → St2 → Prop} (hc : c ≤ 32) (h : ∀ z : Int32, (z = 0 ∨ z = 1) → (z = 0 → ∀ j, j < c → nX j = dX j) → post z (cap, nI c, scr, la, inn, xp, ans, K, A, B, C, sX, im_fl dX nX c, nX, dem, stg, rf, eo)) : wpX_takeNextDenotations post (cap, nI c, scr, la, inn, xp, ans, K, A, B, C, sX, dX, nX, dem, stg, rf, eo) := by
  have key : ∀ n i z, i ≤ c → c - i < n → (z = 0 ∨ z = 1) → (z = 0 → ∀ j, j < i → nX j = dX j) → wX_takeNextDenotations_4 post cap (nI c) scr la inn xp ans n z (nI i) K A B C sX (im_fl dX nX i) nX dem stg rf eo := by
    intro n
    induction n with
    | zero => intro i z _ hn; omega
    | succ n ih =>
      intro i z hi hn hz hz0
      rw [wX_takeNextDenotations_4]
      by_cases e : i = c
      · subst e
        refine br_t (Int32.le_refl _) ⟨?_, h z hz hz0⟩
        rcases hz with rfl | rfl <;> rfl
      · have hic : i < c := by omega
        have vi : vp_in (nI i) 32 := vp_in_nI (by omega) (by decide)
        have cl : (nI i).toNatClampNeg = i := nI_clamp (by omega)
        have ed : im_fl dX nX i i = dX i := im_fl_ge (by omega)
        have st1 : wX_takeNextDenotations_32 post (wX_takeNextDenotations_4 post cap (nI c) scr la inn xp ans n) (nI i) cap (nI c) scr la inn xp ans K A B C sX (im_fl dX nX i) nX dem stg rf eo := by
          unfold wX_takeNextDenotations_32 wX_takeNextDenotations_37
          refine ⟨vi, vi, nm_r (show _ = im_fl dX nX (i + 1) by rw [cl]; exact im_flL dX nX i) (nm_r (nI_1 i) ?_)⟩
          exact ih (i + 1) 1 (by omega) (by omega) (Or.inr rfl) (fun w => absurd w (by decide))
        refine br_f (nI_ge hic (by omega)) (br_c (fun z0 => ?_) (fun _ => st1))
        refine ⟨vi, vi, br_c (fun w => ?_) (fun _ => st1)⟩
        rw [cl, ed] at w
        unfold wX_takeNextDenotations_37
        refine ⟨vi, vi, nm_r (show _ = im_fl dX nX (i + 1) by rw [cl]; exact im_flL dX nX i) (nm_r (nI_1 i) ?_)⟩
        refine ih (i + 1) 0 (by omega) (by omega) (Or.inl rfl) (fun _ j hj => ?_)
        by_cases ej : j = i
        · subst ej; exact w
        · exact hz0 z0 j (by omega)
  have q := key (c + 1) 0 0 (by omega) (by omega) (Or.inl rfl) (fun _ j hj => absurd hj (Nat.not_lt_zero _))
  rw [im_fl0, nI_0] at q
  exact ⟨_, q⟩
/-- one round over all nodes -/
theorem xl_round {post : St2 → Prop} {J : _} (hc : c ≤ 32) (hp : im_Pr c K A B C) {d : Nat → Int32 × Int32} (hd : ∀ j, j < c → dX j = im_P (d j).1 (d j).2) (hw : ∀ j, j < c → im_wf c K (d j)) (x2 : Int32)
    (h : wpX_takeNextDenotations (fun r u => match u with | (f_cap, f_count, f_scr, f_la, f_inn, f_xp, f_ans, a_K, a_A, a_B, a_C, a_sX, a_dX, a_nX, a_dem, a_stg, a_rf, a_eo) => ∀ x2_24 : Int32, x2_24 = x2 + 1 → J r x2_24 f_cap f_count f_scr f_la f_inn f_xp f_ans a_K a_A a_B a_C a_sX a_dX a_nX a_dem a_stg a_rf a_eo) (cap, nI c, scr, la, inn, xp, ans, K, A, B, C, sX, dX, im_fl nX (fun j => im_P (im_dq c K A B C d j).1 (im_dq c K A B C d j).2) c, dem, stg, rf, eo)) :
    ∃ n, wX_solveDenotations_45 post J x2 cap (nI c) scr la inn xp ans n 0 K A B C sX dX nX dem stg rf eo := by
  have q := im_lp0 (W := fun n i => wX_solveDenotations_45 post J x2 cap (nI c) scr la inn xp ans n (nI i) K A B C sX dX (im_fl nX (fun j => im_P (im_dq c K A B C d j).1 (im_dq c K A B C d j).2) i) dem stg rf eo) c
    (fun n => by
      rw [wX_solveDenotations_45]
      exact br_t (Int32.le_refl _) h)
    (fun n i hi ih => by
      rw [wX_solveDenotations_45]
      refine br_f (nI_ge hi (by omega)) (xo_eq hc hp hd hw hi ⟨vp_in_nI (by omega) (by decide), nm_r (show _ = im_fl nX (fun j => im_P (im_dq c K A B C d j).1 (im_dq c K A B C d j).2) (i + 1) by rw [nI_clamp (by omega)]; exact im_flL nX (fun j => im_P (im_dq c K A B C d j).1 (im_dq c K A B C d j).2) i) (nm_r (nI_1 i) ih)⟩))
  rw [im_fl0, nI_0] at q
  exact q
theorem xl_rounds {post : St2 → Prop} (hc : c ≤ 32) (hp : im_Pr c K A B C) (h : ∀ dX' nX' : Nat → Int64, im_DX c K A B C dX' → post (cap, nI c, scr, la, inn, xp, ans, K, A, B, C, sX, dX', nX', dem, stg, rf, eo)) :
    ∀ (n r : Nat) (z : Int32) (dX nX : Nat → Int64), r ≤ 1024 → 1024 - r < n → (∀ j, j < c → dX j = im_P (im_it c K A B C r j).1 (im_it c K A B C r j).2) → (z = 0 → im_it c K A B C r = im_it c K A B C 1024) → wX_solveDenotations_32 post n z (nI r) cap (nI c) scr la inn xp ans K A B C sX dX nX dem stg rf eo := by
  intro n
  induction n with
  | zero => intro r z dX nX _ hn; omega
  | succ n ih =>
    intro r z dX nX hr hn hd hz
    rw [wX_solveDenotations_32]
    have fin : im_it c K A B C r = im_it c K A B C 1024 → im_DX c K A B C dX := fun e j hj => by rw [hd j hj, e]
    refine br_c (fun z0 => h dX nX (fin (hz z0))) (fun _ => ?_)
    by_cases e : r = 1024
    · subst e
      exact br_t (Int32.le_refl _) (h dX nX (fin rfl))
    · refine br_f (nI_ge (b := 1024) (by omega) (by decide)) (xl_round hc hp hd (fun j _ => im_it_wf (by omega) hp r j) (nI r) (xl_take hc (fun w hw hw0 => ?_)))
      rw [nI_1]
      refine nm_e (ih (r + 1) w _ _ (by omega) (by omega) (fun j hj => ?_) (fun w0 => ?_))
      · rw [im_fl_lt hj, im_fl_lt hj]
        show _ = im_P (im_J c K A B C (im_it c K A B C r) j).1 (im_J c K A B C (im_it c K A B C r) j).2
        unfold im_J
        rw [if_pos hj]
      · have e2 : im_it c K A B C (r + 1) = im_it c K A B C r := by
          funext j
          by_cases hj : j < c
          · have q := hw0 w0 j hj
            rw [im_fl_lt hj, hd j hj] at q
            have q2 := im_inj q
            show im_J c K A B C (im_it c K A B C r) j = _
            unfold im_J
            rw [if_pos hj]
            exact Prod.ext q2.1 q2.2
          · rw [im_it_out _ _ hj, im_it_out _ _ hj]
        rw [e2]
        exact im_it_fin hc hp (Or.inl e2)
theorem xl_solve {post : St2 → Prop} (hc : c ≤ 32) (hp : im_Pr c K A B C) (h : ∀ dX' nX' : Nat → Int64, im_DX c K A B C dX' → post (cap, nI c, scr, la, inn, xp, ans, K, A, B, C, sX, dX', nX', dem, stg, rf, eo)) : wpX_solveDenotations post (cap, nI c, scr, la, inn, xp, ans, K, A, B, C, sX, dX, nX, dem, stg, rf, eo) := by
  have q := im_lp0 (W := fun n i => wX_solveDenotations_2 post cap (nI c) scr la inn xp ans n (nI i) K A B C sX (im_fl dX (fun _ => im_P 3 65534) i) nX dem stg rf eo) c
    (fun n => by
      rw [wX_solveDenotations_2]
      refine br_t (Int32.le_refl _) ⟨1025, ?_⟩
      have w := xl_rounds (cap := cap) (scr := scr) (la := la) (sX := sX) (inn := inn) (dem := dem) (stg := stg) (rf := rf) (eo := eo) (xp := xp) (ans := ans) hc hp h 1025 0 1 (im_fl dX (fun _ => im_P 3 65534) c) nX (by omega) (by omega) (fun j hj => im_fl_lt hj) (fun z => absurd z (by decide))
      rw [nI_0] at w
      exact w)
    (fun n i hi ih => by
      rw [wX_solveDenotations_2]
      refine br_f (nI_ge hi (by omega)) (xo_outcome ⟨vp_in_nI (by omega) (by decide), nm_r (show _ = im_fl dX (fun _ => im_P 3 65534) (i + 1) by rw [nI_clamp (by omega)]; exact im_flL dX (fun _ => im_P 3 65534) i) (nm_r (nI_1 i) ih)⟩))
  rw [im_fl0, nI_0] at q
  exact q
end
end
section
/-! the machine against the denotation: sets that hold a code, contexts, values -/
def im_hs (j : Nat) (a : Int32 × Int32) : Prop := a.1 = 3 ∧ bt a.2 j = true
def im_cd (e : Int32) (a : Int32 × Int32) : Prop := ∃ j, 1 ≤ j ∧ j < 16 ∧ e = nI j ∧ im_hs j a
theorem im_hs_all {j : Nat} (h1 : 1 ≤ j) (h2 : j < 16) : im_hs j (3, 65534) := ⟨rfl, (im_ball j).mpr ⟨h1, h2⟩⟩
theorem im_hs_l {j : Nat} {k : Int32} {a b : Int32 × Int32} (h : im_hs j a) : im_hs j (im_bin k a b) := by
  unfold im_bin
  rw [if_pos h.1]
  by_cases b3 : b.1 = 3
  · rw [if_pos b3]
    exact ⟨rfl, by show bt (a.2 ||| b.2) j = true; rw [b_or, h.2, Bool.true_or]⟩
  · rw [if_neg b3]; exact h
theorem im_hs_r {j : Nat} {k : Int32} {a b : Int32 × Int32} (h : im_hs j b) : im_hs j (im_bin k a b) := by
  unfold im_bin
  by_cases a3 : a.1 = 3
  · rw [if_pos a3, if_pos h.1]
    exact ⟨rfl, by show bt (a.2 ||| b.2) j = true; rw [b_or, h.2, Bool.or_true]⟩
  · rw [if_neg a3, if_pos h.1]; exact h
theorem im_le_ALL {c : Nat} {K : Nat → Int32} {a : Int32 × Int32} (hw : im_wf c K a) (h : im_le a (3, 65534)) : a = (3, 65534) := by
  rcases h with h | h | ⟨a3, _, s⟩
  · exact h
  · exact h
  · refine Prod.ext a3 (b_ext (fun i _ => ?_))
    by_cases z : bt a.2 i = true
    · rw [z, (im_ball i).mpr ((im_wf_s hw a3).2 i z)]
    · cases hb : bt (65534 : Int32) i with
      | false => rw [Bool.not_eq_true] at z; rw [z]
      | true => exact absurd (s i hb) z
section
variable {c : Nat} {K A B C : Nat → Int32}
theorem im_it_v (hc : c < 2 ^ 31) (hp : im_Pr c K A B C) {N : Nat} : ∀ n k, k + n = N → ∀ j, (im_it c K A B C N j).1 ≠ 3 → im_it c K A B C k j = im_it c K A B C N j ∨ im_it c K A B C k j = (3, 65534)
  | 0, k, h, j, _ => Or.inl (by rw [← h]; rfl)
  | n + 1, k, h, j, hv => by
    have hl := im_it_le hc hp k j
    rcases im_it_v hc hp n (k + 1) (by omega) j hv with e | e
    · rw [e] at hl
      rcases hl with z | z | z
      · exact Or.inl z
      · exact Or.inr z
      · exact absurd z.2.1 hv
    · rw [e] at hl
      exact Or.inr (im_le_ALL (im_it_wf hc hp k j) hl)
/-- D: what the rounds come to -/
def im_D (c : Nat) (K A B C : Nat → Int32) : Nat → Int32 × Int32 := im_it c K A B C 1024
theorem im_it_s (n : Nat) {i : Nat} (hi : i < c) : im_it c K A B C (n + 1) i = im_dq c K A B C (im_it c K A B C n) i := if_pos hi
theorem im_D_fix (hc : c ≤ 32) (hp : im_Pr c K A B C) {i : Nat} (hi : i < c) : im_D c K A B C i = im_dq c K A B C (im_D c K A B C) i := by
  have e : im_it c K A B C (1024 + 1) = im_it c K A B C 1024 := im_it_fin hc hp (Or.inr (Nat.le_succ 1024))
  have e2 := im_it_s (c := c) (K := K) (A := A) (B := B) (C := C) 1024 hi
  unfold im_D
  rw [← e2, e]
theorem im_D_wf (hc : c ≤ 32) (hp : im_Pr c K A B C) (i : Nat) : im_wf c K (im_D c K A B C i) := im_it_wf (by omega) hp 1024 i
/-- the first demand of a node -/
theorem im_ctx1 {d : Nat → Int32 × Int32} {n j : Nat} {r : Int32} (hk : K n ≠ 0 ∧ K n ≠ 1 ∧ K n ≠ 9) (hr : im_bn (K n) ∨ r = 0) (h : im_hs j (im_g c d (if r = 0 then A n else B n))) : im_hs j (im_dq c K A B C d n) := by
  unfold im_dq
  rw [if_neg hk.1, if_neg hk.2.2, if_neg hk.2.1]
  by_cases hb : im_bn (K n)
  · rw [if_pos (show 2 ≤ K n ∧ K n ≤ 6 from hb)]
    by_cases z : r = 0
    · rw [if_pos z] at h; exact im_hs_l h
    · rw [if_neg z] at h; exact im_hs_r h
  · rw [if_neg (show ¬ (2 ≤ K n ∧ K n ≤ 6) from hb)]
    rw [if_pos (hr.resolve_left hb)] at h
    rw [if_pos h.1]
    exact h
/-- the last demand of a node, its first answer w known -/
theorem im_ctx2 {d : Nat → Int32 × Int32} {n j : Nat} {r q : Int32} {w : Int32 × Int32} (hk : K n ≠ 0 ∧ K n ≠ 1 ∧ K n ≠ 9) (hr : im_bn (K n) ∨ r = 0) (hw : im_vl c K w) (hd : im_g c d (if r = 0 then A n else B n) = w ∨ im_g c d (if r = 0 then A n else B n) = (3, 65534))
    (hb : im_bn (K n) → q = if r = 0 then B n else A n) (hn : ¬ im_bn (K n) → im_ct c K A B C n w = some q) (h1 : 1 ≤ j) (h2 : j < 16) (h : im_hs j (im_g c d q)) : im_hs j (im_dq c K A B C d n) := by
  unfold im_dq
  rw [if_neg hk.1, if_neg hk.2.2, if_neg hk.2.1]
  by_cases hbn : im_bn (K n)
  · rw [if_pos (show 2 ≤ K n ∧ K n ≤ 6 from hbn)]
    rw [hb hbn] at h
    by_cases z : r = 0
    · rw [if_pos z] at h; exact im_hs_r h
    · rw [if_neg z] at h; exact im_hs_l h
  · rw [if_neg (show ¬ (2 ≤ K n ∧ K n ≤ 6) from hbn)]
    rw [if_pos (hr.resolve_left hbn)] at hd
    rcases hd with e | e
    · rw [e, if_neg (im_wf_ne hw), hn hbn]
      exact h
    · rw [e, if_pos im_all1]
      exact im_hs_all h1 h2
/-- the value of a node that isn't binary -/
theorem im_valn {d : Nat → Int32 × Int32} {n : Nat} {w : Int32 × Int32} (hk : K n ≠ 0 ∧ K n ≠ 1 ∧ K n ≠ 9) (hbn : ¬ im_bn (K n)) (hw : im_vl c K w) (hd : im_g c d (A n) = w) : im_dq c K A B C d n = im_gO c d (im_ct c K A B C n w) := by
  unfold im_dq
  rw [if_neg hk.1, if_neg hk.2.2, if_neg hk.2.1, if_neg (show ¬ (2 ≤ K n ∧ K n ≤ 6) from hbn), hd, if_neg (im_wf_ne hw)]
theorem im_valb {d : Nat → Int32 × Int32} {n : Nat} (hk : K n ≠ 0 ∧ K n ≠ 1 ∧ K n ≠ 9) (hbn : im_bn (K n)) : im_dq c K A B C d n = im_bin (K n) (im_g c d (A n)) (im_g c d (B n)) := by
  unfold im_dq
  rw [if_neg hk.1, if_neg hk.2.2, if_neg hk.2.1, if_pos (show 2 ≤ K n ∧ K n ≤ 6 from hbn)]
theorem im_cb_v {k : Int32} {a b : Int32 × Int32} (ha : im_vl c K a) (hb : im_vl c K b) (h : (im_cb k a b).1 = 1) : im_bin k a b = im_cb k a b := by
  unfold im_bin
  unfold im_cb at h ⊢
  rw [if_neg (im_wf_ne ha), if_neg (im_wf_ne hb)]
  by_cases z : a.1 = 2 ∨ b.1 = 2
  · rw [if_pos z] at h; exact absurd (show (3 : Int32) = 1 from h) (by decide)
  · rw [if_neg z] at h ⊢
    by_cases z2 : k = 5 ∧ b.2 = 0
    · rw [if_pos z2] at h; exact absurd (show (3 : Int32) = 1 from h) (by decide)
    · rw [if_neg z2] at h ⊢
      rw [if_neg z, if_neg z2]
theorem im_bt42 : bt 4 2 = true := by decide +kernel
theorem im_bt21 : bt 2 1 = true := by decide +kernel
theorem im_bt164 : bt 16 4 = true := by decide +kernel
theorem im_cb_x {k : Int32} {a b : Int32 × Int32} (ha : im_vl c K a) (hb : im_vl c K b) (h : (im_cb k a b).1 = 3) : im_cd (im_cb k a b).2 (im_bin k a b) := by
  unfold im_bin
  unfold im_cb at h ⊢
  rw [if_neg (im_wf_ne ha), if_neg (im_wf_ne hb)]
  by_cases z : a.1 = 2 ∨ b.1 = 2
  · rw [if_pos z, if_pos z]
    exact ⟨2, by omega, by omega, rfl, rfl, im_bt42⟩
  · rw [if_neg z] at h ⊢
    rw [if_neg z]
    by_cases z2 : k = 5 ∧ b.2 = 0
    · rw [if_pos z2, if_pos z2]
      exact ⟨1, by omega, by omega, rfl, rfl, im_bt21⟩
    · rw [if_neg z2] at h
      exact absurd (show (1 : Int32) = 3 from h) (by decide)
theorem im_s1_has : ∀ n, n < 16 → 5 ≤ n → bt (im_s1 (nI n)) n = true := by decide +kernel
theorem im_raise_cd {a : Int32} (h : 5 ≤ a ∧ a ≤ 15) : im_cd a (3, im_s1 a) := by
  have h0 : ¬ a < 0 := fun z => Int32.lt_irrefl (Int32.lt_of_lt_of_le z (Int32.le_trans (show (0 : Int32) ≤ 5 by decide) h.1))
  obtain ⟨j, hj, rfl⟩ := nI_of h0
  have h1 : 5 ≤ j := (nI_leI (a := 5) (by decide) hj).mp h.1
  have h2 : j ≤ 15 := (nI_leI (b := 15) hj (by decide)).mp h.2
  exact ⟨j, by omega, by omega, rfl, rfl, im_s1_has j (by omega) h1⟩
end
/-! a node added keeps every value -/
theorem im_ext_g {c : Nat} (hc : c < 32) {d d' : Nat → Int32 × Int32} (h : ∀ j, j < c → (d j).1 ≠ 3 → d' j = d j) (r : Int32) (hr : (im_g c d r).1 ≠ 3) : im_g (c + 1) d' r = im_g c d r := by
  rcases pk_ix r (show c < 2 ^ 31 by omega) with z | z | ⟨j, hj, rfl⟩
  · rw [im_g_out d (Or.inl z)] at hr
    exact absurd rfl hr
  · rw [im_g_out d (Or.inr z)] at hr
    exact absurd rfl hr
  · rw [im_g_in (by omega) d hj] at hr ⊢
    rw [im_g_in (show c + 1 ≤ 32 by omega) d' (show j < c + 1 by omega)]
    exact h j hj hr
theorem im_ext_ct {c c' : Nat} {K A B C K' A' B' C' : Nat → Int32} (hc : c < 32) (h : ∀ i, i < c → K' i = K i ∧ A' i = A i ∧ B' i = B i ∧ C' i = C i) {i : Nat} (hi : i < c) {a : Int32 × Int32} (ha : im_vl c K a) : im_ct c' K' A' B' C' i a = im_ct c K A B C i a := by
  obtain ⟨eK, eA, eB, eC⟩ := h i hi
  unfold im_ct
  rw [eK, eB, eC]
  rcases ha with z | ⟨z, j, hj, ej, _⟩
  · have z2 : ¬ a.1 = 2 := by rw [z]; decide
    simp only [if_neg z2]
  · rw [ej, nI_clamp (by omega), (h j hj).2.1, (h j hj).2.2.1]
theorem im_bin_v {k : Int32} {a b : Int32 × Int32} (h : (im_bin k a b).1 ≠ 3) : a.1 ≠ 3 ∧ b.1 ≠ 3 := by
  unfold im_bin at h
  by_cases a3 : a.1 = 3
  · rw [if_pos a3] at h
    by_cases b3 : b.1 = 3
    · rw [if_pos b3] at h; exact absurd rfl h
    · rw [if_neg b3] at h; exact absurd a3 h
  · rw [if_neg a3] at h
    by_cases b3 : b.1 = 3
    · rw [if_pos b3] at h; exact absurd b3 h
    · exact ⟨a3, b3⟩
theorem im_ext_dq {c : Nat} {K A B C K' A' B' C' : Nat → Int32} (hc : c < 32) (h : ∀ i, i < c → K' i = K i ∧ A' i = A i ∧ B' i = B i ∧ C' i = C i) {d d' : Nat → Int32 × Int32} (hw : ∀ j, j < c → im_wf c K (d j)) (hd : ∀ j, j < c → (d j).1 ≠ 3 → d' j = d j) {i : Nat} (hi : i < c) (hv : (im_dq c K A B C d i).1 ≠ 3) : im_dq (c + 1) K' A' B' C' d' i = im_dq c K A B C d i := by
  have hg := im_ext_g hc hd
  have hwa := im_wf_g (K := K) (show c < 2 ^ 31 by omega) hw (A i)
  have hct := fun (a : Int32 × Int32) (ha : im_vl c K a) => im_ext_ct (c' := c + 1) (C := C) hc h hi ha
  obtain ⟨eK, eA, eB, eC⟩ := h i hi
  unfold im_dq at hv ⊢
  rw [eK, eA, eB]
  by_cases k0 : K i = 0
  · rw [if_pos k0, if_pos k0]
  rw [if_neg k0] at hv ⊢
  rw [if_neg k0]
  by_cases k9 : K i = 9
  · rw [if_pos k9, if_pos k9]
  rw [if_neg k9] at hv ⊢
  rw [if_neg k9]
  by_cases k1 : K i = 1
  · rw [if_pos k1, if_pos k1]
  rw [if_neg k1] at hv ⊢
  rw [if_neg k1]
  by_cases hb : 2 ≤ K i ∧ K i ≤ 6
  · rw [if_pos hb] at hv ⊢
    rw [if_pos hb]
    have hab := im_bin_v hv
    rw [hg _ hab.1, hg _ hab.2]
  rw [if_neg hb] at hv ⊢
  rw [if_neg hb]
  by_cases a3 : (im_g c d (A i)).1 = 3
  · rw [if_pos a3] at hv; exact absurd a3 hv
  rw [if_neg a3] at hv ⊢
  rw [hg _ a3, if_neg a3, hct _ (im_wf_v hwa a3)]
  cases hq : im_ct c K A B C i (im_g c d (A i)) with
  | none => unfold im_gO; rfl
  | some r =>
    rw [hq] at hv
    exact hg r hv
theorem im_ext {c : Nat} {K A B C K' A' B' C' : Nat → Int32} (hc : c < 32) (hp : im_Pr c K A B C) (h : ∀ i, i < c → K' i = K i ∧ A' i = A i ∧ B' i = B i ∧ C' i = C i) : ∀ n i, i < c → (im_it c K A B C n i).1 ≠ 3 → im_it (c + 1) K' A' B' C' n i = im_it c K A B C n i := by
  intro n
  induction n with
  | zero => intro i _ hv; exact absurd im_all1 hv
  | succ n ih =>
    intro i hi hv
    rw [im_it_s n hi] at hv ⊢
    rw [im_it_s n (show i < c + 1 by omega)]
    exact im_ext_dq hc h (fun j _ => im_it_wf (show c < 2 ^ 31 by omega) hp n j) ih hi hv
end
section
/-! the active nodes: a chain of demands -/
def px_FL (c : Nat) (K st stg dem : Nat → Int32) (inn : Int32) (s : Nat) (g : Nat → Nat) : Prop :=
  (∀ t, t < s → g t < c ∧ (st (g t) = 3 ∧ K (g t) ≠ 0 ∧ K (g t) ≠ 1 ∧ K (g t) ≠ 9) ∧ (stg (g t) = 1 ∨ stg (g t) = 2 ∨ stg (g t) = 3)) ∧
  (∀ t t', t < s → t' < s → g t = g t' → t = t') ∧ (∀ i, i < 32 → stg i = 0 ∨ ∃ t, t < s ∧ g t = i) ∧
  inn = im_lk g s ∧ (∀ t, t < s → dem (g t) = im_lk g t) ∧ (∀ t, t + 1 < s → stg (g t) ≠ 1)
def px_FS (c : Nat) (K A B C stg rf : Nat → Int32) (eo : Nat → Int64) (n : Nat) (q : Int32) : Prop :=
  (stg n = 2 → q = if rf n = 0 then A n else B n) ∧
  (stg n = 3 → ∃ w : Int32 × Int32, im_vl c K w ∧ im_g c (im_D c K A B C) (if rf n = 0 then A n else B n) = w ∧ eo n = im_P w.1 w.2 ∧ (im_bn (K n) → q = if rf n = 0 then B n else A n) ∧ (¬ im_bn (K n) → im_ct c K A B C n w = some q))
def px_SC (c : Nat) (K A B C stg rf : Nat → Int32) (eo : Nat → Int64) (root : Int32) (s : Nat) (g : Nat → Nat) (ro : Nat → Int32) : Prop :=
  (0 < s → root = nI (g 0)) ∧ (∀ t, t + 1 < s → ro t = nI (g (t + 1))) ∧ (∀ t, t < s → px_FS c K A B C stg rf eo (g t) (ro t))
def px_pe (root : Int32) (s : Nat) (ro : Nat → Int32) (r : Int32) : Prop := (s = 0 → root = r) ∧ (0 < s → ro (s - 1) = r)
section
variable {c : Nat} {K A B C st sv stg rf : Nat → Int32} {eo : Nat → Int64} {dem : Nat → Int32} {inn root : Int32} {s : Nat} {g : Nat → Nat} {ro : Nat → Int32}
theorem px_FL_stg (h : px_FL c K st stg dem inn s g) {t : Nat} (ht : t < s) : stg (g t) ≠ 0 := by
  rcases (h.1 t ht).2.2 with e | e | e <;> rw [e] <;> decide
theorem px_FL_top {t : Nat} (h : px_FL c K st stg dem inn (t + 1) g) {q : Int32} (hq : q = 2 ∨ q = 3) : px_FL c K st (upd stg (g t) q) dem inn (t + 1) g := by
  have h0 := px_FL_stg h (show t < t + 1 by omega)
  obtain ⟨h1, h2, h3, h4, h5, h6⟩ := h
  refine ⟨fun t' ht' => ⟨(h1 t' ht').1, (h1 t' ht').2.1, ?_⟩, h2, fun i hi => ?_, h4, h5, fun t' ht' => ?_⟩
  · by_cases e : g t' = g t
    · rw [e, pk_us]; exact Or.inr hq
    · rw [pk_un e]; exact (h1 t' ht').2.2
  · rcases h3 i hi with z | z
    · have : i ≠ g t := fun w => h0 (w ▸ z)
      exact Or.inl (by rw [pk_un this]; exact z)
    · exact Or.inr z
  · have e : g t' ≠ g t := fun w => by have := h2 t' t (by omega) (by omega) w; omega
    rw [pk_un e]; exact h6 t' ht'
theorem px_FL_push (h : px_FL c K st stg dem inn s g) {j : Nat} (hj : j < c) (hs : stg j = 0) (hp : ∀ t, t < s → stg (g t) ≠ 1) (hst : st j = 3 ∧ K j ≠ 0 ∧ K j ≠ 1 ∧ K j ≠ 9) : px_FL c K st (upd stg j 1) (upd dem j inn) (nI j) (s + 1) (fun t => if t = s then j else g t) := by
  have hne : ∀ t, t < s → g t ≠ j := fun t ht z => px_FL_stg h ht (by rw [z]; exact hs)
  obtain ⟨h1, h2, h3, h4, h5, h6⟩ := h
  have gs : (fun t => if t = s then j else g t) s = j := if_pos rfl
  have gl : ∀ t, t < s → (fun t => if t = s then j else g t) t = g t := fun t ht => if_neg (by omega)
  refine ⟨fun t ht => ?_, fun t t' ht ht' => ?_, fun i hi => ?_, ?_, fun t ht => ?_, fun t ht => ?_⟩
  · by_cases e : t = s
    · rw [e, gs, pk_us]; exact ⟨hj, hst, Or.inl rfl⟩
    · rw [gl t (by omega), pk_un (hne t (by omega))]; exact h1 t (by omega)
  · by_cases e : t = s
    · by_cases e' : t' = s
      · intro _; omega
      · rw [e, gs, gl t' (by omega)]; intro z; exact absurd z.symm (hne t' (by omega))
    · by_cases e' : t' = s
      · rw [e', gs, gl t (by omega)]; intro z; exact absurd z (hne t (by omega))
      · rw [gl t (by omega), gl t' (by omega)]; exact h2 t t' (by omega) (by omega)
  · by_cases e : i = j
    · exact Or.inr ⟨s, by omega, by rw [gs, e]⟩
    · rw [pk_un e]
      rcases h3 i hi with z | ⟨t, ht, z⟩
      · exact Or.inl z
      · exact Or.inr ⟨t, by omega, by rw [gl t ht]; exact z⟩
  · unfold im_lk
    rw [if_neg (by omega), show s + 1 - 1 = s by omega, gs]
  · have hl : ∀ t, t ≤ s → im_lk (fun t => if t = s then j else g t) t = im_lk g t := by
      intro t ht
      unfold im_lk
      by_cases z : t = 0
      · rw [if_pos z, if_pos z]
      · rw [if_neg z, if_neg z, gl (t - 1) (by omega)]
    by_cases e : t = s
    · rw [e, gs, pk_us, hl s (by omega)]; exact h4
    · rw [gl t (by omega), pk_un (hne t (by omega)), hl t (by omega)]; exact h5 t (by omega)
  · rw [gl t (by omega), pk_un (hne t (by omega))]; exact hp t (by omega)
theorem px_FL_pop {t : Nat} (h : px_FL c K st stg dem inn (t + 1) g) (k : Int32) : px_FL c K (upd st (g t) k) (upd stg (g t) 0) dem (dem (g t)) t g := by
  obtain ⟨h1, h2, h3, h4, h5, h6⟩ := h
  have hne : ∀ t', t' < t → g t' ≠ g t := fun t' ht z => by have := h2 t' t (by omega) (by omega) z; omega
  refine ⟨fun t' ht' => ?_, fun a b ha hb => h2 a b (by omega) (by omega), fun i hi => ?_, h5 t (by omega), fun t' ht' => h5 t' (by omega), fun t' ht' => ?_⟩
  · rw [pk_un (hne t' ht'), pk_un (hne t' ht')]; exact h1 t' (by omega)
  · by_cases e : i = g t
    · subst e; exact Or.inl pk_us
    · rw [pk_un e]
      rcases h3 i hi with z | ⟨t', ht', z⟩
      · exact Or.inl z
      · have : t' ≠ t := fun w => e (by rw [← z, w])
        exact Or.inr ⟨t', by omega, z⟩
  · rw [pk_un (hne t' (by omega))]; exact h6 t' (by omega)
theorem px_FL_0 (hs : ∀ i, i < 32 → stg i = 0) (g : Nat → Nat) : px_FL c K st stg dem (-1) 0 g :=
  ⟨fun t ht => absurd ht (Nat.not_lt_zero _), fun t _ ht => absurd ht (Nat.not_lt_zero _), fun i hi => Or.inl (hs i hi), (if_pos rfl).symm, fun t ht => absurd ht (Nat.not_lt_zero _), fun t ht => absurd ht (Nat.not_lt_zero _)⟩
/-! contexts along the chain -/
theorem px_ctx (hc : c ≤ 32) (hRF : im_RF c K rf) (hFL : px_FL c K st stg dem inn s g) (hSC : px_SC c K A B C stg rf eo root s g ro) {d : Nat → Int32 × Int32} (hd : ∀ i, i < c → (im_D c K A B C i).1 ≠ 3 → d i = im_D c K A B C i ∨ d i = (3, 65534))
    {t : Nat} (ht : t < s) (h1 : stg (g t) ≠ 1) {j : Nat} (hj1 : 1 ≤ j) (hj2 : j < 16) (h : im_hs j (im_g c d (ro t))) : im_hs j (im_dq c K A B C d (g t)) := by
  obtain ⟨hgc, ⟨_, hk⟩, h123⟩ := hFL.1 t ht
  have hr : im_bn (K (g t)) ∨ rf (g t) = 0 := (hRF (g t) (by omega)).elim (fun z => Or.inr z) (fun z => Or.inl z.2.2)
  have hFS := hSC.2.2 t ht
  rcases h123 with e | e | e
  · exact absurd e h1
  · rw [hFS.1 e] at h
    exact im_ctx1 hk hr h
  · obtain ⟨w, hw, hg, _, hb, hn⟩ := hFS.2 e
    refine im_ctx2 hk hr hw ?_ hb hn hj1 hj2 h
    rw [← hg]
    rcases pk_ix (if rf (g t) = 0 then A (g t) else B (g t)) (show c < 2 ^ 31 by omega) with z | z | ⟨i, hi, ei⟩
    · left; rw [im_g_out d (Or.inl z), im_g_out _ (Or.inl z)]
    · left; rw [im_g_out d (Or.inr z), im_g_out _ (Or.inr z)]
    · rw [ei] at hg ⊢
      rw [im_g_in hc _ hi] at hg
      rw [im_g_in hc _ hi, im_g_in hc _ hi]
      exact hd i hi (by rw [hg]; exact im_wf_ne hw)
theorem px_dn (hc : c ≤ 32) (hp : im_Pr c K A B C) (hRF : im_RF c K rf) (hFL : px_FL c K st stg dem inn s g) (hSC : px_SC c K A B C stg rf eo root s g ro) {j : Nat} (hj1 : 1 ≤ j) (hj2 : j < 16) : ∀ t, t < s → im_hs j (im_D c K A B C (g t)) → im_hs j (im_g c (im_D c K A B C) root)
  | 0, ht, h => by
    rw [hSC.1 ht, im_g_in hc _ (hFL.1 0 ht).1]; exact h
  | t + 1, ht, h => by
    refine px_dn hc hp hRF hFL hSC hj1 hj2 t (by omega) ?_
    rw [im_D_fix hc hp (hFL.1 t (by omega)).1]
    refine px_ctx hc hRF hFL hSC (fun i _ _ => Or.inl rfl) (by omega) (hFL.2.2.2.2.2 t ht) hj1 hj2 ?_
    rw [hSC.2.1 t ht, im_g_in hc _ (hFL.1 (t + 1) ht).1]; exact h
theorem px_prop (hc : c ≤ 32) (hp : im_Pr c K A B C) (hRF : im_RF c K rf) (hFL : px_FL c K st stg dem inn s g) (hSC : px_SC c K A B C stg rf eo root s g ro) (hP : ∀ t, t < s → stg (g t) ≠ 1) {r e : Int32} (hr : px_pe root s ro r) (h : im_cd e (im_g c (im_D c K A B C) r)) : im_cd e (im_g c (im_D c K A B C) root) := by
  cases s with
  | zero => rw [hr.1 rfl]; exact h
  | succ t =>
    obtain ⟨j, hj1, hj2, ee, hh⟩ := h
    refine ⟨j, hj1, hj2, ee, px_dn hc hp hRF hFL hSC hj1 hj2 t (by omega) ?_⟩
    rw [im_D_fix hc hp (hFL.1 t (by omega)).1]
    refine px_ctx hc hRF hFL hSC (fun i _ _ => Or.inl rfl) (by omega) (hP t (by omega)) hj1 hj2 ?_
    have := hr.2 (by omega)
    rw [show t + 1 - 1 = t by omega] at this
    rw [this]; exact hh
/-- a node demanded again while active: every set on the way holds EXC_LOOP -/
theorem px_loop (hc : c ≤ 32) (hp : im_Pr c K A B C) (hRF : im_RF c K rf) (hFL : px_FL c K st stg dem inn s g) (hSC : px_SC c K A B C stg rf eo root s g ro) (hP : ∀ t, t < s → stg (g t) ≠ 1) {t0 : Nat} (ht0 : t0 < s) (hr : ro (s - 1) = nI (g t0)) : ∀ k, k ≤ 1024 → ∀ t, t0 ≤ t → t < s → im_hs 3 (im_it c K A B C k (g t))
  | 0, _, t, _, _ => im_hs_all (by omega) (by omega)
  | k + 1, hk, t, h0, ht => by
    rw [im_it_s k (hFL.1 t ht).1]
    refine px_ctx hc hRF hFL hSC (fun i _ hv => im_it_v (by omega) hp (1024 - k) k (by omega) i hv) ht (hP t ht) (by omega) (by omega) ?_
    by_cases z : t + 1 < s
    · rw [hSC.2.1 t z, im_g_in hc _ (hFL.1 (t + 1) z).1]
      exact px_loop hc hp hRF hFL hSC hP ht0 hr k (by omega) (t + 1) (by omega) z
    · rw [show t = s - 1 by omega, hr, im_g_in hc _ (hFL.1 t0 ht0).1]
      exact px_loop hc hp hRF hFL hSC hP ht0 hr k (by omega) t0 (by omega) ht0
/-! the chain's facts over a step -/
theorem px_SC_top {t : Nat} (hFL : px_FL c K st stg dem inn (t + 1) g) (h : px_SC c K A B C stg rf eo root (t + 1) g ro) {stg' rf' : Nat → Int32} {eo' : Nat → Int64} (hx : ∀ i, i ≠ g t → stg' i = stg i ∧ rf' i = rf i ∧ eo' i = eo i) {r : Int32} (hf : px_FS c K A B C stg' rf' eo' (g t) r) : px_SC c K A B C stg' rf' eo' root (t + 1) g (fun t' => if t' = t then r else ro t') ∧ px_pe root (t + 1) (fun t' => if t' = t then r else ro t') r := by
  refine ⟨⟨h.1, fun t' ht' => ?_, fun t' ht' => ?_⟩, fun z => absurd z (by omega), fun _ => if_pos (by omega)⟩
  · dsimp only
    rw [if_neg (by omega)]; exact h.2.1 t' ht'
  · dsimp only
    by_cases e : t' = t
    · rw [if_pos e, e]; exact hf
    · rw [if_neg e]
      have hg : g t' ≠ g t := fun w => e (hFL.2.1 t' t ht' (by omega) w)
      have q := h.2.2 t' ht'
      unfold px_FS at q ⊢
      rw [(hx _ hg).1, (hx _ hg).2.1, (hx _ hg).2.2]
      exact q
theorem px_SC_push (hFL : px_FL c K st stg dem inn s g) (h : px_SC c K A B C stg rf eo root s g ro) {j : Nat} (hs : stg j = 0) (hr : px_pe root s ro (nI j)) : px_SC c K A B C (upd stg j 1) rf eo root (s + 1) (fun t => if t = s then j else g t) ro := by
  have hne : ∀ t, t < s → g t ≠ j := fun t ht z => px_FL_stg hFL ht (by rw [z]; exact hs)
  refine ⟨fun _ => ?_, fun t ht => ?_, fun t ht => ?_⟩
  · dsimp only
    by_cases z : s = 0
    · rw [if_pos z.symm]; exact hr.1 z
    · rw [if_neg (by omega)]; exact h.1 (by omega)
  · dsimp only
    by_cases z : t + 1 = s
    · rw [if_pos z]
      have := hr.2 (by omega)
      rw [show s - 1 = t by omega] at this
      exact this
    · rw [if_neg z]; exact h.2.1 t (by omega)
  · dsimp only
    by_cases z : t = s
    · rw [if_pos z]
      unfold px_FS
      rw [pk_us]
      exact ⟨fun w => absurd w (by decide), fun w => absurd w (by decide)⟩
    · rw [if_neg z]
      have q := h.2.2 t (by omega)
      unfold px_FS at q ⊢
      rw [pk_un (hne t (by omega))]
      exact q
theorem px_SC_pop {t : Nat} (hFL : px_FL c K st stg dem inn (t + 1) g) (h : px_SC c K A B C stg rf eo root (t + 1) g ro) (q0 : Int32) : px_SC c K A B C (upd stg (g t) q0) rf eo root t g ro ∧ px_pe root t ro (nI (g t)) := by
  refine ⟨⟨fun z => h.1 (by omega), fun t' ht' => h.2.1 t' (by omega), fun t' ht' => ?_⟩, fun z => ?_, fun z => ?_⟩
  · have hg : g t' ≠ g t := fun w => by have := hFL.2.1 t' t (by omega) (by omega) w; omega
    have q := h.2.2 t' (by omega)
    unfold px_FS at q ⊢
    rw [pk_un hg]
    exact q
  · subst z; exact h.1 (by omega)
  · have := h.2.1 (t - 1) (by omega)
    rw [show t - 1 + 1 = t by omega] at this
    exact this
end
end
section
/-! the machine step by step, against the denotation -/
def px_SM (c : Nat) (K A B C st sv : Nat → Int32) : Prop := ∀ i, i < c → st i ≠ 3 → im_D c K A B C i = (st i, sv i)
def px_CF (cap : Int32) (c : Nat) (scr la : Int64) (K A B C : Nat → Int32) (dX nX : Nat → Int64) (root : Int32) (m : Nat) (u : St2) : Prop :=
  ∃ (sX : Nat → Int64) (inn : Int32) (dem stg rf : Nat → Int32) (eo : Nat → Int64) (xp : Int32) (ans : Int64) (st sv : Nat → Int32) (rk rv : Int32), u = (cap, nI c, scr, la, inn, xp, ans, K, A, B, C, sX, dX, nX, dem, stg, rf, eo) ∧
    im_ST c K A sX st sv ∧ im_RF c K rf ∧ (∀ i, c ≤ i → i < 32 → stg i = 0) ∧ px_SM c K A B C st sv ∧ ans = im_P rk rv ∧
    ((rk = 3 ∧ im_cd rv (im_g c (im_D c K A B C) root)) ∨ (rk ≠ 3 ∧ im_mu c st stg ≤ m ∧ ∃ s g ro, px_FL c K st stg dem inn s g ∧ px_SC c K A B C stg rf eo root s g ro ∧ ((0 < s ∧ stg (g (s - 1)) = 1) ∨ (im_vl c K (rk, rv) ∧ (∀ t, t < s → stg (g t) ≠ 1) ∧ ∃ r, px_pe root s ro r ∧ im_g c (im_D c K A B C) r = (rk, rv)))))
def im_XB (q : Int32) (post : St2 → Prop) (u : St2) (n : Nat) : Prop := (q = 1 ∧ wpX_demandFirst post u (nI n)) ∨ (q = 2 ∧ wpX_demandLast post u (nI n)) ∨ (q = 3 ∧ wpX_finish post u (nI n))
section
variable {cap : Int32} {c : Nat} {scr la : Int64} {K A B C : Nat → Int32} {dX nX : Nat → Int64} {sX : Nat → Int64} {inn : Int32} {dem stg rf : Nat → Int32} {eo : Nat → Int64} {xp : Int32} {ans : Int64} {st sv : Nat → Int32} {root rk rv : Int32} {m s t : Nat} {g : Nat → Nat} {ro : Nat → Int32}
theorem im_SGu (hSG : ∀ i, c ≤ i → i < 32 → stg i = 0) {n : Nat} (hn : n < c) (q : Int32) : ∀ i, c ≤ i → i < 32 → upd stg n q i = 0 := by
  intro i h1 h2
  rw [pk_un (by omega)]; exact hSG i h1 h2
theorem px_dem (hc : c ≤ 32) (hp : im_Pr c K A B C) (hST : im_ST c K A sX st sv) (hRF : im_RF c K rf) (hSG : ∀ i, c ≤ i → i < 32 → stg i = 0) (hSM : px_SM c K A B C st sv) (hm : im_mu c st stg ≤ m)
    (hFL : px_FL c K st stg dem inn s g) (hSC : px_SC c K A B C stg rf eo root s g ro) (hP : ∀ t, t < s → stg (g t) ≠ 1) {r : Int32} (hr : px_pe root s ro r) :
    ∃ u, px_CF cap c scr la K A B C dX nX root m u ∧ (∀ post : St2 → Prop, post u → wpX_demand post (cap, nI c, scr, la, inn, xp, ans, K, A, B, C, sX, dX, nX, dem, stg, rf, eo) r) := by
  have hpr : ∀ {e : Int32}, im_cd e (im_g c (im_D c K A B C) r) → im_cd e (im_g c (im_D c K A B C) root) := fun h => px_prop hc hp hRF hFL hSC hP hr h
  have hmiss : (r < 0 ∨ nI c ≤ r) → im_cd 4 (im_g c (im_D c K A B C) root) := fun z => hpr (by rw [im_g_out _ z]; exact ⟨4, by omega, by omega, rfl, rfl, im_bt164⟩)
  rcases pk_ix r (show c < 2 ^ 31 by omega) with z | z | ⟨j, hj, rfl⟩
  · exact ⟨_, ⟨_, _, _, _, _, _, _, _, _, _, _, _, rfl, hST, hRF, hSG, hSM, rfl, Or.inl ⟨rfl, hmiss (Or.inl z)⟩⟩, fun _ hp => xd_miss hc (Or.inl z) hp⟩
  · exact ⟨_, ⟨_, _, _, _, _, _, _, _, _, _, _, _, rfl, hST, hRF, hSG, hSM, rfl, Or.inl ⟨rfl, hmiss (Or.inr z)⟩⟩, fun _ hp => xd_miss hc (Or.inr z) hp⟩
  · obtain ⟨h1, h2, h3, h4, h5⟩ := hST j hj
    rcases h2 with ⟨e3, e0⟩ | hv
    · by_cases k1 : K j = 1
      · have hcd : im_cd (A j) (im_g c (im_D c K A B C) root) := by
          apply hpr
          rw [im_g_in hc _ hj, im_D_fix hc hp hj]
          have e : im_dq c K A B C (im_D c K A B C) j = (3, im_s1 (A j)) := by
            unfold im_dq
            rw [if_neg (by rw [k1]; decide), if_neg (by rw [k1]; decide), if_pos k1]
          rw [e]
          exact im_raise_cd ((hp j hj).2.1 k1)
        exact ⟨_, ⟨_, _, _, _, _, _, _, _, _, _, _, _, rfl, hST, hRF, hSG, hSM, rfl, Or.inl ⟨rfl, hcd⟩⟩, fun _ hp => xd_raise hc hj (by rw [h1, e3]) k1 hp⟩
      · have k0 : K j ≠ 0 := fun z => absurd ((h3 z).1.symm.trans e3) (by decide)
        have k9 : K j ≠ 9 := fun z => absurd ((h4 z).1.symm.trans e3) (by decide)
        by_cases hs : stg j = 0
        · have hF2 := px_FL_push hFL hj hs hP ⟨e3, k0, k1, k9⟩
          have hS2 := px_SC_push hFL hSC hs hr
          refine ⟨_, ⟨_, _, _, _, _, _, _, _, _, _, 0, 0, rfl, hST, hRF, im_SGu hSG hj 1, hSM, im_P00.symm, Or.inr ⟨by decide, ?_, s + 1, _, ro, hF2, hS2, Or.inl ⟨by omega, ?_⟩⟩⟩, fun _ hp => xd_enter hc hj (by rw [h1, e3]) k1 hs hp⟩
          · refine Nat.le_trans (Nat.le_of_lt (im_mu_lt j hj (fun i hi => ⟨rfl, pk_un hi⟩) ?_)) hm
            show im_wt (st j) (upd stg j 1 j) < im_wt (st j) (stg j)
            rw [pk_us, hs, e3]
            decide
          · rw [if_pos (by omega), pk_us]
        · rcases hFL.2.2.1 j (by omega) with z | ⟨t0, ht0, et⟩
          · exact absurd z hs
          · have hcd : im_cd 3 (im_g c (im_D c K A B C) root) := by
              apply hpr
              refine ⟨3, by omega, by omega, rfl, ?_⟩
              rw [im_g_in hc _ hj, ← et]
              exact px_loop hc hp hRF hFL hSC hP ht0 (by rw [et]; exact hr.2 (by omega)) 1024 (by omega) t0 (by omega) ht0
            exact ⟨_, ⟨_, _, _, _, _, _, _, _, _, _, _, _, rfl, hST, hRF, hSG, hSM, rfl, Or.inl ⟨rfl, hcd⟩⟩, fun _ hp => xd_loop hc hj (by rw [h1, e3]) k1 hs hp⟩
    · have hn3 : st j ≠ 3 := im_wf_ne hv
      exact ⟨_, ⟨_, _, _, _, _, _, _, _, _, _, _, _, rfl, hST, hRF, hSG, hSM, rfl, Or.inr ⟨hn3, hm, s, g, ro, hFL, hSC, Or.inr ⟨hv, hP, _, hr, by rw [im_g_in hc _ hj]; exact hSM j hj hn3⟩⟩⟩, fun _ hp => xd_val hc hj h1 hn3 hp⟩
theorem px_hPu (h : ∀ t', t' + 1 < t + 1 → stg (g t') ≠ 1) {q : Int32} (hq : q ≠ 1) : ∀ t', t' < t + 1 → upd stg (g t) q (g t') ≠ 1 := by
  intro t' ht
  by_cases e : g t' = g t
  · rw [e, pk_us]; exact hq
  · rw [pk_un e]
    by_cases e2 : t' = t
    · exact absurd (by rw [e2]) e
    · exact h t' (by omega)
theorem px_mu {n : Nat} (hn : n < c) (h3 : st n = 3) {a b : Int32} (ha : stg n = a) (hl : im_wt 3 b < im_wt 3 a) : im_mu c st (upd stg n b) < im_mu c st stg := by
  apply im_mu_lt n hn (fun i hi => ⟨rfl, pk_un hi⟩)
  show im_wt (st n) (upd stg n b n) < im_wt (st n) (stg n)
  rw [pk_us, ha, h3]
  exact hl
theorem px_st1 (hc : c ≤ 32) (hp : im_Pr c K A B C) (hST : im_ST c K A sX st sv) (hRF : im_RF c K rf) (hSG : ∀ i, c ≤ i → i < 32 → stg i = 0) (hSM : px_SM c K A B C st sv) (hm : im_mu c st stg ≤ m)
    (hFL : px_FL c K st stg dem inn (t + 1) g) (hSC : px_SC c K A B C stg rf eo root (t + 1) g ro) (h1 : stg (g t) = 1) :
    0 < m ∧ ∃ u, px_CF cap c scr la K A B C dX nX root (m - 1) u ∧ (∀ post : St2 → Prop, post u → im_XB (stg (g t)) post (cap, nI c, scr, la, inn, xp, ans, K, A, B, C, sX, dX, nX, dem, stg, rf, eo) (g t)) := by
  have hF := hFL.1 t (by omega)
  have hmu := px_mu (c := c) (st := st) (stg := stg) (b := 2) hF.1 hF.2.1.1 h1 (by decide)
  have hFL2 := px_FL_top hFL (q := 2) (Or.inl rfl)
  by_cases hb : im_bn (K (g t))
  · have hbit := im_bt01 scr xp
    generalize hbe : im_bt scr xp = b at hbit
    have hRF2 : im_RF c K (upd rf (g t) b) := by
      intro i hi
      by_cases e : i = g t
      · subst e; rw [pk_us]
        exact hbit.imp id (fun z => ⟨z, hF.1, hb⟩)
      · rw [pk_un e]; exact hRF i hi
    have hS := px_SC_top (stg' := upd stg (g t) 2) (rf' := upd rf (g t) b) (eo' := eo) (r := if b = 0 then A (g t) else B (g t)) hFL hSC (fun i hi => ⟨pk_un hi, pk_un hi, rfl⟩) ⟨fun _ => by rw [pk_us], fun z => absurd (pk_us.symm.trans z) (by decide)⟩
    obtain ⟨u, hC, hX⟩ := px_dem (cap := cap) (scr := scr) (la := la) (dX := dX) (nX := nX) (xp := (xp + 1) &&& 63) (ans := ans) (m := m - 1) hc hp hST hRF2 (im_SGu hSG hF.1 2) hSM (by omega) hFL2 hS.1 (px_hPu hFL.2.2.2.2.2 (by decide)) hS.2
    exact ⟨by omega, u, hC, fun post hp => Or.inl ⟨h1, xs_first_b hc hF.1 hb hbe hbit (hX post hp)⟩⟩
  · have hr0 : rf (g t) = 0 := by
      rcases hRF (g t) (by omega) with z | z
      · exact z
      · exact absurd z.2.2 hb
    have hS := px_SC_top (stg' := upd stg (g t) 2) (rf' := rf) (eo' := eo) (r := A (g t)) hFL hSC (fun i hi => ⟨pk_un hi, rfl, rfl⟩) ⟨fun _ => by rw [if_pos hr0], fun z => absurd (pk_us.symm.trans z) (by decide)⟩
    obtain ⟨u, hC, hX⟩ := px_dem (cap := cap) (scr := scr) (la := la) (dX := dX) (nX := nX) (xp := xp) (ans := ans) (m := m - 1) hc hp hST hRF (im_SGu hSG hF.1 2) hSM (by omega) hFL2 hS.1 (px_hPu hFL.2.2.2.2.2 (by decide)) hS.2
    exact ⟨by omega, u, hC, fun post hp => Or.inl ⟨h1, xs_first_n hc hF.1 hb hr0 (hX post hp)⟩⟩
theorem px_st2 (hc : c ≤ 32) (hp : im_Pr c K A B C) (hST : im_ST c K A sX st sv) (hRF : im_RF c K rf) (hSG : ∀ i, c ≤ i → i < 32 → stg i = 0) (hSM : px_SM c K A B C st sv) (hm : im_mu c st stg ≤ m)
    (hFL : px_FL c K st stg dem inn (t + 1) g) (hSC : px_SC c K A B C stg rf eo root (t + 1) g ro) (h1 : stg (g t) = 2) (hans : ans = im_P rk rv) (hv : im_vl c K (rk, rv)) (hrv : im_g c (im_D c K A B C) (ro t) = (rk, rv)) :
    0 < m ∧ ∃ u, px_CF cap c scr la K A B C dX nX root (m - 1) u ∧ (∀ post : St2 → Prop, post u → im_XB (stg (g t)) post (cap, nI c, scr, la, inn, xp, ans, K, A, B, C, sX, dX, nX, dem, stg, rf, eo) (g t)) := by
  have hF := hFL.1 t (by omega)
  have hmu := px_mu (c := c) (st := st) (stg := stg) (b := 3) hF.1 hF.2.1.1 h1 (by decide)
  have hFL2 := px_FL_top hFL (q := 3) (Or.inr rfl)
  have hfirst : im_g c (im_D c K A B C) (if rf (g t) = 0 then A (g t) else B (g t)) = (rk, rv) := by
    rw [← (hSC.2.2 t (by omega)).1 h1]; exact hrv
  by_cases hb : im_bn (K (g t))
  · have hr01 : rf (g t) = 0 ∨ rf (g t) = 1 := (hRF (g t) (by omega)).imp id (fun z => z.1)
    have hne : (if rf (g t) = 0 then B (g t) else A (g t)) ≠ -1 := by
      obtain ⟨_, _, p3, p4, _⟩ := hp (g t) hF.1
      split
      · refine p4 hF.2.1.2.1 hF.2.1.2.2.1 ?_ ?_
        · intro z; rw [z] at hb; exact absurd hb.2 (by decide)
        · intro z; rw [z] at hb; exact absurd hb.2 (by decide)
      · exact p3 hF.2.1.2.1 hF.2.1.2.2.1
    have hS := px_SC_top (stg' := upd stg (g t) 3) (rf' := rf) (eo' := vp_updL eo (g t) ans) (r := if rf (g t) = 0 then B (g t) else A (g t)) hFL hSC (fun i hi => ⟨pk_un hi, rfl, pk_uLn hi⟩) ⟨fun z => absurd (pk_us.symm.trans z) (by decide), fun _ => ⟨(rk, rv), hv, hfirst, by rw [pk_uLs, hans], fun _ => rfl, fun z => absurd hb z⟩⟩
    obtain ⟨u, hC, hX⟩ := px_dem (cap := cap) (scr := scr) (la := la) (dX := dX) (nX := nX) (xp := xp) (ans := ans) (m := m - 1) hc hp hST hRF (im_SGu hSG hF.1 3) hSM (by omega) hFL2 hS.1 (px_hPu hFL.2.2.2.2.2 (by decide)) hS.2
    exact ⟨by omega, u, hC, fun post hp => Or.inr (Or.inl ⟨h1, xs_last_b hc hF.1 hb hr01 hne (hX post hp)⟩)⟩
  · have hr0 : rf (g t) = 0 := by
      rcases hRF (g t) (by omega) with z | z
      · exact z
      · exact absurd z.2.2 hb
    rw [if_pos hr0] at hfirst
    cases hct : im_ct c K A B C (g t) (rk, rv) with
    | none =>
      have hcd : im_cd 2 (im_g c (im_D c K A B C) root) := by
        refine ⟨2, by omega, by omega, rfl, px_dn hc hp hRF hFL hSC (by omega) (by omega) t (by omega) ?_⟩
        rw [im_D_fix hc hp hF.1, im_valn hF.2.1.2 hb hv hfirst, hct]
        exact ⟨rfl, im_bt42⟩
      exact ⟨by omega, _, ⟨_, _, _, _, _, _, _, _, _, _, _, _, rfl, hST, hRF, im_SGu hSG hF.1 3, hSM, rfl, Or.inl ⟨rfl, hcd⟩⟩, fun post hp => Or.inr (Or.inl ⟨h1, xs_last_none hc hF.1 hF.2.1.2 hb hans hv hct hp⟩)⟩
    | some r =>
      have hne := im_ct_ne hp hF.1 hF.2.1.2.1 hF.2.1.2.2.1 hb hv hc hct
      have hS := px_SC_top (stg' := upd stg (g t) 3) (rf' := rf) (eo' := vp_updL eo (g t) ans) (r := r) hFL hSC (fun i hi => ⟨pk_un hi, rfl, pk_uLn hi⟩) ⟨fun z => absurd (pk_us.symm.trans z) (by decide), fun _ => ⟨(rk, rv), hv, by rw [if_pos hr0]; exact hfirst, by rw [pk_uLs, hans], fun z => absurd z hb, fun _ => hct⟩⟩
      obtain ⟨u, hC, hX⟩ := px_dem (cap := cap) (scr := scr) (la := la) (dX := dX) (nX := nX) (xp := xp) (ans := ans) (m := m - 1) hc hp hST hRF (im_SGu hSG hF.1 3) hSM (by omega) hFL2 hS.1 (px_hPu hFL.2.2.2.2.2 (by decide)) hS.2
      exact ⟨by omega, u, hC, fun post hp => Or.inr (Or.inl ⟨h1, xs_last_some hc hF.1 hF.2.1.2 hb hans hv hct hne (hX post hp)⟩)⟩
theorem px_fin (hc : c ≤ 32) (hST : im_ST c K A sX st sv) (hRF : im_RF c K rf) (hSG : ∀ i, c ≤ i → i < 32 → stg i = 0) (hSM : px_SM c K A B C st sv) (hm : im_mu c st stg ≤ m)
    (hFL : px_FL c K st stg dem inn (t + 1) g) (hSC : px_SC c K A B C stg rf eo root (t + 1) g ro) {k v : Int32} (hv : im_vl c K (k, v)) (hD : im_D c K A B C (g t) = (k, v)) :
    0 < m ∧ px_CF cap c scr la K A B C dX nX root (m - 1) (cap, nI c, scr, la, dem (g t), xp, im_P k v, K, A, B, C, vp_updL sX (g t) (im_P k v), dX, nX, dem, upd stg (g t) 0, rf, eo) := by
  have hF := hFL.1 t (by omega)
  have hn3 : k ≠ 3 := im_wf_ne hv
  have hmu : im_mu c (upd st (g t) k) (upd stg (g t) 0) < im_mu c st stg := by
    apply im_mu_lt (g t) hF.1 (fun i hi => ⟨pk_un hi, pk_un hi⟩)
    show im_wt (upd st (g t) k (g t)) (upd stg (g t) 0 (g t)) < im_wt (st (g t)) (stg (g t))
    rw [pk_us, pk_us, hF.2.1.1]
    unfold im_wt
    rw [if_neg hn3, if_pos rfl]
    repeat' split
    all_goals omega
  have hS := px_SC_pop hFL hSC 0
  have hSM2 : px_SM c K A B C (upd st (g t) k) (upd sv (g t) v) := by
    intro i hi
    by_cases e : i = g t
    · subst e; rw [pk_us, pk_us]; exact fun _ => hD
    · rw [pk_un e, pk_un e]; exact hSM i hi
  have hP2 : ∀ t', t' < t → upd stg (g t) 0 (g t') ≠ 1 := by
    intro t' ht'
    have hg : g t' ≠ g t := fun w => by have := hFL.2.1 t' t (by omega) (by omega) w; omega
    rw [pk_un hg]; exact hFL.2.2.2.2.2 t' (by omega)
  exact ⟨by omega, _, _, _, _, _, _, _, _, _, _, _, _, rfl, im_ST_up hST hv hF.2.1.2, hRF, im_SGu hSG hF.1 0, hSM2, rfl, Or.inr ⟨hn3, by omega, t, g, ro, px_FL_pop hFL k, hS.1, Or.inr ⟨hv, hP2, _, hS.2, by rw [im_g_in hc _ hF.1]; exact hD⟩⟩⟩
theorem px_st3 (hc : c ≤ 32) (hp : im_Pr c K A B C) (hST : im_ST c K A sX st sv) (hRF : im_RF c K rf) (hSG : ∀ i, c ≤ i → i < 32 → stg i = 0) (hSM : px_SM c K A B C st sv) (hm : im_mu c st stg ≤ m)
    (hFL : px_FL c K st stg dem inn (t + 1) g) (hSC : px_SC c K A B C stg rf eo root (t + 1) g ro) (h1 : stg (g t) = 3) (hans : ans = im_P rk rv) (hv : im_vl c K (rk, rv)) (hrv : im_g c (im_D c K A B C) (ro t) = (rk, rv)) :
    0 < m ∧ ∃ u, px_CF cap c scr la K A B C dX nX root (m - 1) u ∧ (∀ post : St2 → Prop, post u → im_XB (stg (g t)) post (cap, nI c, scr, la, inn, xp, ans, K, A, B, C, sX, dX, nX, dem, stg, rf, eo) (g t)) := by
  have hF := hFL.1 t (by omega)
  have hmp := im_mu_pos (stg := stg) hF.1 hF.2.1.1
  obtain ⟨w, hw, hfirst, heo, hqb, hqn⟩ := (hSC.2.2 t (by omega)).2 h1
  by_cases hb : im_bn (K (g t))
  · have hr01 : rf (g t) = 0 ∨ rf (g t) = 1 := (hRF (g t) (by omega)).imp id (fun z => z.1)
    rw [hqb hb] at hrv
    have hDn : im_D c K A B C (g t) = im_bin (K (g t)) (if rf (g t) = 0 then (w.1, w.2) else (rk, rv)) (if rf (g t) = 0 then (rk, rv) else (w.1, w.2)) := by
      rw [im_D_fix hc hp hF.1, im_valb hF.2.1.2 hb]
      by_cases z : rf (g t) = 0
      · rw [if_pos z] at hfirst hrv
        rw [if_pos z, if_pos z, hfirst, hrv]
      · rw [if_neg z] at hfirst hrv
        rw [if_neg z, if_neg z, hfirst, hrv]
    have hvl : im_vl c K (if rf (g t) = 0 then (w.1, w.2) else (rk, rv)) := by split; exact hw; exact hv
    have hvr : im_vl c K (if rf (g t) = 0 then (rk, rv) else (w.1, w.2)) := by split; exact hv; exact hw
    generalize hcb : im_cb (K (g t)) (if rf (g t) = 0 then (w.1, w.2) else (rk, rv)) (if rf (g t) = 0 then (rk, rv) else (w.1, w.2)) = q
    by_cases q3 : q.1 = 3
    · have hcd : im_cd q.2 (im_g c (im_D c K A B C) root) := by
        have h := im_cb_x hvl hvr (show (im_cb (K (g t)) (if rf (g t) = 0 then (w.1, w.2) else (rk, rv)) (if rf (g t) = 0 then (rk, rv) else (w.1, w.2))).1 = 3 by rw [hcb]; exact q3)
        rw [hcb, ← hDn] at h
        obtain ⟨j, hj1, hj2, ee, hh⟩ := h
        exact ⟨j, hj1, hj2, ee, px_dn hc hp hRF hFL hSC hj1 hj2 t (by omega) hh⟩
      exact ⟨by omega, _, ⟨_, _, _, _, _, _, _, _, _, _, _, _, rfl, hST, hRF, hSG, hSM, rfl, Or.inl ⟨rfl, hcd⟩⟩, fun post hp => Or.inr (Or.inr ⟨h1, xs_fin_bx hc hF.1 hb hr01 hans heo hcb q3 hp⟩)⟩
    · have q1 : q.1 = 1 := by rw [← hcb]; rw [← hcb] at q3; exact im_cb_1 q3
      have hD2 : im_D c K A B C (g t) = (1, q.2) := by
        rw [hDn, im_cb_v hvl hvr (by rw [hcb]; exact q1), hcb]
        exact Prod.ext q1 rfl
      have hE := px_fin (cap := cap) (scr := scr) (la := la) (dX := dX) (nX := nX) (xp := xp) hc hST hRF hSG hSM hm hFL hSC (k := 1) (v := q.2) (Or.inl rfl) hD2
      exact ⟨hE.1, _, hE.2, fun post hp => Or.inr (Or.inr ⟨h1, xs_fin_bv hc hF.1 hb hr01 hans heo hcb q1 hp⟩)⟩
  · have hr0 : rf (g t) = 0 := by
      rcases hRF (g t) (by omega) with z | z
      · exact z
      · exact absurd z.2.2 hb
    rw [if_pos hr0] at hfirst
    have hD2 : im_D c K A B C (g t) = (rk, rv) := by
      rw [im_D_fix hc hp hF.1, im_valn hF.2.1.2 hb hw hfirst, hqn hb]
      exact hrv
    have hE := px_fin (cap := cap) (scr := scr) (la := la) (dX := dX) (nX := nX) (xp := xp) hc hST hRF hSG hSM hm hFL hSC hv hD2
    exact ⟨hE.1, _, hE.2, fun post hp => Or.inr (Or.inr ⟨h1, xs_fin_n hc hF.1 hb hans (im_wf_ne hv) hp⟩)⟩
end
end
section
/-! a run to its end, against the denotation -/
def im_LX (post : St2 → Prop) (n : Nat) (i : Int32) (u : St2) : Prop := match u with
  | (cap, cn, scr, la, inn, xp, ans, K, A, B, C, sX, dX, nX, dem, stg, rf, eo) => wX_evaluate_17 post n i cap cn scr la inn xp ans K A B C sX dX nX dem stg rf eo
def im_KX (post : St2 → Prop) (n : Nat) (i : Int32) : St2 → Prop := fun u => match u with
  | (cap, cn, scr, la, inn, xp, ans, K, A, B, C, sX, dX, nX, dem, stg, rf, eo) => ∀ x : Int32, x = i + 1 → wX_evaluate_17 post n x cap cn scr la inn xp ans K A B C sX dX nX dem stg rf eo
theorem im_KX_of {post : St2 → Prop} {n i : Nat} : ∀ {u : St2}, im_LX post n (nI (i + 1)) u → im_KX post n (nI i) u
  | (cap, cn, scr, la, inn, xp, ans, K, A, B, C, sX, dX, nX, dem, stg, rf, eo), h => fun x ex => by rw [ex, nI_1]; exact h
theorem im_LX_ex {post : St2 → Prop} {n : Nat} : ∀ {u : St2}, im_LX post n (nI 0) u → (match u with | (cap, cn, scr, la, inn, xp, ans, K, A, B, C, sX, dX, nX, dem, stg, rf, eo) => ∃ n17 : Nat, wX_evaluate_17 post n17 0 cap cn scr la inn xp ans K A B C sX dX nX dem stg rf eo)
  | (cap, cn, scr, la, inn, xp, ans, K, A, B, C, sX, dX, nX, dem, stg, rf, eo), h => ⟨n, h⟩
def px_CE (cap : Int32) (c : Nat) (scr la : Int64) (K A B C : Nat → Int32) (dX nX : Nat → Int64) (root : Int32) (u : St2) : Prop :=
  ∃ (sX : Nat → Int64) (inn : Int32) (dem stg rf : Nat → Int32) (eo : Nat → Int64) (xp : Int32) (ans : Int64) (st sv : Nat → Int32) (rk rv : Int32), u = (cap, nI c, scr, la, inn, xp, ans, K, A, B, C, sX, dX, nX, dem, stg, rf, eo) ∧
    im_ST c K A sX st sv ∧ im_RF c K rf ∧ (∀ i, c ≤ i → i < 32 → stg i = 0) ∧ px_SM c K A B C st sv ∧ ans = im_P rk rv ∧
    ((rk = 3 ∧ im_cd rv (im_g c (im_D c K A B C) root)) ∨ (im_vl c K (rk, rv) ∧ im_g c (im_D c K A B C) root = (rk, rv)))
section
variable {cap : Int32} {c : Nat} {scr la : Int64} {K A B C : Nat → Int32} {dX nX : Nat → Int64} {sX : Nat → Int64} {inn : Int32} {dem stg rf : Nat → Int32} {eo : Nat → Int64} {xp : Int32} {ans : Int64} {st sv : Nat → Int32} {root rk rv : Int32}
theorem xr_exit3 {post : St2 → Prop} (hc : c ≤ 32) {n : Nat} {x v : Int32} (h : post (cap, nI c, scr, la, inn, xp, im_P 3 v, K, A, B, C, sX, dX, nX, dem, stg, rf, eo)) : wX_evaluate_17 post (n + 1) x cap (nI c) scr la inn xp (im_P 3 v) K A B C sX dX nX dem stg rf eo := by
  rw [wX_evaluate_17]
  refine br_c (fun _ => h) (fun _ => ?_)
  rcases pk_ix inn (show c < 2 ^ 31 by omega) with z | z | ⟨j, hj, rfl⟩
  · exact xo_isNode_f hc (Or.inl z) (br_t rfl h)
  · exact xo_isNode_f hc (Or.inr z) (br_t rfl h)
  · exact xo_isNode_t hc hj (br_f (by decide) (xo_kindOf (br_t rfl h)))
theorem xr_exit0 {post : St2 → Prop} (hc : c ≤ 32) {n : Nat} {x : Int32} (h : post (cap, nI c, scr, la, -1, xp, ans, K, A, B, C, sX, dX, nX, dem, stg, rf, eo)) : wX_evaluate_17 post (n + 1) x cap (nI c) scr la (-1) xp ans K A B C sX dX nX dem stg rf eo := by
  rw [wX_evaluate_17]
  exact br_c (fun _ => h) (fun _ => xo_isNode_f hc (Or.inl (by decide)) (br_t rfl h))
theorem xr_step {post : St2 → Prop} (hc : c ≤ 32) {n i j : Nat} (hi : i < 1024) (hj : j < c) (h3 : rk ≠ 3) (h : im_XB (stg j) (im_KX post n (nI i)) (cap, nI c, scr, la, nI j, xp, im_P rk rv, K, A, B, C, sX, dX, nX, dem, stg, rf, eo) j) : wX_evaluate_17 post (n + 1) (nI i) cap (nI c) scr la (nI j) xp (im_P rk rv) K A B C sX dX nX dem stg rf eo := by
  have cl : (nI j).toNatClampNeg = j := nI_clamp (by omega)
  have vj : vp_in (nI j) 32 := vp_in_nI (by omega) (by decide)
  rw [wX_evaluate_17]
  refine br_f (nI_ge (b := 1024) hi (by decide)) (xo_isNode_t hc hj (br_f (by decide) (xo_kindOf (br_f h3 ⟨vj, ?_⟩))))
  rw [cl]
  rcases h with ⟨q, h⟩ | ⟨q, h⟩ | ⟨q, h⟩
  · exact br_t q h
  · exact br_f (by rw [q]; decide) ⟨vj, br_t q h⟩
  · exact br_f (by rw [q]; decide) ⟨vj, br_f (by rw [q]; decide) h⟩
theorem px_any {t : Nat} {g : Nat → Nat} {ro : Nat → Int32} {m : Nat} (hc : c ≤ 32) (hp : im_Pr c K A B C) (hST : im_ST c K A sX st sv) (hRF : im_RF c K rf) (hSG : ∀ i, c ≤ i → i < 32 → stg i = 0) (hSM : px_SM c K A B C st sv) (hm : im_mu c st stg ≤ m)
    (hFL : px_FL c K st stg dem inn (t + 1) g) (hSC : px_SC c K A B C stg rf eo root (t + 1) g ro) (hans : ans = im_P rk rv) (hv : stg (g t) ≠ 1 → im_vl c K (rk, rv) ∧ im_g c (im_D c K A B C) (ro t) = (rk, rv)) :
    0 < m ∧ ∃ u, px_CF cap c scr la K A B C dX nX root (m - 1) u ∧ (∀ post : St2 → Prop, post u → im_XB (stg (g t)) post (cap, nI c, scr, la, inn, xp, ans, K, A, B, C, sX, dX, nX, dem, stg, rf, eo) (g t)) := by
  rcases (hFL.1 t (by omega)).2.2 with q | q | q
  · exact px_st1 hc hp hST hRF hSG hSM hm hFL hSC q
  · have h := hv (by rw [q]; decide)
    exact px_st2 hc hp hST hRF hSG hSM hm hFL hSC q hans h.1 h.2
  · have h := hv (by rw [q]; decide)
    exact px_st3 hc hp hST hRF hSG hSM hm hFL hSC q hans h.1 h.2
theorem px_run (hc : c ≤ 32) (hp : im_Pr c K A B C) : ∀ (m : Nat) (u : St2), px_CF cap c scr la K A B C dX nX root m u →
    ∃ u', px_CE cap c scr la K A B C dX nX root u' ∧ (∀ (post : St2 → Prop) (n i : Nat), m < n → i + m ≤ 1024 → post u' → im_LX post n (nI i) u) := by
  intro m
  induction m with
  | zero =>
    rintro u ⟨sX, inn, dem, stg, rf, eo, xp, ans, st, sv, rk, rv, rfl, hST, hRF, hSG, hSM, hans, hE⟩
    subst hans
    rcases hE with ⟨rfl, hcd⟩ | ⟨h3, hm, s, g, ro, hFL, hSC, hE⟩
    · refine ⟨(cap, nI c, scr, la, inn, xp, im_P 3 rv, K, A, B, C, sX, dX, nX, dem, stg, rf, eo), ⟨_, _, _, _, _, _, _, _, _, _, _, _, rfl, hST, hRF, hSG, hSM, rfl, Or.inl ⟨rfl, hcd⟩⟩, fun post n i hn _ h => ?_⟩
      obtain ⟨n, rfl⟩ : ∃ k, n = k + 1 := ⟨n - 1, by omega⟩
      exact xr_exit3 hc h
    · cases s with
      | zero =>
        have hv := hE.resolve_left (fun z => absurd z.1 (Nat.lt_irrefl 0))
        obtain ⟨hvl, _, r, hr, hg⟩ := hv
        have hi : inn = -1 := hFL.2.2.2.1
        subst hi
        refine ⟨(cap, nI c, scr, la, -1, xp, im_P rk rv, K, A, B, C, sX, dX, nX, dem, stg, rf, eo), ⟨_, _, _, _, _, _, _, _, _, _, _, _, rfl, hST, hRF, hSG, hSM, rfl, Or.inr ⟨hvl, by rw [hr.1 rfl]; exact hg⟩⟩, fun post n i hn _ h => ?_⟩
        obtain ⟨n, rfl⟩ : ∃ k, n = k + 1 := ⟨n - 1, by omega⟩
        exact xr_exit0 hc h
      | succ t =>
        have hF := hFL.1 t (by omega)
        have := im_mu_pos (stg := stg) hF.1 hF.2.1.1
        omega
  | succ m ih =>
    rintro u ⟨sX, inn, dem, stg, rf, eo, xp, ans, st, sv, rk, rv, rfl, hST, hRF, hSG, hSM, hans, hE⟩
    rcases hE with ⟨rfl, hcd⟩ | ⟨h3, hm, s, g, ro, hFL, hSC, hE⟩
    · subst hans
      refine ⟨(cap, nI c, scr, la, inn, xp, im_P 3 rv, K, A, B, C, sX, dX, nX, dem, stg, rf, eo), ⟨_, _, _, _, _, _, _, _, _, _, _, _, rfl, hST, hRF, hSG, hSM, rfl, Or.inl ⟨rfl, hcd⟩⟩, fun post n i hn _ h => ?_⟩
      obtain ⟨n, rfl⟩ : ∃ k, n = k + 1 := ⟨n - 1, by omega⟩
      exact xr_exit3 hc h
    · cases s with
      | zero =>
        subst hans
        have hv := hE.resolve_left (fun z => absurd z.1 (Nat.lt_irrefl 0))
        obtain ⟨hvl, _, r, hr, hg⟩ := hv
        have hi : inn = -1 := hFL.2.2.2.1
        subst hi
        refine ⟨(cap, nI c, scr, la, -1, xp, im_P rk rv, K, A, B, C, sX, dX, nX, dem, stg, rf, eo), ⟨_, _, _, _, _, _, _, _, _, _, _, _, rfl, hST, hRF, hSG, hSM, rfl, Or.inr ⟨hvl, by rw [hr.1 rfl]; exact hg⟩⟩, fun post n i hn _ h => ?_⟩
        obtain ⟨n, rfl⟩ : ∃ k, n = k + 1 := ⟨n - 1, by omega⟩
        exact xr_exit0 hc h
      | succ t =>
        have hF := hFL.1 t (by omega)
        have hinn : inn = nI (g t) := hFL.2.2.2.1
        have hv : stg (g t) ≠ 1 → im_vl c K (rk, rv) ∧ im_g c (im_D c K A B C) (ro t) = (rk, rv) := fun z => by
          rcases hE with w | ⟨hvl, _, r, hr, hg⟩
          · exact absurd w.2 z
          · have e : ro t = r := hr.2 (by omega)
            exact ⟨hvl, by rw [e]; exact hg⟩
        obtain ⟨_, u1, hC, hX⟩ := px_any (cap := cap) (scr := scr) (la := la) (dX := dX) (nX := nX) (xp := xp) (m := m + 1) hc hp hST hRF hSG hSM hm hFL hSC hans hv
        obtain ⟨u2, hCE, hX2⟩ := ih u1 hC
        refine ⟨u2, hCE, fun post n i hn hi h => ?_⟩
        obtain ⟨n, rfl⟩ : ∃ k, n = k + 1 := ⟨n - 1, by omega⟩
        have q := hX (im_KX post n (nI i)) (im_KX_of (hX2 post n (i + 1) (by omega) (by omega) h))
        subst hans
        subst hinn
        exact xr_step hc (by omega) hF.1 h3 q
end
end
section
/-! a node is taken or refused -/
def im_us (k : Int32) : Int32 := if k = 0 then 0 else if k = 1 then 0 else if k = 10 then 1 else if k = 11 then 1 else if k = 7 then 3 else 2
def im_rf (p : Nat) (x : Int32) : Prop := ¬ x < 0 ∧ ¬ nI p ≤ x
def im_acc (p c : Nat) (k a b d : Int32) : Prop := c < p ∧ (0 ≤ k ∧ k ≤ 11) ∧ (k = 1 → 5 ≤ a ∧ a ≤ 15) ∧ (im_us k < 1 ∨ im_rf p a) ∧ (im_us k < 2 ∨ im_rf p b) ∧ (im_us k < 3 ∨ im_rf p d)
theorem im_rf_ne {p : Nat} {x : Int32} (h : im_rf p x) : x ≠ -1 := fun z => h.1 (by rw [z]; decide)
theorem im_acc_ok {p c : Nat} {k a b d : Int32} (h : im_acc p c k a b d) : im_ok k a b d := by
  obtain ⟨_, h1, h2, h3, h4, h5⟩ := h
  refine ⟨h1, h2, fun k0 k1 => ?_, fun k0 k1 k10 k11 => ?_, fun k7 => ?_⟩
  · refine im_rf_ne (h3.resolve_left ?_)
    unfold im_us
    rw [if_neg k0, if_neg k1]
    repeat' split
    all_goals decide
  · refine im_rf_ne (h4.resolve_left ?_)
    unfold im_us
    rw [if_neg k0, if_neg k1, if_neg k10, if_neg k11]
    repeat' split
    all_goals decide
  · refine im_rf_ne (h5.resolve_left ?_)
    rw [k7]; decide
section
variable {p c : Nat} {scr la : Int64} {K A B C : Nat → Int32} {dX nX : Nat → Int64} {sX : Nat → Int64} {inn : Int32} {dem stg rf : Nat → Int32} {eo : Nat → Int64} {xp : Int32} {ans : Int64}
theorem xo_isRef {post : Int32 → Prop} {x : Int32} (h1 : im_rf p x → post 1) (h0 : ¬ im_rf p x → post 0) : wpX_isReference post (nI p, nI c, scr, la, inn, xp, ans, K, A, B, C, sX, dX, nX, dem, stg, rf, eo) x := by
  unfold wpX_isReference
  exact br_c (fun z => h0 (fun w => w.1 z)) (fun z => br_c (fun w => h0 (fun q => q.2 w)) (fun w => h1 ⟨z, w⟩))
theorem xo_used {post : Int32 → Prop} {k : Int32} (h0 : 0 ≤ k) (h11 : k ≤ 11) (h : post (im_us k)) : wpX_referencesUsed post () k := by
  unfold wpX_referencesUsed
  refine br_f (Int32.not_lt.mpr h0) (br_f (Int32.not_lt.mpr h11) ?_)
  refine br_c (fun e => ?_) (fun _ => br_c (fun e => ?_) (fun _ => br_c (fun e => ?_) (fun _ => br_c (fun e => ?_) (fun _ => br_c (fun e => ?_) (fun _ => br_c (fun e => ?_) (fun _ => br_c (fun e => ?_) (fun _ => br_c (fun e => ?_) (fun _ => br_c (fun e => ?_) (fun _ => br_c (fun e => ?_) (fun _ => br_c (fun e => ?_) (fun _ => br_c (fun e => ?_) (fun _ => trivial))))))))))))
  · rw [e, show im_us 0 = 0 by decide] at h; exact h
  · rw [e, show im_us 1 = 0 by decide] at h; exact h
  · rw [e, show im_us 2 = 2 by decide] at h; exact h
  · rw [e, show im_us 3 = 2 by decide] at h; exact h
  · rw [e, show im_us 4 = 2 by decide] at h; exact h
  · rw [e, show im_us 5 = 2 by decide] at h; exact h
  · rw [e, show im_us 6 = 2 by decide] at h; exact h
  · rw [e, show im_us 7 = 3 by decide] at h; exact h
  · rw [e, show im_us 8 = 2 by decide] at h; exact h
  · rw [e, show im_us 9 = 2 by decide] at h; exact h
  · rw [e, show im_us 10 = 1 by decide] at h; exact h
  · rw [e, show im_us 11 = 1 by decide] at h; exact h
theorem xo_41 {post : Int32 → Prop} {k a b d : Int32} (hk : 0 ≤ k ∧ k ≤ 11) (h1 : ¬ ((im_us k < 1 ∨ im_rf p a) ∧ (im_us k < 2 ∨ im_rf p b) ∧ (im_us k < 3 ∨ im_rf p d)) → post 1) (h0 : ((im_us k < 1 ∨ im_rf p a) ∧ (im_us k < 2 ∨ im_rf p b) ∧ (im_us k < 3 ∨ im_rf p d)) → post 0) : wX_refusesNode_41 post k a b d (nI p) (nI c) scr la inn xp ans K A B C sX dX nX dem stg rf eo := by
  have s3 : (im_us k < 1 ∨ im_rf p a) → (im_us k < 2 ∨ im_rf p b) → wX_refusesNode_75 post d (im_us k) (nI p) (nI c) scr la inn xp ans K A B C sX dX nX dem stg rf eo := by
    intro ha hb
    unfold wX_refusesNode_75
    exact br_c (fun z => h0 ⟨ha, hb, Or.inl z⟩) (fun z => xo_isRef (fun w => br_f (by decide) (h0 ⟨ha, hb, Or.inr w⟩)) (fun w => br_t rfl (h1 (fun q => q.2.2.elim z w))))
  have s2 : (im_us k < 1 ∨ im_rf p a) → wX_refusesNode_61 post b d (im_us k) (nI p) (nI c) scr la inn xp ans K A B C sX dX nX dem stg rf eo := by
    intro ha
    unfold wX_refusesNode_61
    exact br_c (fun z => s3 ha (Or.inl z)) (fun z => xo_isRef (fun w => br_f (by decide) (s3 ha (Or.inr w))) (fun w => br_t rfl (h1 (fun q => q.2.1.elim z w))))
  unfold wX_refusesNode_41
  exact xo_used hk.1 hk.2 (br_c (fun z => s2 (Or.inl z)) (fun z => xo_isRef (fun w => br_f (by decide) (s2 (Or.inr w))) (fun w => br_t rfl (h1 (fun q => q.1.elim z w)))))
theorem xo_refuses {post : Int32 → Prop} (hp : p ≤ 32) (hc : c ≤ p) {k a b d : Int32} (h1 : ¬ im_acc p c k a b d → post 1) (h0 : im_acc p c k a b d → post 0) : wpX_refusesNode post (nI p, nI c, scr, la, inn, xp, ans, K, A, B, C, sX, dX, nX, dem, stg, rf, eo) k a b d := by
  unfold wpX_refusesNode
  refine br_c (fun z => h1 (fun w => nI_ge w.1 (by omega) z)) (fun z => ?_)
  have hcp : c < p := by
    apply Classical.byContradiction
    intro w
    exact z (nI_le (by omega) (by omega))
  refine br_c (fun z => h1 (fun w => Int32.lt_irrefl (Int32.lt_of_lt_of_le z w.2.1.1))) (fun k0 => br_c (fun k11 => ?_) (fun z => h1 (fun w => z w.2.1.2)))
  have k0 : 0 ≤ k := Int32.not_lt.mp k0
  have s41 : (k = 1 → 5 ≤ a ∧ a ≤ 15) → wX_refusesNode_41 post k a b d (nI p) (nI c) scr la inn xp ans K A B C sX dX nX dem stg rf eo := fun hr => xo_41 ⟨k0, k11⟩ (fun z => h1 (fun w => z w.2.2.2)) (fun z => h0 ⟨hcp, ⟨k0, k11⟩, hr, z⟩)
  exact br_c (fun e => br_c (fun z => h1 (fun w => Int32.lt_irrefl (Int32.lt_of_lt_of_le z (w.2.2.1 e).1))) (fun z => br_c (fun z2 => s41 (fun _ => ⟨Int32.not_lt.mp z, z2⟩)) (fun z2 => h1 (fun w => z2 (w.2.2.1 e).2)))) (fun e => s41 (fun w => absurd w e))
end
end
section
/-! the object between calls, and the calls that the law makes -/
def px_S (p c : Nat) (D : Nat → Int32 × Int32) (st sv : Nat → Int32) (lk lw : Int32) (u : St2) : Prop :=
  ∃ (scr : Int64) (K A B C : Nat → Int32) (dX nX sX : Nat → Int64) (inn : Int32) (dem stg rf : Nat → Int32) (eo : Nat → Int64) (xp : Int32) (ans : Int64),
    u = (nI p, nI c, scr, im_P lk lw, inn, xp, ans, K, A, B, C, sX, dX, nX, dem, stg, rf, eo) ∧ (8 ≤ p ∧ p ≤ 32 ∧ c ≤ p) ∧ im_Pr c K A B C ∧ im_ST c K A sX st sv ∧ im_RF c K rf ∧ (∀ i, i < 32 → stg i = 0) ∧ D = im_D c K A B C ∧ im_DX c K A B C dX ∧ px_SM c K A B C st sv
theorem px_ik {c : Nat} {K A B C : Nat → Int32} (hc : c ≤ 32) (hp : im_Pr c K A B C) {i : Nat} (hi : i < c) (h : (im_ik (K i) (A i) i).1 ≠ 3) : im_D c K A B C i = ((im_ik (K i) (A i) i).1, (im_ik (K i) (A i) i).2) := by
  rw [im_D_fix hc hp hi]
  unfold im_dq
  unfold im_ik at h ⊢
  by_cases k0 : K i = 0
  · rw [if_pos k0, if_pos k0]
  rw [if_neg k0] at h ⊢
  rw [if_neg k0]
  by_cases k9 : K i = 9
  · rw [if_pos k9, if_pos k9]
  rw [if_neg k9] at h
  exact absurd rfl h
section
variable {p c : Nat} {D : Nat → Int32 × Int32} {st sv : Nat → Int32} {lk lw : Int32} {u : St2}
theorem pm_b (h : px_S p c D st sv lk lw u) : 8 ≤ p ∧ p ≤ 32 ∧ c ≤ p := by
  obtain ⟨scr, K, A, B, C, dX, nX, sX, inn, dem, stg, rf, eo, xp, ans, rfl, hb, _⟩ := h
  exact hb
theorem pm_SM (h : px_S p c D st sv lk lw u) {j : Nat} (hj : j < c) (h3 : st j ≠ 3) : D j = (st j, sv j) := by
  obtain ⟨scr, K, A, B, C, dX, nX, sX, inn, dem, stg, rf, eo, xp, ans, rfl, hb, hPr, hST, hRF, hSG, hD, hDX, hSM⟩ := h
  rw [hD]; exact hSM j hj h3
theorem pm_count {post : Int32 → Prop} (h : px_S p c D st sv lk lw u) (hq : post (nI c)) : wpX_nodeCount post u := by
  obtain ⟨scr, K, A, B, C, dX, nX, sX, inn, dem, stg, rf, eo, xp, ans, rfl, hb, hPr, hST, hRF, hSG, hD, hDX, hSM⟩ := h
  exact hq
theorem pm_cap {post : Int32 → Prop} (h : px_S p c D st sv lk lw u) (hq : post (nI p)) : wpX_capacity post u := by
  obtain ⟨scr, K, A, B, C, dX, nX, sX, inn, dem, stg, rf, eo, xp, ans, rfl, hb, hPr, hST, hRF, hSG, hD, hDX, hSM⟩ := h
  exact hq
theorem pm_state {post : Int32 → Prop} (h : px_S p c D st sv lk lw u) {j : Nat} (hj : j < c) (hq : post (st j)) : wpX_nodeState post u (nI j) := by
  obtain ⟨scr, K, A, B, C, dX, nX, sX, inn, dem, stg, rf, eo, xp, ans, rfl, ⟨h8, h32, hcp⟩, hPr, hST, hRF, hSG, hD, hDX, hSM⟩ := h
  have vj : vp_in (nI j) 32 := vp_in_nI (by omega) (by decide)
  have cl : (nI j).toNatClampNeg = j := nI_clamp (by omega)
  unfold wpX_nodeState
  refine xo_isNode_t (by omega) hj (br_f (by decide) ⟨vj, ?_⟩)
  rw [cl, (hST j hj).1]
  exact xo_kindOf hq
theorem pm_value {post : Int32 → Prop} (h : px_S p c D st sv lk lw u) {j : Nat} (hj : j < c) (hq : post (if st j = 3 then 0 else sv j)) : wpX_nodeValue post u (nI j) := by
  obtain ⟨scr, K, A, B, C, dX, nX, sX, inn, dem, stg, rf, eo, xp, ans, rfl, ⟨h8, h32, hcp⟩, hPr, hST, hRF, hSG, hD, hDX, hSM⟩ := h
  have vj : vp_in (nI j) 32 := vp_in_nI (by omega) (by decide)
  have cl : (nI j).toNatClampNeg = j := nI_clamp (by omega)
  unfold wpX_nodeValue
  refine xo_isNode_t (by omega) hj (br_f (by decide) ⟨vj, ?_⟩)
  rw [cl, (hST j hj).1]
  exact xo_valueOf hq
theorem pm_dk {post : Int32 → Prop} (h : px_S p c D st sv lk lw u) {j : Nat} (hj : j < c) (hq : post (D j).1) : wpX_denKind post u (nI j) := by
  obtain ⟨scr, K, A, B, C, dX, nX, sX, inn, dem, stg, rf, eo, xp, ans, rfl, ⟨h8, h32, hcp⟩, hPr, hST, hRF, hSG, rfl, hDX, hSM⟩ := h
  have vj : vp_in (nI j) 32 := vp_in_nI (by omega) (by decide)
  have cl : (nI j).toNatClampNeg = j := nI_clamp (by omega)
  unfold wpX_denKind
  refine xo_isNode_t (by omega) hj (br_f (by decide) ⟨vj, ?_⟩)
  rw [cl, hDX j hj]
  exact xo_kindOf hq
theorem pm_dv {post : Int32 → Prop} (h : px_S p c D st sv lk lw u) {j : Nat} (hj : j < c) (hq : post (if (D j).1 = 3 then 0 else (D j).2)) : wpX_denValue post u (nI j) := by
  obtain ⟨scr, K, A, B, C, dX, nX, sX, inn, dem, stg, rf, eo, xp, ans, rfl, ⟨h8, h32, hcp⟩, hPr, hST, hRF, hSG, rfl, hDX, hSM⟩ := h
  have vj : vp_in (nI j) 32 := vp_in_nI (by omega) (by decide)
  have cl : (nI j).toNatClampNeg = j := nI_clamp (by omega)
  unfold wpX_denValue
  refine xo_isNode_t (by omega) hj (br_f (by decide) ⟨vj, ?_⟩)
  rw [cl, hDX j hj]
  exact xo_valueOf hq
theorem pm_ds {post : Int32 → Prop} (h : px_S p c D st sv lk lw u) {j : Nat} (hj : j < c) (hq : post (if (D j).1 = 3 then (D j).2 else 0)) : wpX_denSet post u (nI j) := by
  obtain ⟨scr, K, A, B, C, dX, nX, sX, inn, dem, stg, rf, eo, xp, ans, rfl, ⟨h8, h32, hcp⟩, hPr, hST, hRF, hSG, rfl, hDX, hSM⟩ := h
  have vj : vp_in (nI j) 32 := vp_in_nI (by omega) (by decide)
  have cl : (nI j).toNatClampNeg = j := nI_clamp (by omega)
  unfold wpX_denSet
  refine xo_isNode_t (by omega) hj (br_f (by decide) ⟨vj, ?_⟩)
  rw [cl, hDX j hj]
  exact xo_exceptionOf hq
theorem pm_lx {post : Int32 → Prop} (h : px_S p c D st sv lk lw u) (hq : post (if lk = 3 then lw else 0)) : wpX_lastException post u := by
  obtain ⟨scr, K, A, B, C, dX, nX, sX, inn, dem, stg, rf, eo, xp, ans, rfl, hb, hPr, hST, hRF, hSG, hD, hDX, hSM⟩ := h
  unfold wpX_lastException
  exact xo_exceptionOf hq
theorem pm_lv {post : Int32 → Prop} (h : px_S p c D st sv lk lw u) (hq : post (if lk = 3 then 0 else lw)) : wpX_lastValue post u := by
  obtain ⟨scr, K, A, B, C, dX, nX, sX, inn, dem, stg, rf, eo, xp, ans, rfl, hb, hPr, hST, hRF, hSG, hD, hDX, hSM⟩ := h
  unfold wpX_lastValue
  exact xo_valueOf hq
theorem pm_set {post : St2 → Prop} (h : px_S p c D st sv lk lw u) (x : Int64) (hq : ∀ u', px_S p c D st sv lk lw u' → post u') : wpX_setScript post u x := by
  obtain ⟨scr, K, A, B, C, dX, nX, sX, inn, dem, stg, rf, eo, xp, ans, rfl, h⟩ := h
  exact hq _ ⟨_, _, _, _, _, _, _, _, _, _, _, _, _, _, _, rfl, h⟩
theorem pm_reset {post : St2 → Prop} (h : px_S p c D st sv lk lw u) (hq : ∀ u' st' sv', px_S p c D st' sv' lk lw u' → post u') : wpX_resetThunks post u := by
  obtain ⟨scr, K, A, B, C, dX, nX, sX, inn, dem, stg, rf, eo, xp, ans, rfl, ⟨h8, h32, hcp⟩, hPr, hST, hRF, hSG, hD, hDX, hSM⟩ := h
  refine xl_reset (by omega) (hq _ (fun i => (im_ik (K i) (A i) i).1) (fun i => (im_ik (K i) (A i) i).2) ⟨_, _, _, _, _, _, _, _, _, _, _, _, _, _, _, rfl, ⟨h8, h32, hcp⟩, hPr, fun i hi => ⟨im_fl_lt hi, im_ik_st (K i) (A i) i c K hi rfl⟩, hRF, hSG, hD, hDX, fun i hi h3 => px_ik (by omega) hPr hi h3⟩)
theorem pm_out {post : Int32 → St2 → Prop} (h : px_S p c D st sv lk lw u) (hq : post 0 u) : wpX_run post u (nI c) := by
  have hb := pm_b h
  obtain ⟨scr, K, A, B, C, dX, nX, sX, inn, dem, stg, rf, eo, xp, ans, rfl, _⟩ := h
  unfold wpX_run
  exact xo_isNode_f (by omega) (Or.inr (Int32.le_refl _)) (br_t rfl hq)
theorem pm_run {post : Int32 → St2 → Prop} (h : px_S p c D st sv lk lw u) {j : Nat} (hj : j < c) (hq : ∀ rk rv u' st' sv', px_S p c D st' sv' rk rv u' → ((rk = 3 ∧ im_cd rv (D j)) ∨ ((rk = 1 ∨ rk = 2) ∧ D j = (rk, rv))) → post rk u') : wpX_run post u (nI j) := by
  obtain ⟨scr, K, A, B, C, dX, nX, sX, inn, dem, stg, rf, eo, xp, ans, rfl, ⟨h8, h32, hcp⟩, hPr, hST, hRF, hSG, rfl, hDX, hSM⟩ := h
  have hc : c ≤ 32 := by omega
  have hmu := im_mu_b c st stg
  have hFL0 : px_FL c K st stg dem (-1) 0 (fun _ => 0) := px_FL_0 hSG _
  have hSC0 : px_SC c K A B C stg rf eo (nI j) 0 (fun _ => 0) (fun _ => 0) := ⟨fun z => absurd z (Nat.lt_irrefl 0), fun t ht => absurd ht (Nat.not_lt_zero _), fun t ht => absurd ht (Nat.not_lt_zero _)⟩
  obtain ⟨u1, hC, hX⟩ := px_dem (cap := nI p) (scr := scr) (la := im_P lk lw) (dX := dX) (nX := nX) (xp := 0) (ans := ans) (m := 128) (r := nI j) hc hPr hST hRF (fun i _ hi => hSG i hi) hSM (by omega) hFL0 hSC0 (fun t ht => absurd ht (Nat.not_lt_zero _)) ⟨fun _ => rfl, fun z => absurd z (Nat.lt_irrefl 0)⟩
  obtain ⟨u2, hCE, hX2⟩ := px_run hc hPr 128 u1 hC
  obtain ⟨sX', inn', dem', stg', rf', eo', xp', ans', st', sv', rk', rv', rfl, hST', hRF', hSG', hSM', hans', hE'⟩ := hCE
  subst hans'
  have hsg : ∀ i, i < 32 → im_fl stg' (fun _ => (0 : Int32)) c i = 0 := by
    intro i hi
    by_cases z : i < c
    · exact im_fl_lt z
    · rw [im_fl_ge z]; exact hSG' i (by omega) hi
  rw [im_g_in hc _ hj] at hE'
  unfold wpX_run
  refine xo_isNode_t hc hj (br_f (by decide) ?_)
  unfold wpX_evaluate
  refine hX _ (im_LX_ex (hX2 _ 129 0 (by omega) (by omega) ?_))
  refine xl_leave hc (xo_kindOf ?_)
  refine hq rk' rv' _ st' sv' ⟨_, _, _, _, _, _, _, _, _, _, _, _, _, _, _, rfl, ⟨h8, h32, hcp⟩, hPr, hST', hRF', hsg, rfl, hDX, hSM'⟩ ?_
  rcases hE' with z | ⟨hv, e⟩
  · exact Or.inl z
  · exact Or.inr ⟨hv.imp id (fun w => w.1), e⟩
theorem pm_add {post : Int32 → St2 → Prop} (h : px_S p c D st sv lk lw u) (v1 v2 v3 v4 : Int32) (hq : ∀ r u' c' D' st' sv', px_S p c' D' st' sv' lk lw u' → post r u') : wpX_addNode post u v1 v2 v3 v4 := by
  have h0 := h
  obtain ⟨scr, K, A, B, C, dX, nX, sX, inn, dem, stg, rf, eo, xp, ans, rfl, ⟨h8, h32, hcp⟩, hPr, hST, hRF, hSG, hD, hDX, hSM⟩ := h
  unfold wpX_addNode
  refine xo_refuses h32 hcp (fun hn => br_f (by decide) (hq _ _ _ _ _ _ h0)) (fun ha => br_t rfl ?_)
  have hc : c < p := ha.1
  have cl : (nI c).toNatClampNeg = c := nI_clamp (by omega)
  have vc : vp_in (nI c) 32 := vp_in_nI (by omega) (by decide)
  have hPr2 := im_Pr_add hPr (im_acc_ok ha)
  rw [cl, nI_1]
  refine ⟨vc, nm_e ⟨vc, nm_e ⟨vc, nm_e ⟨vc, nm_e (xo_init (by omega) ⟨vc, nm_e (nm_e (xl_solve (c := c + 1) (by omega) hPr2 (fun dX' nX' hD' => ?_)))⟩)⟩⟩⟩⟩
  have e : im_is (upd K c v1) (upd A c v2) c = im_P (im_ik v1 v2 c).1 (im_ik v1 v2 c).2 := by
    unfold im_is
    rw [pk_us, pk_us]
  refine hq _ _ (c + 1) _ (upd st c (im_ik v1 v2 c).1) (upd sv c (im_ik v1 v2 c).2) ⟨_, _, _, _, _, _, _, _, _, _, _, _, _, _, _, rfl, ⟨h8, h32, by omega⟩, hPr2, ?_, im_RF_add hRF v1, hSG, rfl, hD', fun i hi h3 => ?_⟩
  · rw [e]
    exact im_ST_add hST v1 v2
  · by_cases ei : i = c
    · subst ei
      rw [pk_us] at h3
      rw [pk_us, pk_us]
      have q := px_ik (c := i + 1) (K := upd K i v1) (A := upd A i v2) (B := upd B i v3) (C := upd C i v4) (by omega) hPr2 (i := i) (by omega)
      rw [pk_us, pk_us] at q
      exact q h3
    · rw [pk_un ei] at h3
      rw [pk_un ei, pk_un ei, ← hSM i (by omega) h3]
      have hv : (im_it c K A B C 1024 i).1 ≠ 3 := by
        have w := hSM i (by omega) h3
        have w2 : im_it c K A B C 1024 i = (st i, sv i) := w
        rw [w2]; exact h3
      exact im_ext (by omega) hPr (fun j hj => ⟨pk_un (by omega), pk_un (by omega), pk_un (by omega), pk_un (by omega)⟩) 1024 i (by omega) hv
end
end
section
/-! the law -/
abbrev pl_T : Type := Int32 → Int32 → Int32 → Int64 → Int64 → Int32 → Int32 → Int64 → (Nat → Int32) → (Nat → Int32) → (Nat → Int32) → (Nat → Int32) → (Nat → Int64) → (Nat → Int64) → (Nat → Int64) → (Nat → Int32) → (Nat → Int32) → (Nat → Int32) → (Nat → Int64) → Prop
def pl_J (J : pl_T) (x : Int32) (u : St2) : Prop := match u with
  | (cap, cn, scr, la, inn, xp, ans, K, A, B, C, sX, dX, nX, dem, stg, rf, eo) => J x cap cn scr la inn xp ans K A B C sX dX nX dem stg rf eo
def pl_A (post : Int32 → Prop) (L : Nat) (xs : Nat → Int32) (J : pl_T) (x2 x3 : Int32) (kc ks : Nat) (u : St2) : Prop := match u with
  | (cap, cn, scr, la, inn, xp, ans, K, A, B, C, sX, dX, nX, dem, stg, rf, eo) => wL_law_362 post L xs J x2 x3 kc ks cap cn scr la inn xp ans K A B C sX dX nX dem stg rf eo
theorem pl_cell {post : Int32 → Prop} {L : Nat} {xs : Nat → Int32} {i : Nat} (hi : i < 2 ^ 30) (hL : L < 2 ^ 30) (h : ∀ r, post r) : wpL_cell post L xs () (nI i) := by
  unfold wpL_cell
  refine br_c (fun _ => h 0) (fun z => ⟨vp_in_nI ?_ (by omega), h _⟩)
  apply Classical.byContradiction
  intro w
  exact z (nI_le (by omega) (by omega))
section
variable {p c : Nat} {D : Nat → Int32 × Int32} {st sv : Nat → Int32} {lk lw : Int32} {u : St2} {post : Int32 → Prop} {L : Nat} {xs : Nat → Int32} {J : pl_T} {x2 x3 : Int32} {kc ks : Nat}
theorem pl_362 (hS : px_S p c D st sv lk lw u) (hJ : pl_J J (x3 + 5) u) : pl_A post L xs J x2 x3 kc ks u := by
  have hb := pm_b hS
  have hS2 := hS
  obtain ⟨scr, K, A, B, C, dX, nX, sX, inn, dem, stg, rf, eo, xp, ans, rfl, _⟩ := hS
  show wL_law_362 post L xs J x2 x3 kc ks (nI p) (nI c) scr (im_P lk lw) inn xp ans K A B C sX dX nX dem stg rf eo
  unfold wL_law_362
  refine pm_count hS2 ?_
  have q := im_lp0 (W := fun n i => wL_law_371 post L xs J x2 x3 (nI c) kc ks (nI p) (nI c) scr (im_P lk lw) inn xp ans K A B C sX dX nX dem stg rf eo n (nI i)) c
    (fun n => by
      rw [wL_law_371]
      exact br_t (Int32.le_refl _) (nm_e hJ))
    (fun n i hi ih => by
      rw [wL_law_371]
      refine br_f (nI_ge hi (by omega)) (br_f (nI_ge (b := 64) (by omega) (by decide)) (pm_state hS2 hi (br_c (fun _ => nm_r (nI_1 i) ih) (fun n3 => pm_dk hS2 hi (br_t ?_ (pm_value hS2 hi (pm_dv hS2 hi (br_t ?_ (nm_r (nI_1 i) ih)))))))))
      · rw [pm_SM hS2 hi n3]
      · rw [pm_SM hS2 hi n3])
  rw [nI_0] at q
  exact q
theorem pl_bit {x : Int32} {e : Nat} (he : e < 32) (h : bt x e = true) : ¬ ((x.toUInt32 >>> ((nI e).toUInt32 &&& Int32.toUInt32 31)).toInt32 &&& 1) = 0 := by
  intro z
  have q := congrArg (fun y => bt y 0) z
  rw [b_and, b_ushr e he, Nat.add_zero, h, b_0] at q
  exact absurd q (by decide)
/-- after a run of a node -/
theorem pl_ran {rk rv : Int32} {j : Nat} (hS : px_S p c D st sv rk rv u) (hj : j < c) (hres : (rk = 3 ∧ im_cd rv (D j)) ∨ ((rk = 1 ∨ rk = 2) ∧ D j = (rk, rv))) (hJ : pl_A post L xs J x2 x3 kc ks u) :
    (match u with | (cap, cn, scr, la, inn, xp, ans, K, A, B, C, sX, dX, nX, dem, stg, rf, eo) => (nI c ≤ nI j → wL_law_327 post L xs J x2 x3 kc ks cap cn scr la inn xp ans K A B C sX dX nX dem stg rf eo) ∧ (¬ nI c ≤ nI j → wpX_denSet (fun r_200 => (rk = 3 → wpX_lastException (fun r_210 => (r_210 < 0 → post 0) ∧ (¬ r_210 < 0 → ((31 < r_210 → post 0) ∧ (¬ 31 < r_210 → ((((r_200.toUInt32 >>> (r_210.toUInt32 &&& Int32.toUInt32 31)).toInt32 &&& 1) = 0 → post 0) ∧ (¬ ((r_200.toUInt32 >>> (r_210.toUInt32 &&& Int32.toUInt32 31)).toInt32 &&& 1) = 0 → wL_law_327 post L xs J x2 x3 kc ks cap cn scr la inn xp ans K A B C sX dX nX dem stg rf eo)))))) (cap, cn, scr, la, inn, xp, ans, K, A, B, C, sX, dX, nX, dem, stg, rf, eo)) ∧ (¬ rk = 3 → ((rk = 1 → wL_law_290 post L xs J x2 x3 (nI j) rk r_200 kc ks cap cn scr la inn xp ans K A B C sX dX nX dem stg rf eo) ∧ (¬ rk = 1 → ((rk = 2 → wL_law_290 post L xs J x2 x3 (nI j) rk r_200 kc ks cap cn scr la inn xp ans K A B C sX dX nX dem stg rf eo) ∧ (¬ rk = 2 → post 0)))))) (cap, cn, scr, la, inn, xp, ans, K, A, B, C, sX, dX, nX, dem, stg, rf, eo) (nI j))) := by
  have hb := pm_b hS
  have hS2 := hS
  obtain ⟨scr, K, A, B, C, dX, nX, sX, inn, dem, stg, rf, eo, xp, ans, rfl, _⟩ := hS
  refine br_f (nI_ge hj (by omega)) (pm_ds hS2 hj ?_)
  rcases hres with ⟨rfl, e, he1, he2, rfl, h3, hbt⟩ | ⟨h12, hD⟩
  · refine br_t rfl (pm_lx hS2 ?_)
    rw [if_pos rfl, if_pos h3]
    exact br_f (nI_pos (by omega)) (br_f (nI_nlt (b := e) (a := 31) (by omega) (by decide)) (br_f (pl_bit (by omega) hbt) hJ))
  · have n3 : ¬ rk = 3 := by rcases h12 with z | z <;> rw [z] <;> decide
    have s290 : wL_law_290 post L xs J x2 x3 (nI j) rk (if (D j).1 = 3 then (D j).2 else 0) kc ks (nI p) (nI c) scr (im_P rk rv) inn xp ans K A B C sX dX nX dem stg rf eo := by
      unfold wL_law_290
      refine br_t (by rw [hD, if_neg n3]) (pm_dk hS2 hj (br_t (by rw [hD]) (pm_dv hS2 hj (pm_lv hS2 (br_t ?_ hJ)))))
      rw [hD]
    refine br_f n3 (br_c (fun _ => s290) (fun n1 => br_t (h12.resolve_left n1) s290))
theorem pl_161 (hS : px_S p c D st sv lk lw u) (x7 x8 x10 z0 x12 : Int32) (hz : ¬ z0 = 0) (hJ : ∀ u' c' D' st' sv', px_S p c' D' st' sv' lk lw u' → pl_A post L xs J x2 x3 kc ks u') : (match u with | (cap, cn, scr, la, inn, xp, ans, K, A, B, C, sX, dX, nX, dem, stg, rf, eo) => wL_law_161 post L xs J x2 x3 x7 x8 x10 z0 x12 kc ks cap cn scr la inn xp ans K A B C sX dX nX dem stg rf eo) := by
  have hS2 := hS
  obtain ⟨scr, K, A, B, C, dX, nX, sX, inn, dem, stg, rf, eo, xp, ans, rfl, _⟩ := hS
  show wL_law_161 post L xs J x2 x3 x7 x8 x10 z0 x12 kc ks (nI p) (nI c) scr (im_P lk lw) inn xp ans K A B C sX dX nX dem stg rf eo
  unfold wL_law_161
  exact ⟨hz, nm_e ⟨hz, nm_e (pm_add hS2 _ _ _ _ (fun r u' c' D' st' sv' hS' => hJ u' c' D' st' sv' hS'))⟩⟩
theorem pl_113 (hS : px_S p c D st sv lk lw u) (x6 x7 x8 x10 z0 : Int32) (hz : ¬ z0 = 0) (hJ : ∀ u' c' D' st' sv', px_S p c' D' st' sv' lk lw u' → pl_A post L xs J x2 x3 kc ks u') : (match u with | (cap, cn, scr, la, inn, xp, ans, K, A, B, C, sX, dX, nX, dem, stg, rf, eo) => wL_law_113 post L xs J x2 x3 x6 x7 x8 x10 z0 kc ks cap cn scr la inn xp ans K A B C sX dX nX dem stg rf eo) := by
  have hS2 := hS
  obtain ⟨scr, K, A, B, C, dX, nX, sX, inn, dem, stg, rf, eo, xp, ans, rfl, _⟩ := hS
  have s161 : ∀ x12, wL_law_161 post L xs J x2 x3 x7 x8 x10 z0 x12 kc ks (nI p) (nI c) scr (im_P lk lw) inn xp ans K A B C sX dX nX dem stg rf eo := fun x12 => pl_161 hS2 x7 x8 x10 z0 x12 hz hJ
  show wL_law_113 post L xs J x2 x3 x6 x7 x8 x10 z0 kc ks (nI p) (nI c) scr (im_P lk lw) inn xp ans K A B C sX dX nX dem stg rf eo
  unfold wL_law_113
  refine br_c (fun _ => ?_) (fun _ => br_c (fun _ => ⟨by decide, nm_e (s161 _)⟩) (fun _ => ⟨hz, nm_e (s161 _)⟩))
  unfold wpL_constVal
  exact br_c (fun _ => s161 _) (fun _ => s161 _)
end
end
section
/-! the law's own loop, and what is owed -/
theorem pl_main {post : Int32 → Prop} {L : Nat} {xs : Nat → Int32} {kc ks p : Nat} (h1 : post 1) (hL : L ≤ 260) : ∀ (n k c : Nat) (D : Nat → Int32 × Int32) (st sv : Nat → Int32) (lk lw : Int32) (u : St2), px_S p c D st sv lk lw u → k ≤ 1000 → L + 6 - k < n → pl_J (wL_law_23 post L xs (nI p) kc ks n) (nI k) u := by
  intro n
  induction n with
  | zero => intro k c D st sv lk lw u _ _ hn; omega
  | succ n ih =>
    intro k c D st sv lk lw u hS hk1 hn
    have hb := pm_b hS
    have hS2 := hS
    obtain ⟨scr, K, A, B, C, dX, nX, sX, inn, dem, stg, rf, eo, xp, ans, rfl, _⟩ := hS
    show wL_law_23 post L xs (nI p) kc ks (n + 1) (nI k) (nI p) (nI c) scr (im_P lk lw) inn xp ans K A B C sX dX nX dem stg rf eo
    rw [wL_law_23]
    refine br_c (fun _ => h1) (fun hk => ?_)
    have hkL : k < L := by
      apply Classical.byContradiction
      intro w
      exact hk (nI_le (show L ≤ k by omega) (by omega))
    have next : ∀ (c' : Nat) (D' : Nat → Int32 × Int32) (st' sv' : Nat → Int32) (lk' lw' : Int32) (u' : St2), px_S p c' D' st' sv' lk' lw' u' → pl_A post L xs (wL_law_23 post L xs (nI p) kc ks n) (nI p) (nI k) kc ks u' := by
      intro c' D' st' sv' lk' lw' u' hS'
      refine pl_362 hS' ?_
      rw [show nI k + 5 = nI (k + 5) from nI_add k 5]
      exact ih (k + 5) c' D' st' sv' lk' lw' u' hS' (by omega) (by omega)
    rw [show nI k + 4 = nI (k + 4) from nI_add k 4, show nI k + 3 = nI (k + 3) from nI_add k 3, show nI k + 2 = nI (k + 2) from nI_add k 2, nI_1 k]
    refine pl_cell (by omega) (by omega) (fun r0 => nm_e (pl_cell (by omega) (by omega) (fun r1 => pl_cell (by omega) (by omega) (fun r2 => pl_cell (by omega) (by omega) (fun r3 => pl_cell (by omega) (by omega) (fun r4 => pm_count hS2 ?_))))))
    refine br_c (fun _ => br_c (fun _ => br_c (fun _ => pm_set hS2 _ (fun u' hS' => next _ _ _ _ _ _ u' hS')) (fun _ => pm_reset hS2 (fun u' st' sv' hS' => next _ _ _ _ _ _ u' hS'))) (fun _ => ?_)) (fun _ => ⟨by decide, nm_e ?_⟩)
    · obtain ⟨w, hw, ew⟩ := pk_andE r1 (m := 65535) 16 (by decide)
      rw [nI_1 c, ew]
      refine ⟨nI_ne0 (by omega) (by omega), nm_r (pk_rem (by omega) (by omega) (by omega)) ?_⟩
      have hm : w % (c + 1) < c + 1 := Nat.mod_lt _ (by omega)
      by_cases hj : w % (c + 1) < c
      · exact pm_run hS2 hj (fun rk rv u' st' sv' hS' hres => pl_ran hS' hj hres (next _ _ _ _ _ _ u' hS'))
      · rw [show w % (c + 1) = c by omega]
        exact pm_out hS2 (br_t (Int32.le_refl _) (next _ _ _ _ _ _ _ hS2))
    · exact br_c (fun _ => pl_113 hS2 _ _ _ _ _ (nI_ne0 (by omega) (by omega)) (fun u' c' D' st' sv' hS' => next _ _ _ _ _ _ u' hS')) (fun _ => pl_113 hS2 _ _ _ _ _ (by rw [show nI c + 2 = nI (c + 2) from nI_add c 2]; exact nI_ne0 (by omega) (by omega)) (fun u' c' D' st' sv' hS' => next _ _ _ _ _ _ u' hS'))
theorem px_S0 {p : Nat} (h8 : 8 ≤ p) (h32 : p ≤ 32) : px_S p 0 (im_D 0 (fun _ => 0) (fun _ => 0) (fun _ => 0) (fun _ => 0)) (fun _ => 0) (fun _ => 0) 0 0 (nI p, 0, 0, 0, (-1), 0, 0, (fun _ => 0), (fun _ => 0), (fun _ => 0), (fun _ => 0), (fun _ => 0), (fun _ => 0), (fun _ => 0), (fun _ => 0), (fun _ => 0), (fun _ => 0), (fun _ => 0)) :=
  ⟨0, (fun _ => 0), (fun _ => 0), (fun _ => 0), (fun _ => 0), (fun _ => 0), (fun _ => 0), (fun _ => 0), -1, (fun _ => 0), (fun _ => 0), (fun _ => 0), (fun _ => 0), 0, 0, by rw [im_P00, nI_0], ⟨h8, h32, Nat.zero_le _⟩, fun i hi => absurd hi (Nat.not_lt_zero _), fun i hi => absurd hi (Nat.not_lt_zero _), fun i _ => Or.inl rfl, fun i _ => rfl, rfl, fun j hj => absurd hj (Nat.not_lt_zero _), fun i hi => absurd hi (Nat.not_lt_zero _)⟩
theorem pl_start {post : Int32 → Prop} {L : Nat} {xs : Nat → Int32} {kc ks p : Nat} (h1 : post 1) (hL : L ≤ 260) (h8 : 8 ≤ p) (h32 : p ≤ 32) : wpX_capacity (fun r_48 => ∃ fu23 : Nat, wL_law_23 post L xs r_48 kc ks fu23 1 (nI p) 0 0 0 (-1) 0 0 (fun _ => 0) (fun _ => 0) (fun _ => 0) (fun _ => 0) (fun _ => 0) (fun _ => 0) (fun _ => 0) (fun _ => 0) (fun _ => 0) (fun _ => 0) (fun _ => 0)) (nI p, 0, 0, 0, (-1), 0, 0, (fun _ => 0), (fun _ => 0), (fun _ => 0), (fun _ => 0), (fun _ => 0), (fun _ => 0), (fun _ => 0), (fun _ => 0), (fun _ => 0), (fun _ => 0), (fun _ => 0)) :=
  pm_cap (px_S0 h8 h32) ⟨L + 7, pl_main (kc := kc) (ks := ks) h1 hL (L + 7) 1 0 _ _ _ _ _ _ (px_S0 h8 h32) (by omega) (by omega)⟩
theorem i_vc (xs : Nat → Int32) (L : Nat) (hL : L ≤ 260) : wpL_law (fun r => r = 1) L xs := by
  unfold wpL_law
  have h0 : wpL_cell (fun r_2 => ∃ mc ms : Nat, 1 + mc ≤ 12 ∧ 18 + ms ≤ 370 ∧ wpX_init (fun u => match u with | (cap, cn, scr, la, inn, xp, ans, K, A, B, C, sX, dX, nX, dem, stg, rf, eo) => wpX_capacity (fun r_48 => ∃ fu23 : Nat, wL_law_23 (fun r => r = 1) L xs r_48 (1 + mc) (18 + ms) fu23 1 cap cn scr la inn xp ans K A B C sX dX nX dem stg rf eo) (cap, cn, scr, la, inn, xp, ans, K, A, B, C, sX, dX, nX, dem, stg, rf, eo)) mc ms (0, 0, 0, 0, 0, 0, 0) (r_2 &&& 63)) L xs () (nI 0) := by
    refine pl_cell (by omega) (by omega) (fun r => ⟨11, 352, by omega, by omega, ?_⟩)
    generalize r &&& 63 = q
    unfold wpX_init
    refine ⟨by omega, by omega, by omega, by omega, by omega, by omega, by omega, by omega, by omega, by omega, by omega, by omega, by omega, by omega, by omega, by omega, by omega, by omega, by omega, by omega, by omega, by omega, ?_⟩
    by_cases h8 : 8 ≤ q
    · refine br_t h8 ?_
      by_cases h32 : q ≤ 32
      · refine br_t h32 ?_
        have h0 : ¬ q < 0 := fun z => Int32.lt_irrefl (Int32.lt_of_lt_of_le z (Int32.le_trans (show (0 : Int32) ≤ 8 by decide) h8))
        obtain ⟨j, hj, rfl⟩ := nI_of h0
        exact pl_start rfl hL ((nI_leI (a := 8) (by decide) hj).mp h8) ((nI_leI (b := 32) hj (by decide)).mp h32)
      · exact br_f h32 (pl_start (p := 32) rfl hL (by omega) (by omega))
    · exact br_f h8 (pl_start (p := 8) rfl hL (by omega) (by omega))
  exact h0
end
