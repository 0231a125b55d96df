/-! the denotation: the equation of a node, the order, the rounds -/
def im_s1 (x : Int32) : Int32 := (1 : Int32) <<< (x &&& 31)
def im_mk (m : Int32) : Prop := m ≠ 0 ∧ ∀ i, bt m i = true → 1 ≤ i ∧ i < 16
def im_ar (k x y : Int32) : Int32 := if k = 2 then x + y else if k = 3 then x - y else if k = 4 then x * y else if k = 5 then (if y = 0 then 0 else x / y) else if x < y then 1 else 0
def im_g (c : Nat) (d : Nat → Int32 × Int32) (r : Int32) : Int32 × Int32 := if r < 0 ∨ nI c ≤ r then (3, 16) else d r.toNatClampNeg
def im_bin (k : Int32) (a b : Int32 × Int32) : Int32 × Int32 :=
  if a.1 = 3 then (if b.1 = 3 then (3, a.2 ||| b.2) else a)
  else if b.1 = 3 then b
  else if a.1 = 2 ∨ b.1 = 2 then (3, 4)
  else if k = 5 ∧ b.2 = 0 then (3, 2)
  else (1, im_ar k a.2 b.2)
def im_ct (c : Nat) (K A B C : Nat → Int32) (i : Nat) (a : Int32 × Int32) : Option Int32 :=
  if K i = 7 then (if a.1 = 2 then none else if a.2 = 0 then some (C i) else some (B i))
  else if K i = 8 then some (B i)
  else if a.1 = 2 then (if K i = 10 then some (A a.2.toNatClampNeg) else some (B a.2.toNatClampNeg))
  else none
def im_gO (c : Nat) (d : Nat → Int32 × Int32) : Option Int32 → Int32 × Int32
  | none => (3, 4)
  | some r => im_g c d r
def im_dq (c : Nat) (K A B C : Nat → Int32) (d : Nat → Int32 × Int32) (i : Nat) : Int32 × Int32 :=
  if K i = 0 then (1, A i)
  else if K i = 9 then (2, nI i)
  else if K i = 1 then (3, im_s1 (A i))
  else if 2 ≤ K i ∧ K i ≤ 6 then im_bin (K i) (im_g c d (A i)) (im_g c d (B i))
  else if (im_g c d (A i)).1 = 3 then im_g c d (A i)
  else im_gO c d (im_ct c K A B C i (im_g c d (A i)))
/-- a value: INT v, or PAIR of a K_PAIR node -/
def im_vl (c : Nat) (K : Nat → Int32) (a : Int32 × Int32) : Prop := a.1 = 1 ∨ (a.1 = 2 ∧ ∃ j, j < c ∧ a.2 = nI j ∧ K j = 9)
def im_wf (c : Nat) (K : Nat → Int32) (a : Int32 × Int32) : Prop := (a.1 = 3 ∧ im_mk a.2) ∨ im_vl c K a
def im_le (a b : Int32 × Int32) : Prop := a = b ∨ a = (3, 65534) ∨ (a.1 = 3 ∧ b.1 = 3 ∧ ∀ i, bt b.2 i = true → bt a.2 i = true)
/-- the program: kinds, codes and references -/
def im_Pr (c : Nat) (K A B C : Nat → Int32) : Prop := ∀ i, i < c → (0 ≤ K i ∧ K i ≤ 11) ∧ (K i = 1 → 5 ≤ A i ∧ A i ≤ 15) ∧ (K i ≠ 0 → K i ≠ 1 → A i ≠ -1) ∧ (K i ≠ 0 → K i ≠ 1 → K i ≠ 10 → K i ≠ 11 → B i ≠ -1) ∧ (K i = 7 → C i ≠ -1)
theorem im_ball : ∀ i, bt 65534 i = true ↔ 1 ≤ i ∧ i < 16 := by
  intro i
  rcases Nat.lt_or_ge i 32 with h | h
  · exact (by decide +kernel : ∀ i, i < 32 → (bt 65534 i = true ↔ 1 ≤ i ∧ i < 16)) i h
  · rw [b_big h]
    constructor
    · intro z; exact absurd z (by decide)
    · omega
theorem im_mk_all : im_mk 65534 := ⟨by decide, fun i h => (im_ball i).mp h⟩
theorem im_mk_dec {m : Int32} (h0 : m ≠ 0) (h : ∀ i, i < 32 → bt m i = true → 1 ≤ i ∧ i < 16) : im_mk m := by
  refine ⟨h0, fun i hi => ?_⟩
  rcases Nat.lt_or_ge i 32 with h1 | h1
  · exact h i h1 hi
  · rw [b_big h1] at hi; exact absurd hi (by decide)
theorem im_mk2 : im_mk 2 := im_mk_dec (by decide) (by decide +kernel)
theorem im_mk4 : im_mk 4 := im_mk_dec (by decide) (by decide +kernel)
theorem im_mk16 : im_mk 16 := im_mk_dec (by decide) (by decide +kernel)
theorem im_mk_s1N : ∀ n, n < 16 → 5 ≤ n → im_s1 (nI n) ≠ 0 ∧ ∀ i, i < 32 → bt (im_s1 (nI n)) i = true → 1 ≤ i ∧ i < 16 := by decide +kernel
theorem im_mk_s1 {x : Int32} (h5 : 5 ≤ x) (h15 : x ≤ 15) : im_mk (im_s1 x) := by
  have h0 : ¬ x < 0 := by
    intro z
    have := Int32.lt_of_lt_of_le z (Int32.le_trans (show (0 : Int32) ≤ 5 by decide) h5)
    exact Int32.lt_irrefl this
  obtain ⟨j, hj, rfl⟩ := nI_of h0
  have h1 : 5 ≤ j := (nI_leI (a := 5) (by decide) hj).mp h5
  have h2 : j ≤ 15 := (nI_leI (b := 15) hj (by decide)).mp h15
  have h := im_mk_s1N j (by omega) h1
  exact im_mk_dec h.1 h.2
theorem im_mk_or {a b : Int32} (ha : im_mk a) (hb : im_mk b) : im_mk (a ||| b) := by
  constructor
  · intro h
    apply ha.1
    apply b_ext
    intro i _
    have e := congrArg (fun z => bt z i) h
    simp only [b_or, b_0] at e
    rw [b_0]
    revert e
    cases bt a i <;> cases bt b i <;> simp
  · intro i h
    rw [b_or, Bool.or_eq_true] at h
    rcases h with h | h
    · exact ha.2 i h
    · exact hb.2 i h
theorem im_all_or {b : Int32} (hb : im_mk b) : (65534 : Int32) ||| b = 65534 := by
  apply b_ext
  intro i _
  rw [b_or]
  by_cases h : bt b i = true
  · rw [h, (im_ball i).mpr (hb.2 i h)]; rfl
  · rw [Bool.not_eq_true] at h; rw [h, Bool.or_false]
theorem im_or_all {b : Int32} (hb : im_mk b) : b ||| (65534 : Int32) = 65534 := by
  apply b_ext
  intro i _
  rw [b_or]
  by_cases h : bt b i = true
  · rw [h, (im_ball i).mpr (hb.2 i h)]; rfl
  · rw [Bool.not_eq_true] at h; rw [h, Bool.false_or]
theorem im_wf_ne {c : Nat} {K : Nat → Int32} {a : Int32 × Int32} (h : im_vl c K a) : a.1 ≠ 3 := by
  rcases h with h | ⟨h, _⟩ <;> rw [h] <;> decide
theorem im_wf_s {c : Nat} {K : Nat → Int32} {a : Int32 × Int32} (h : im_wf c K a) (h3 : a.1 = 3) : im_mk a.2 := by
  rcases h with h | h
  · exact h.2
  · exact absurd h3 (im_wf_ne h)
theorem im_wf_v {c : Nat} {K : Nat → Int32} {a : Int32 × Int32} (h : im_wf c K a) (h3 : a.1 ≠ 3) : im_vl c K a := by
  rcases h with h | h
  · exact absurd h.1 h3
  · exact h
theorem im_wf_g {c : Nat} {K : Nat → Int32} {d : Nat → Int32 × Int32} (hc : c < 2 ^ 31) (hd : ∀ j, j < c → im_wf c K (d j)) (r : Int32) : im_wf c K (im_g c d r) := by
  unfold im_g
  by_cases h : r < 0 ∨ nI c ≤ r
  · rw [if_pos h]; exact Or.inl ⟨rfl, im_mk16⟩
  · rw [if_neg h]
    rcases pk_ix r hc with z | z | ⟨j, hj, rfl⟩
    · exact absurd (Or.inl z) h
    · exact absurd (Or.inr z) h
    · rw [nI_clamp (by omega)]; exact hd j hj
theorem im_wf_gO {c : Nat} {K : Nat → Int32} {d : Nat → Int32 × Int32} (hc : c < 2 ^ 31) (hd : ∀ j, j < c → im_wf c K (d j)) (r : Option Int32) : im_wf c K (im_gO c d r) := by
  cases r with
  | none => exact Or.inl ⟨rfl, im_mk4⟩
  | some r => exact im_wf_g hc hd r
theorem im_wf_bin {c : Nat} {K : Nat → Int32} {k : Int32} {a b : Int32 × Int32} (ha : im_wf c K a) (hb : im_wf c K b) : im_wf c K (im_bin k a b) := by
  unfold im_bin
  by_cases h1 : a.1 = 3
  · rw [if_pos h1]
    by_cases h2 : b.1 = 3
    · rw [if_pos h2]; exact Or.inl ⟨rfl, im_mk_or (im_wf_s ha h1) (im_wf_s hb h2)⟩
    · rw [if_neg h2]; exact ha
  · rw [if_neg h1]
    by_cases h2 : b.1 = 3
    · rw [if_pos h2]; exact hb
    · rw [if_neg h2]
      split
      · exact Or.inl ⟨rfl, im_mk4⟩
      · split
        · exact Or.inl ⟨rfl, im_mk2⟩
        · exact Or.inr (Or.inl rfl)
theorem im_wf_dq {c : Nat} {K A B C : Nat → Int32} {d : Nat → Int32 × Int32} (hc : c < 2 ^ 31) (hp : im_Pr c K A B C) (hd : ∀ j, j < c → im_wf c K (d j)) {i : Nat} (hi : i < c) : im_wf c K (im_dq c K A B C d i) := by
  unfold im_dq
  by_cases h0 : K i = 0
  · rw [if_pos h0]; exact Or.inr (Or.inl rfl)
  rw [if_neg h0]
  by_cases h9 : K i = 9
  · rw [if_pos h9]; exact Or.inr (Or.inr ⟨rfl, i, hi, rfl, h9⟩)
  rw [if_neg h9]
  by_cases h1 : K i = 1
  · rw [if_pos h1]; exact Or.inl ⟨rfl, im_mk_s1 ((hp i hi).2.1 h1).1 ((hp i hi).2.1 h1).2⟩
  rw [if_neg h1]
  by_cases hb : 2 ≤ K i ∧ K i ≤ 6
  · rw [if_pos hb]; exact im_wf_bin (im_wf_g hc hd _) (im_wf_g hc hd _)
  rw [if_neg hb]
  by_cases h3 : (im_g c d (A i)).1 = 3
  · rw [if_pos h3]; exact im_wf_g hc hd _
  · rw [if_neg h3]; exact im_wf_gO hc hd _
theorem im_all1 : ((3, 65534) : Int32 × Int32).1 = 3 := rfl
theorem im_le_rf (a : Int32 × Int32) : im_le a a := Or.inl rfl
theorem im_le_all (a : Int32 × Int32) : im_le (3, 65534) a := Or.inr (Or.inl rfl)
theorem im_le_g {c : Nat} {d d' : Nat → Int32 × Int32} (hc : c < 2 ^ 31) (h : ∀ j, j < c → im_le (d j) (d' j)) (r : Int32) : im_le (im_g c d r) (im_g c d' r) := by
  unfold im_g
  by_cases hr : r < 0 ∨ nI c ≤ r
  · rw [if_pos hr, if_pos hr]; exact im_le_rf _
  · rw [if_neg hr, if_neg hr]
    rcases pk_ix r hc with z | z | ⟨j, hj, rfl⟩
    · exact absurd (Or.inl z) hr
    · exact absurd (Or.inr z) hr
    · rw [nI_clamp (by omega)]; exact h j hj
theorem im_le_gO {c : Nat} {d d' : Nat → Int32 × Int32} (hc : c < 2 ^ 31) (h : ∀ j, j < c → im_le (d j) (d' j)) (r : Option Int32) : im_le (im_gO c d r) (im_gO c d' r) := by
  cases r with
  | none => exact im_le_rf _
  | some r => exact im_le_g hc h r
theorem im_le_bin {c : Nat} {K : Nat → Int32} {k : Int32} {a b a' b' : Int32 × Int32} (ha : im_wf c K a) (hb : im_wf c K b) (la : im_le a a') (lb : im_le b b') : im_le (im_bin k a b) (im_bin k a' b') := by
  rcases la with rfl | rfl | ⟨a3, a3', sa⟩
  · rcases lb with rfl | rfl | ⟨b3, b3', sb⟩
    · exact im_le_rf _
    · by_cases h : a.1 = 3
      · have e : im_bin k a (3, 65534) = (3, 65534) := by
          unfold im_bin
          rw [if_pos h, if_pos im_all1]
          show ((3 : Int32), a.2 ||| 65534) = (3, 65534)
          rw [im_or_all (im_wf_s ha h)]
        rw [e]; exact im_le_all _
      · have e : im_bin k a (3, 65534) = (3, 65534) := by
          unfold im_bin
          rw [if_neg h, if_pos im_all1]
        rw [e]; exact im_le_all _
    · by_cases h : a.1 = 3
      · have e : im_bin k a b = (3, a.2 ||| b.2) := by unfold im_bin; rw [if_pos h, if_pos b3]
        have e' : im_bin k a b' = (3, a.2 ||| b'.2) := by unfold im_bin; rw [if_pos h, if_pos b3']
        rw [e, e']
        refine Or.inr (Or.inr ⟨rfl, rfl, fun i => ?_⟩)
        show bt (a.2 ||| b'.2) i = true → bt (a.2 ||| b.2) i = true
        rw [b_or, b_or, Bool.or_eq_true, Bool.or_eq_true]
        exact fun z => z.imp id (sb i)
      · have e : im_bin k a b = b := by unfold im_bin; rw [if_neg h, if_pos b3]
        have e' : im_bin k a b' = b' := by unfold im_bin; rw [if_neg h, if_pos b3']
        rw [e, e']
        exact Or.inr (Or.inr ⟨b3, b3', sb⟩)
  · have e : im_bin k (3, 65534) b = (3, 65534) := by
      unfold im_bin
      rw [if_pos im_all1]
      by_cases h : b.1 = 3
      · rw [if_pos h]
        show ((3 : Int32), 65534 ||| b.2) = (3, 65534)
        rw [im_all_or (im_wf_s hb h)]
      · rw [if_neg h]
    rw [e]; exact im_le_all _
  · rcases lb with rfl | rfl | ⟨b3, b3', sb⟩
    · by_cases h : b.1 = 3
      · have e : im_bin k a b = (3, a.2 ||| b.2) := by unfold im_bin; rw [if_pos a3, if_pos h]
        have e' : im_bin k a' b = (3, a'.2 ||| b.2) := by unfold im_bin; rw [if_pos a3', if_pos h]
        rw [e, e']
        refine Or.inr (Or.inr ⟨rfl, rfl, fun i => ?_⟩)
        show bt (a'.2 ||| b.2) i = true → bt (a.2 ||| b.2) i = true
        rw [b_or, b_or, Bool.or_eq_true, Bool.or_eq_true]
        exact fun z => z.imp (sa i) id
      · have e : im_bin k a b = a := by unfold im_bin; rw [if_pos a3, if_neg h]
        have e' : im_bin k a' b = a' := by unfold im_bin; rw [if_pos a3', if_neg h]
        rw [e, e']
        exact Or.inr (Or.inr ⟨a3, a3', sa⟩)
    · have e : im_bin k a (3, 65534) = (3, 65534) := by
        unfold im_bin
        rw [if_pos a3, if_pos im_all1]
        show ((3 : Int32), a.2 ||| 65534) = (3, 65534)
        rw [im_or_all (im_wf_s ha a3)]
      rw [e]; exact im_le_all _
    · have e : im_bin k a b = (3, a.2 ||| b.2) := by unfold im_bin; rw [if_pos a3, if_pos b3]
      have e' : im_bin k a' b' = (3, a'.2 ||| b'.2) := by unfold im_bin; rw [if_pos a3', if_pos b3']
      rw [e, e']
      refine Or.inr (Or.inr ⟨rfl, rfl, fun i => ?_⟩)
      show bt (a'.2 ||| b'.2) i = true → bt (a.2 ||| b.2) i = true
      rw [b_or, b_or, Bool.or_eq_true, Bool.or_eq_true]
      exact fun z => z.imp (sa i) (sb i)
theorem im_le_dq {c : Nat} {K A B C : Nat → Int32} {d d' : Nat → Int32 × Int32} (hc : c < 2 ^ 31) (hd : ∀ j, j < c → im_wf c K (d j)) (h : ∀ j, j < c → im_le (d j) (d' j)) (i : Nat) : im_le (im_dq c K A B C d i) (im_dq c K A B C d' i) := by
  unfold im_dq
  by_cases h0 : K i = 0
  · rw [if_pos h0, if_pos h0]; exact im_le_rf _
  rw [if_neg h0, if_neg h0]
  by_cases h9 : K i = 9
  · rw [if_pos h9, if_pos h9]; exact im_le_rf _
  rw [if_neg h9, if_neg h9]
  by_cases h1 : K i = 1
  · rw [if_pos h1, if_pos h1]; exact im_le_rf _
  rw [if_neg h1, if_neg h1]
  by_cases hb : 2 ≤ K i ∧ K i ≤ 6
  · rw [if_pos hb, if_pos hb]; exact im_le_bin (im_wf_g hc hd _) (im_wf_g hc hd _) (im_le_g hc h _) (im_le_g hc h _)
  rw [if_neg hb, if_neg hb]
  have la := im_le_g hc h (A i)
  generalize im_g c d (A i) = a at la ⊢
  generalize im_g c d' (A i) = a' at la ⊢
  rcases la with rfl | rfl | ⟨a3, a3', sa⟩
  · by_cases h3 : a.1 = 3
    · rw [if_pos h3, if_pos h3]; exact im_le_rf _
    · rw [if_neg h3, if_neg h3]; exact im_le_gO hc h _
  · rw [if_pos im_all1]; exact im_le_all _
  · rw [if_pos a3, if_pos a3']; exact Or.inr (Or.inr ⟨a3, a3', sa⟩)
/-! the rounds -/
def im_J (c : Nat) (K A B C : Nat → Int32) (d : Nat → Int32 × Int32) : Nat → Int32 × Int32 := fun i => if i < c then im_dq c K A B C d i else (3, 65534)
def im_it (c : Nat) (K A B C : Nat → Int32) : Nat → Nat → Int32 × Int32
  | 0 => fun _ => (3, 65534)
  | n + 1 => im_J c K A B C (im_it c K A B C n)
section
variable {c : Nat} {K A B C : Nat → Int32}
theorem im_it_wf (hc : c < 2 ^ 31) (hp : im_Pr c K A B C) : ∀ n j, im_wf c K (im_it c K A B C n j)
  | 0, _ => Or.inl ⟨rfl, im_mk_all⟩
  | n + 1, j => by
    show im_wf c K (im_J c K A B C (im_it c K A B C n) j)
    unfold im_J
    by_cases h : j < c
    · rw [if_pos h]; exact im_wf_dq hc hp (fun j _ => im_it_wf hc hp n j) h
    · rw [if_neg h]; exact Or.inl ⟨rfl, im_mk_all⟩
theorem im_it_le (hc : c < 2 ^ 31) (hp : im_Pr c K A B C) : ∀ n j, im_le (im_it c K A B C n j) (im_it c K A B C (n + 1) j)
  | 0, _ => im_le_all _
  | n + 1, j => by
    show im_le (im_J c K A B C (im_it c K A B C n) j) (im_J c K A B C (im_it c K A B C (n + 1)) j)
    unfold im_J
    by_cases h : j < c
    · rw [if_pos h, if_pos h]
      exact im_le_dq hc (fun j _ => im_it_wf hc hp n j) (fun j _ => im_it_le hc hp n j) j
    · rw [if_neg h, if_neg h]; exact im_le_rf _
def im_h (a : Int32 × Int32) : Nat := if a.1 = 3 then 16 - im_pc a.2 else 17
theorem im_h_b (a : Int32 × Int32) : im_h a ≤ 17 := by unfold im_h; split <;> omega
theorem im_h_lt {a b : Int32 × Int32} (ha : im_wf c K a) (hb : im_wf c K b) (h : im_le a b) (hn : a ≠ b) : im_h a < im_h b := by
  have key : a.1 = 3 → b.1 = 3 → (∀ i, bt b.2 i = true → bt a.2 i = true) → im_h a < im_h b := by
    intro a3 b3 s
    have hne : a.2 ≠ b.2 := fun e => hn (Prod.ext (a3.trans b3.symm) e)
    have h1 := im_pc_lt s (fun i hi => ((im_wf_s ha a3).2 i hi).2) hne
    have h2 := im_pc_b a.2
    unfold im_h
    rw [if_pos a3, if_pos b3]
    omega
  rcases h with h | h | ⟨a3, b3, s⟩
  · exact absurd h hn
  · subst h
    by_cases b3 : b.1 = 3
    · exact key rfl b3 (fun i hi => (im_ball i).mpr ((im_wf_s hb b3).2 i hi))
    · unfold im_h
      rw [if_pos im_all1, if_neg b3]
      omega
  · exact key a3 b3 s
theorem im_h_le {a b : Int32 × Int32} (ha : im_wf c K a) (hb : im_wf c K b) (h : im_le a b) : im_h a ≤ im_h b := by
  by_cases e : a = b
  · rw [e]; exact Nat.le_refl _
  · exact Nat.le_of_lt (im_h_lt ha hb h e)
theorem im_it_out : ∀ n j, ¬ j < c → im_it c K A B C n j = (3, 65534)
  | 0, _, _ => rfl
  | n + 1, j, h => if_neg h
theorem im_it_grow (hc : c < 2 ^ 31) (hp : im_Pr c K A B C) : ∀ n, (∀ m, m < n → im_it c K A B C (m + 1) ≠ im_it c K A B C m) → n ≤ im_S (fun j => im_h (im_it c K A B C n j)) c
  | 0, _ => Nat.zero_le _
  | n + 1, h => by
    have ih := im_it_grow hc hp n (fun m hm => h m (by omega))
    have hn := h n (by omega)
    have hl : im_S (fun j => im_h (im_it c K A B C n j)) c < im_S (fun j => im_h (im_it c K A B C (n + 1) j)) c := by
      apply im_S_lt
      · intro i _
        exact im_h_le (im_it_wf hc hp n i) (im_it_wf hc hp (n + 1) i) (im_it_le hc hp n i)
      · apply Classical.byContradiction
        intro hx
        apply hn
        funext j
        by_cases hj : j < c
        · apply Classical.byContradiction
          intro e
          exact hx ⟨j, hj, im_h_lt (im_it_wf hc hp n j) (im_it_wf hc hp (n + 1) j) (im_it_le hc hp n j) (fun z => e z.symm)⟩
        · rw [im_it_out _ _ hj, im_it_out _ _ hj]
    omega
theorem im_it_st : ∀ n, im_it c K A B C (n + 1) = im_it c K A B C n → ∀ m, im_it c K A B C (n + m) = im_it c K A B C n
  | _, _, 0 => rfl
  | n, h, m + 1 => by
    have ih := im_it_st n h m
    show im_J c K A B C (im_it c K A B C (n + m)) = _
    rw [ih]
    exact h
theorem im_it_end (hc : c ≤ 32) (hp : im_Pr c K A B C) : ∃ n, n < 600 ∧ im_it c K A B C (n + 1) = im_it c K A B C n := by
  apply Classical.byContradiction
  intro hx
  have h1 := im_it_grow (K := K) (A := A) (B := B) (C := C) (c := c) (by omega) hp 600 (fun m hm e => hx ⟨m, hm, e⟩)
  have h2 := im_S_b (f := fun j => im_h (im_it c K A B C 600 j)) (b := 17) c (fun i _ => im_h_b _)
  have h3 : c * 17 ≤ 32 * 17 := Nat.mul_le_mul_right _ hc
  omega
/-- what the rounds come to -/
theorem im_it_fin (hc : c ≤ 32) (hp : im_Pr c K A B C) {n : Nat} (h : im_it c K A B C (n + 1) = im_it c K A B C n ∨ 1024 ≤ n) : im_it c K A B C n = im_it c K A B C 1024 := by
  obtain ⟨m, hm, e⟩ := im_it_end hc hp
  have e1 := im_it_st m e (1024 - m)
  rw [show m + (1024 - m) = 1024 by omega] at e1
  rcases h with h | h
  · rcases Nat.le_total n m with z | z
    · have e2 := im_it_st n h (m - n)
      rw [show n + (m - n) = m by omega] at e2
      rw [e1, e2]
    · have e2 := im_it_st m e (n - m)
      rw [show m + (n - m) = n by omega] at e2
      rw [e1, e2]
  · have e2 := im_it_st m e (n - m)
    rw [show m + (n - m) = n by omega] at e2
    rw [e1, e2]
end
