/-! the machine against the denotation: sets that hold a code, contexts, values -/
def im_hs (j : Nat) (a : Int32 × Int32) : Prop := a.1 = 3 ∧ bt a.2 j = true
def im_cd (e : Int32) (a : Int32 × Int32) : Prop := ∃ j, 1 ≤ j ∧ j < 16 ∧ e = nI j ∧ im_hs j a
theorem im_hs_all {j : Nat} (h1 : 1 ≤ j) (h2 : j < 16) : im_hs j (3, 65534) := ⟨rfl, (im_ball j).mpr ⟨h1, h2⟩⟩
theorem im_hs_l {j : Nat} {k : Int32} {a b : Int32 × Int32} (h : im_hs j a) : im_hs j (im_bin k a b) := by
  unfold im_bin
  rw [if_pos h.1]
  by_cases b3 : b.1 = 3
  · rw [if_pos b3]
    exact ⟨rfl, by show bt (a.2 ||| b.2) j = true; rw [b_or, h.2, Bool.true_or]⟩
  · rw [if_neg b3]; exact h
theorem im_hs_r {j : Nat} {k : Int32} {a b : Int32 × Int32} (h : im_hs j b) : im_hs j (im_bin k a b) := by
  unfold im_bin
  by_cases a3 : a.1 = 3
  · rw [if_pos a3, if_pos h.1]
    exact ⟨rfl, by show bt (a.2 ||| b.2) j = true; rw [b_or, h.2, Bool.or_true]⟩
  · rw [if_neg a3, if_pos h.1]; exact h
theorem im_le_ALL {c : Nat} {K : Nat → Int32} {a : Int32 × Int32} (hw : im_wf c K a) (h : im_le a (3, 65534)) : a = (3, 65534) := by
  rcases h with h | h | ⟨a3, _, s⟩
  · exact h
  · exact h
  · refine Prod.ext a3 (b_ext (fun i _ => ?_))
    by_cases z : bt a.2 i = true
    · rw [z, (im_ball i).mpr ((im_wf_s hw a3).2 i z)]
    · cases hb : bt (65534 : Int32) i with
      | false => rw [Bool.not_eq_true] at z; rw [z]
      | true => exact absurd (s i hb) z
section
variable {c : Nat} {K A B C : Nat → Int32}
theorem im_it_v (hc : c < 2 ^ 31) (hp : im_Pr c K A B C) {N : Nat} : ∀ n k, k + n = N → ∀ j, (im_it c K A B C N j).1 ≠ 3 → im_it c K A B C k j = im_it c K A B C N j ∨ im_it c K A B C k j = (3, 65534)
  | 0, k, h, j, _ => Or.inl (by rw [← h]; rfl)
  | n + 1, k, h, j, hv => by
    have hl := im_it_le hc hp k j
    rcases im_it_v hc hp n (k + 1) (by omega) j hv with e | e
    · rw [e] at hl
      rcases hl with z | z | z
      · exact Or.inl z
      · exact Or.inr z
      · exact absurd z.2.1 hv
    · rw [e] at hl
      exact Or.inr (im_le_ALL (im_it_wf hc hp k j) hl)
/-- D: what the rounds come to -/
def im_D (c : Nat) (K A B C : Nat → Int32) : Nat → Int32 × Int32 := im_it c K A B C 1024
theorem im_it_s (n : Nat) {i : Nat} (hi : i < c) : im_it c K A B C (n + 1) i = im_dq c K A B C (im_it c K A B C n) i := if_pos hi
theorem im_D_fix (hc : c ≤ 32) (hp : im_Pr c K A B C) {i : Nat} (hi : i < c) : im_D c K A B C i = im_dq c K A B C (im_D c K A B C) i := by
  have e : im_it c K A B C (1024 + 1) = im_it c K A B C 1024 := im_it_fin hc hp (Or.inr (Nat.le_succ 1024))
  have e2 := im_it_s (c := c) (K := K) (A := A) (B := B) (C := C) 1024 hi
  unfold im_D
  rw [← e2, e]
theorem im_D_wf (hc : c ≤ 32) (hp : im_Pr c K A B C) (i : Nat) : im_wf c K (im_D c K A B C i) := im_it_wf (by omega) hp 1024 i
/-- the first demand of a node -/
theorem im_ctx1 {d : Nat → Int32 × Int32} {n j : Nat} {r : Int32} (hk : K n ≠ 0 ∧ K n ≠ 1 ∧ K n ≠ 9) (hr : im_bn (K n) ∨ r = 0) (h : im_hs j (im_g c d (if r = 0 then A n else B n))) : im_hs j (im_dq c K A B C d n) := by
  unfold im_dq
  rw [if_neg hk.1, if_neg hk.2.2, if_neg hk.2.1]
  by_cases hb : im_bn (K n)
  · rw [if_pos (show 2 ≤ K n ∧ K n ≤ 6 from hb)]
    by_cases z : r = 0
    · rw [if_pos z] at h; exact im_hs_l h
    · rw [if_neg z] at h; exact im_hs_r h
  · rw [if_neg (show ¬ (2 ≤ K n ∧ K n ≤ 6) from hb)]
    rw [if_pos (hr.resolve_left hb)] at h
    rw [if_pos h.1]
    exact h
/-- the last demand of a node, its first answer w known -/
theorem im_ctx2 {d : Nat → Int32 × Int32} {n j : Nat} {r q : Int32} {w : Int32 × Int32} (hk : K n ≠ 0 ∧ K n ≠ 1 ∧ K n ≠ 9) (hr : im_bn (K n) ∨ r = 0) (hw : im_vl c K w) (hd : im_g c d (if r = 0 then A n else B n) = w ∨ im_g c d (if r = 0 then A n else B n) = (3, 65534))
    (hb : im_bn (K n) → q = if r = 0 then B n else A n) (hn : ¬ im_bn (K n) → im_ct c K A B C n w = some q) (h1 : 1 ≤ j) (h2 : j < 16) (h : im_hs j (im_g c d q)) : im_hs j (im_dq c K A B C d n) := by
  unfold im_dq
  rw [if_neg hk.1, if_neg hk.2.2, if_neg hk.2.1]
  by_cases hbn : im_bn (K n)
  · rw [if_pos (show 2 ≤ K n ∧ K n ≤ 6 from hbn)]
    rw [hb hbn] at h
    by_cases z : r = 0
    · rw [if_pos z] at h; exact im_hs_r h
    · rw [if_neg z] at h; exact im_hs_l h
  · rw [if_neg (show ¬ (2 ≤ K n ∧ K n ≤ 6) from hbn)]
    rw [if_pos (hr.resolve_left hbn)] at hd
    rcases hd with e | e
    · rw [e, if_neg (im_wf_ne hw), hn hbn]
      exact h
    · rw [e, if_pos im_all1]
      exact im_hs_all h1 h2
/-- the value of a node that isn't binary -/
theorem im_valn {d : Nat → Int32 × Int32} {n : Nat} {w : Int32 × Int32} (hk : K n ≠ 0 ∧ K n ≠ 1 ∧ K n ≠ 9) (hbn : ¬ im_bn (K n)) (hw : im_vl c K w) (hd : im_g c d (A n) = w) : im_dq c K A B C d n = im_gO c d (im_ct c K A B C n w) := by
  unfold im_dq
  rw [if_neg hk.1, if_neg hk.2.2, if_neg hk.2.1, if_neg (show ¬ (2 ≤ K n ∧ K n ≤ 6) from hbn), hd, if_neg (im_wf_ne hw)]
theorem im_valb {d : Nat → Int32 × Int32} {n : Nat} (hk : K n ≠ 0 ∧ K n ≠ 1 ∧ K n ≠ 9) (hbn : im_bn (K n)) : im_dq c K A B C d n = im_bin (K n) (im_g c d (A n)) (im_g c d (B n)) := by
  unfold im_dq
  rw [if_neg hk.1, if_neg hk.2.2, if_neg hk.2.1, if_pos (show 2 ≤ K n ∧ K n ≤ 6 from hbn)]
theorem im_cb_v {k : Int32} {a b : Int32 × Int32} (ha : im_vl c K a) (hb : im_vl c K b) (h : (im_cb k a b).1 = 1) : im_bin k a b = im_cb k a b := by
  unfold im_bin
  unfold im_cb at h ⊢
  rw [if_neg (im_wf_ne ha), if_neg (im_wf_ne hb)]
  by_cases z : a.1 = 2 ∨ b.1 = 2
  · rw [if_pos z] at h; exact absurd (show (3 : Int32) = 1 from h) (by decide)
  · rw [if_neg z] at h ⊢
    by_cases z2 : k = 5 ∧ b.2 = 0
    · rw [if_pos z2] at h; exact absurd (show (3 : Int32) = 1 from h) (by decide)
    · rw [if_neg z2] at h ⊢
      rw [if_neg z, if_neg z2]
theorem im_bt42 : bt 4 2 = true := by decide +kernel
theorem im_bt21 : bt 2 1 = true := by decide +kernel
theorem im_bt164 : bt 16 4 = true := by decide +kernel
theorem im_cb_x {k : Int32} {a b : Int32 × Int32} (ha : im_vl c K a) (hb : im_vl c K b) (h : (im_cb k a b).1 = 3) : im_cd (im_cb k a b).2 (im_bin k a b) := by
  unfold im_bin
  unfold im_cb at h ⊢
  rw [if_neg (im_wf_ne ha), if_neg (im_wf_ne hb)]
  by_cases z : a.1 = 2 ∨ b.1 = 2
  · rw [if_pos z, if_pos z]
    exact ⟨2, by omega, by omega, rfl, rfl, im_bt42⟩
  · rw [if_neg z] at h ⊢
    rw [if_neg z]
    by_cases z2 : k = 5 ∧ b.2 = 0
    · rw [if_pos z2, if_pos z2]
      exact ⟨1, by omega, by omega, rfl, rfl, im_bt21⟩
    · rw [if_neg z2] at h
      exact absurd (show (1 : Int32) = 3 from h) (by decide)
theorem im_s1_has : ∀ n, n < 16 → 5 ≤ n → bt (im_s1 (nI n)) n = true := by decide +kernel
theorem im_raise_cd {a : Int32} (h : 5 ≤ a ∧ a ≤ 15) : im_cd a (3, im_s1 a) := by
  have h0 : ¬ a < 0 := fun z => Int32.lt_irrefl (Int32.lt_of_lt_of_le z (Int32.le_trans (show (0 : Int32) ≤ 5 by decide) h.1))
  obtain ⟨j, hj, rfl⟩ := nI_of h0
  have h1 : 5 ≤ j := (nI_leI (a := 5) (by decide) hj).mp h.1
  have h2 : j ≤ 15 := (nI_leI (b := 15) hj (by decide)).mp h.2
  exact ⟨j, by omega, by omega, rfl, rfl, im_s1_has j (by omega) h1⟩
end
/-! a node added keeps every value -/
theorem im_ext_g {c : Nat} (hc : c < 32) {d d' : Nat → Int32 × Int32} (h : ∀ j, j < c → (d j).1 ≠ 3 → d' j = d j) (r : Int32) (hr : (im_g c d r).1 ≠ 3) : im_g (c + 1) d' r = im_g c d r := by
  rcases pk_ix r (show c < 2 ^ 31 by omega) with z | z | ⟨j, hj, rfl⟩
  · rw [im_g_out d (Or.inl z)] at hr
    exact absurd rfl hr
  · rw [im_g_out d (Or.inr z)] at hr
    exact absurd rfl hr
  · rw [im_g_in (by omega) d hj] at hr ⊢
    rw [im_g_in (show c + 1 ≤ 32 by omega) d' (show j < c + 1 by omega)]
    exact h j hj hr
theorem im_ext_ct {c c' : Nat} {K A B C K' A' B' C' : Nat → Int32} (hc : c < 32) (h : ∀ i, i < c → K' i = K i ∧ A' i = A i ∧ B' i = B i ∧ C' i = C i) {i : Nat} (hi : i < c) {a : Int32 × Int32} (ha : im_vl c K a) : im_ct c' K' A' B' C' i a = im_ct c K A B C i a := by
  obtain ⟨eK, eA, eB, eC⟩ := h i hi
  unfold im_ct
  rw [eK, eB, eC]
  rcases ha with z | ⟨z, j, hj, ej, _⟩
  · have z2 : ¬ a.1 = 2 := by rw [z]; decide
    simp only [if_neg z2]
  · rw [ej, nI_clamp (by omega), (h j hj).2.1, (h j hj).2.2.1]
theorem im_bin_v {k : Int32} {a b : Int32 × Int32} (h : (im_bin k a b).1 ≠ 3) : a.1 ≠ 3 ∧ b.1 ≠ 3 := by
  unfold im_bin at h
  by_cases a3 : a.1 = 3
  · rw [if_pos a3] at h
    by_cases b3 : b.1 = 3
    · rw [if_pos b3] at h; exact absurd rfl h
    · rw [if_neg b3] at h; exact absurd a3 h
  · rw [if_neg a3] at h
    by_cases b3 : b.1 = 3
    · rw [if_pos b3] at h; exact absurd b3 h
    · exact ⟨a3, b3⟩
theorem im_ext_dq {c : Nat} {K A B C K' A' B' C' : Nat → Int32} (hc : c < 32) (h : ∀ i, i < c → K' i = K i ∧ A' i = A i ∧ B' i = B i ∧ C' i = C i) {d d' : Nat → Int32 × Int32} (hw : ∀ j, j < c → im_wf c K (d j)) (hd : ∀ j, j < c → (d j).1 ≠ 3 → d' j = d j) {i : Nat} (hi : i < c) (hv : (im_dq c K A B C d i).1 ≠ 3) : im_dq (c + 1) K' A' B' C' d' i = im_dq c K A B C d i := by
  have hg := im_ext_g hc hd
  have hwa := im_wf_g (K := K) (show c < 2 ^ 31 by omega) hw (A i)
  have hct := fun (a : Int32 × Int32) (ha : im_vl c K a) => im_ext_ct (c' := c + 1) (C := C) hc h hi ha
  obtain ⟨eK, eA, eB, eC⟩ := h i hi
  unfold im_dq at hv ⊢
  rw [eK, eA, eB]
  by_cases k0 : K i = 0
  · rw [if_pos k0, if_pos k0]
  rw [if_neg k0] at hv ⊢
  rw [if_neg k0]
  by_cases k9 : K i = 9
  · rw [if_pos k9, if_pos k9]
  rw [if_neg k9] at hv ⊢
  rw [if_neg k9]
  by_cases k1 : K i = 1
  · rw [if_pos k1, if_pos k1]
  rw [if_neg k1] at hv ⊢
  rw [if_neg k1]
  by_cases hb : 2 ≤ K i ∧ K i ≤ 6
  · rw [if_pos hb] at hv ⊢
    rw [if_pos hb]
    have hab := im_bin_v hv
    rw [hg _ hab.1, hg _ hab.2]
  rw [if_neg hb] at hv ⊢
  rw [if_neg hb]
  by_cases a3 : (im_g c d (A i)).1 = 3
  · rw [if_pos a3] at hv; exact absurd a3 hv
  rw [if_neg a3] at hv ⊢
  rw [hg _ a3, if_neg a3, hct _ (im_wf_v hwa a3)]
  cases hq : im_ct c K A B C i (im_g c d (A i)) with
  | none => unfold im_gO; rfl
  | some r =>
    rw [hq] at hv
    exact hg r hv
theorem im_ext {c : Nat} {K A B C K' A' B' C' : Nat → Int32} (hc : c < 32) (hp : im_Pr c K A B C) (h : ∀ i, i < c → K' i = K i ∧ A' i = A i ∧ B' i = B i ∧ C' i = C i) : ∀ n i, i < c → (im_it c K A B C n i).1 ≠ 3 → im_it (c + 1) K' A' B' C' n i = im_it c K A B C n i := by
  intro n
  induction n with
  | zero => intro i _ hv; exact absurd im_all1 hv
  | succ n ih =>
    intro i hi hv
    rw [im_it_s n hi] at hv ⊢
    rw [im_it_s n (show i < c + 1 by omega)]
    exact im_ext_dq hc h (fun j _ => im_it_wf (show c < 2 ^ 31 by omega) hp n j) ih hi hv
