/-! the component's denotations -/
theorem im_g_in {c : Nat} (hc : c ≤ 32) (d : Nat → Int32 × Int32) {j : Nat} (hj : j < c) : im_g c d (nI j) = d j := by
  unfold im_g
  rw [if_neg (fun z => z.elim (nI_pos (by omega)) (nI_ge hj (by omega))), nI_clamp (by omega)]
theorem im_g_out {c : Nat} (d : Nat → Int32 × Int32) {r : Int32} (hr : r < 0 ∨ nI c ≤ r) : im_g c d r = (3, 16) := if_pos hr
theorem im_s1_4 : im_s1 4 = 16 := by decide
theorem im_s1_2 : im_s1 2 = 4 := by decide
theorem im_s1_1 : im_s1 1 = 2 := by decide
section
variable {cap : Int32} {c : Nat} {scr la : Int64} {K A B C : Nat → Int32} {dX nX : Nat → Int64} {sX : Nat → Int64} {inn : Int32} {dem stg rf : Nat → Int32} {eo : Nat → Int64} {xp : Int32} {ans : Int64}
theorem xo_denOf {post : Int64 → Prop} (hc : c ≤ 32) {d : Nat → Int32 × Int32} (hd : ∀ j, j < c → dX j = im_P (d j).1 (d j).2) {r : Int32} (h : post (im_P (im_g c d r).1 (im_g c d r).2)) : wpX_denotationOf post (cap, nI c, scr, la, inn, xp, ans, K, A, B, C, sX, dX, nX, dem, stg, rf, eo) r := by
  unfold wpX_denotationOf
  dsimp only
  rcases pk_ix r (show c < 2 ^ 31 by omega) with z | z | ⟨j, hj, rfl⟩
  · rw [im_g_out d (Or.inl z)] at h
    exact xo_isNode_f hc (Or.inl z) (br_t rfl (xo_singleton (by rw [im_s1_4]; exact h)))
  · rw [im_g_out d (Or.inr z)] at h
    exact xo_isNode_f hc (Or.inr z) (br_t rfl (xo_singleton (by rw [im_s1_4]; exact h)))
  · rw [im_g_in hc d hj] at h
    refine xo_isNode_t hc hj (br_f (by decide) ⟨vp_in_nI (by omega) (by decide), ?_⟩)
    rw [nI_clamp (by omega), hd j hj]
    exact h
theorem xo_cden {post : Int64 → Prop} {k : Int32} (hk : im_bn k) {a b : Int32 × Int32} (ha : im_wf c K a) (hb : im_wf c K b) (h : post (im_P (im_bin k a b).1 (im_bin k a b).2)) : wpX_combineDenotations post () k (im_P a.1 a.2) (im_P b.1 b.2) := by
  unfold wpX_combineDenotations
  refine xo_exceptionOf (xo_exceptionOf ?_)
  unfold im_bin at h
  by_cases a3 : a.1 = 3
  · have a0 : ¬ a.2 = 0 := (im_wf_s ha a3).1
    rw [if_pos a3] at h ⊢
    refine br_f a0 ?_
    by_cases b3 : b.1 = 3
    · rw [if_pos b3] at h ⊢
      exact h
    · rw [if_neg b3, a3] at h
      rw [if_neg b3]
      unfold wX_combineDenotations_22
      rw [Int32.or_zero]
      exact h
  · rw [if_neg a3] at h ⊢
    refine br_t rfl ?_
    by_cases b3 : b.1 = 3
    · have b0 : ¬ b.2 = 0 := (im_wf_s hb b3).1
      rw [if_pos b3, b3] at h
      rw [if_pos b3]
      refine br_f b0 ?_
      unfold wX_combineDenotations_22
      rw [Int32.zero_or]
      exact h
    · rw [if_neg b3] at h ⊢
      refine br_t rfl (xo_combine hk (xo_exceptionOf ?_))
      unfold im_cb
      by_cases p2 : a.1 = 2 ∨ b.1 = 2
      · rw [if_pos p2] at h ⊢
        exact br_f (by decide) (xo_singleton (by rw [if_pos rfl, im_s1_2]; exact h))
      · rw [if_neg p2] at h ⊢
        by_cases d0 : k = 5 ∧ b.2 = 0
        · rw [if_pos d0] at h ⊢
          exact br_f (by decide) (xo_singleton (by rw [if_pos rfl, im_s1_1]; exact h))
        · rw [if_neg d0] at h ⊢
          exact br_t (if_neg (show ¬ (1 : Int32) = 3 by decide)) h
theorem xo_eq {post : Int64 → Prop} (hc : c ≤ 32) (hp : im_Pr c K A B C) {d : Nat → Int32 × Int32} (hd : ∀ j, j < c → dX j = im_P (d j).1 (d j).2) (hw : ∀ j, j < c → im_wf c K (d j)) {i : Nat} (hi : i < c) (h : post (im_P (im_dq c K A B C d i).1 (im_dq c K A B C d i).2)) : wpX_equation post (cap, nI c, scr, la, inn, xp, ans, K, A, B, C, sX, dX, nX, dem, stg, rf, eo) (nI i) := by
  have cl : (nI i).toNatClampNeg = i := nI_clamp (by omega)
  have vi : vp_in (nI i) 32 := vp_in_nI (by omega) (by decide)
  unfold wpX_equation
  dsimp only
  rw [cl]
  refine ⟨vi, nm_e ?_⟩
  unfold im_dq at h
  by_cases k0 : K i = 0
  · rw [if_pos k0] at h
    refine br_t k0 ?_
    unfold wX_equation_17
    refine xo_init (by omega) ?_
    unfold im_is im_ik
    rw [if_pos k0]
    exact h
  rw [if_neg k0] at h
  refine br_f k0 ?_
  by_cases k9 : K i = 9
  · rw [if_pos k9] at h
    refine br_t k9 ?_
    unfold wX_equation_17
    refine xo_init (by omega) ?_
    unfold im_is im_ik
    rw [if_neg k0, if_pos k9]
    exact h
  rw [if_neg k9] at h
  refine br_f k9 ?_
  by_cases k1 : K i = 1
  · rw [if_pos k1] at h
    exact br_t k1 ⟨vi, xo_singleton h⟩
  rw [if_neg k1] at h
  refine br_f k1 ⟨vi, xo_denOf hc hd ?_⟩
  have hwa := im_wf_g (K := K) (show c < 2 ^ 31 by omega) hw (A i)
  by_cases hb : im_bn (K i)
  · rw [if_pos (show 2 ≤ K i ∧ K i ≤ 6 from hb)] at h
    exact xo_isBinary_t hb (br_f (by decide) ⟨vi, xo_denOf hc hd (xo_cden hb hwa (im_wf_g (K := K) (show c < 2 ^ 31 by omega) hw (B i)) h)⟩)
  rw [if_neg (show ¬ (2 ≤ K i ∧ K i ≤ 6) from hb)] at h
  refine xo_isBinary_f hb (br_t rfl (xo_kindOf ?_))
  by_cases a3 : (im_g c d (A i)).1 = 3
  · rw [if_pos a3] at h
    exact br_t a3 h
  rw [if_neg a3] at h
  have hv := im_wf_v hwa a3
  refine br_f a3 (xo_cont hc hi hv ?_)
  cases hct : im_ct c K A B C i (im_g c d (A i)) with
  | none =>
    rw [hct] at h
    exact br_t rfl (xo_singleton (by rw [im_s1_2]; exact h))
  | some r =>
    rw [hct] at h
    exact br_f (im_ct_ne hp hi k0 k1 hb hv hc hct) (xo_denOf hc hd h)
end
