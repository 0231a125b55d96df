/-! the component's methods, each over a general post -/
def im_bt (scr : Int64) (p : Int32) : Int32 := ((scr.toUInt64 >>> (p.toInt64.toUInt64 &&& Int64.toUInt64 63)).toInt64 &&& 1).toInt32
theorem im_b1 (w : Int64) : (w &&& 1).toInt32 = w.toInt32 &&& 1 := by
  apply b_ext
  intro i hi
  have h : ∀ i, i < 32 → (1 : Int64).toBitVec.getLsbD i = bt 1 i := by decide +kernel
  rw [b_and, im_t32 _ hi, im_t32 _ hi, Int64.toBitVec_and, BitVec.getLsbD_and, h i hi]
theorem im_a1 (x : Int32) : x &&& 1 = 0 ∨ x &&& 1 = 1 := by
  have h1 : ∀ i, i < 32 → bt 1 i = decide (i = 0) := by decide +kernel
  cases hb : bt x 0
  · left
    apply b_ext
    intro i hi
    rw [b_and, b_0, h1 i hi]
    by_cases e : i = 0
    · subst e; rw [hb]; rfl
    · simp [e]
  · right
    apply b_ext
    intro i hi
    rw [b_and, h1 i hi]
    by_cases e : i = 0
    · subst e; rw [hb]; rfl
    · simp [e]
theorem im_bt01 (scr : Int64) (p : Int32) : im_bt scr p = 0 ∨ im_bt scr p = 1 := by
  unfold im_bt
  rw [im_b1]
  exact im_a1 _
def im_cb (k : Int32) (a b : Int32 × Int32) : Int32 × Int32 := if a.1 = 2 ∨ b.1 = 2 then (3, 2) else if k = 5 ∧ b.2 = 0 then (3, 1) else (1, im_ar k a.2 b.2)
theorem im_cb_1 {k : Int32} {a b : Int32 × Int32} (h : (im_cb k a b).1 ≠ 3) : (im_cb k a b).1 = 1 := by
  unfold im_cb at h ⊢
  split at h
  · exact absurd rfl h
  · split at h
    · exact absurd rfl h
    · rename_i h1 h2
      rw [if_neg h1, if_neg h2]
def im_cr : Option Int32 → Int32
  | none => -1
  | some r => r
theorem im_p {α : Sort _} {P : α → Prop} {a b : α} (e : a = b) (h : P b) : P a := e ▸ h
theorem im_234 (x : Int32) (h2 : 2 ≤ x) (h5 : x < 5) : x = 2 ∨ x = 3 ∨ x = 4 := by
  have h0 : ¬ x < 0 := fun z => Int32.lt_irrefl (Int32.lt_of_lt_of_le z (Int32.le_trans (show (0 : Int32) ≤ 2 by decide) h2))
  obtain ⟨j, hj, rfl⟩ := nI_of h0
  have a : 2 ≤ j := (nI_leI (a := 2) (by decide) hj).mp h2
  have b : j < 5 := (nI_ltI (b := 5) hj (by decide)).mp h5
  have e : j = 2 ∨ j = 3 ∨ j = 4 := by omega
  rcases e with rfl | rfl | rfl
  · exact Or.inl rfl
  · exact Or.inr (Or.inl rfl)
  · exact Or.inr (Or.inr rfl)
theorem im_vb0 : vp_nar .boolean 0 = 0 := by decide
theorem im_vb1 : vp_nar .boolean 1 = 1 := by decide
theorem im_nb {k : Int32} {P Q : Prop} (hb : ¬ im_bn k) (h : P) : (k < 2 → P) ∧ (¬ k < 2 → ((6 < k → P) ∧ (¬ 6 < k → Q))) := by
  by_cases h2 : k < 2
  · exact br_t h2 h
  · by_cases h6 : 6 < k
    · exact br_f h2 (br_t h6 h)
    · exact absurd ⟨Int32.not_lt.mp h2, Int32.not_lt.mp h6⟩ hb
theorem im_yb {k : Int32} {P Q : Prop} (hb : im_bn k) (h : Q) : (k < 2 → P) ∧ (¬ k < 2 → ((6 < k → P) ∧ (¬ 6 < k → Q))) := br_f (Int32.not_lt.mpr hb.1) (br_f (Int32.not_lt.mpr hb.2) h)
section
variable {post : Int64 → Prop} {posti : Int32 → Prop}
theorem xo_outcome {k v : Int32} (h : post (im_P k v)) : wpX_outcome post () k v := h
theorem xo_kindOf {k v : Int32} (h : posti k) : wpX_kindOf posti () (im_P k v) := im_p (P := posti) (im_kind k v) h
theorem xo_payloadOf {k v : Int32} (h : posti v) : wpX_payloadOf posti () (im_P k v) := im_p (P := posti) (im_pay k v) h
theorem xo_exceptionOf {k v : Int32} (h : posti (if k = 3 then v else 0)) : wpX_exceptionOf posti () (im_P k v) := by
  by_cases e : k = 3
  · rw [if_pos e] at h
    exact br_t ((im_is3 k v).mpr e) (im_p (P := posti) (im_pay k v) h)
  · rw [if_neg e] at h
    exact br_f (fun z => e ((im_is3 k v).mp z)) h
theorem xo_valueOf {k v : Int32} (h : posti (if k = 3 then 0 else v)) : wpX_valueOf posti () (im_P k v) := by
  by_cases e : k = 3
  · rw [if_pos e] at h
    exact br_t ((im_is3 k v).mpr e) h
  · rw [if_neg e] at h
    exact br_f (fun z => e ((im_is3 k v).mp z)) (im_p (P := posti) (im_pay k v) h)
theorem xo_singleton {x : Int32} (h : post (im_P 3 (im_s1 x))) : wpX_singleton post () x := h
theorem xo_isBinary_t {k : Int32} (hk : im_bn k) (h : posti 1) : wpX_isBinary posti () k := by
  exact im_yb hk h
theorem xo_isBinary_f {k : Int32} (hk : ¬ im_bn k) (h : posti 0) : wpX_isBinary posti () k := by
  exact im_nb hk h
theorem xo_combine {k : Int32} {a b : Int32 × Int32} (hk : im_bn k) (h : post (im_P (im_cb k a b).1 (im_cb k a b).2)) : wpX_combine post () k (im_P a.1 a.2) (im_P b.1 b.2) := by
  unfold wpX_combine
  refine xo_kindOf ?_
  unfold im_cb at h
  by_cases a2 : a.1 = 2
  · rw [if_pos (Or.inl a2)] at h
    exact br_t a2 h
  · refine br_f a2 (xo_kindOf ?_)
    by_cases b2 : b.1 = 2
    · rw [if_pos (Or.inr b2)] at h
      exact br_t b2 h
    · rw [if_neg (fun z => z.elim a2 b2)] at h
      refine br_f b2 (xo_payloadOf (xo_payloadOf (br_f (Int32.not_lt.mpr hk.1) ?_)))
      by_cases k2 : k = 2
      · subst k2
        rw [if_neg (fun z => absurd z.1 (by decide))] at h
        exact br_f (by decide) (br_t rfl h)
      by_cases k3 : k = 3
      · subst k3
        rw [if_neg (fun z => absurd z.1 (by decide))] at h
        exact br_f (by decide) (br_f (by decide) (br_t rfl h))
      by_cases k4 : k = 4
      · subst k4
        rw [if_neg (fun z => absurd z.1 (by decide))] at h
        exact br_f (by decide) (br_f (by decide) (br_f (by decide) (br_t rfl h)))
      by_cases k5 : k = 5
      · subst k5
        refine br_f (by decide) (br_f (by decide) (br_f (by decide) (br_f (by decide) (br_t rfl ?_))))
        by_cases y0 : b.2 = 0
        · rw [if_pos ⟨rfl, y0⟩] at h
          exact br_t y0 h
        · rw [if_neg (fun z => y0 z.2)] at h
          have e : im_ar 5 a.2 b.2 = a.2 / b.2 := by
            unfold im_ar
            rw [if_neg (by decide), if_neg (by decide), if_neg (by decide), if_pos rfl, if_neg y0]
          rw [e] at h
          exact br_f y0 ⟨y0, h⟩
      · rw [if_neg (fun z => k5 z.1)] at h
        have e : im_ar k a.2 b.2 = if a.2 < b.2 then 1 else 0 := by
          unfold im_ar
          rw [if_neg k2, if_neg k3, if_neg k4, if_neg k5]
        rw [e] at h
        have h5 : 5 < k := by
          rcases Int32.lt_or_eq_of_le (Int32.not_lt.mp (fun z : k < 5 => by
            have h6 : ∀ x : Int32, 2 ≤ x → x < 5 → x = 2 ∨ x = 3 ∨ x = 4 := im_234
            rcases h6 k hk.1 z with q | q | q
            · exact k2 q
            · exact k3 q
            · exact k4 q)) with z | z
          · exact z
          · exact absurd z.symm k5
        refine br_t h5 ?_
        by_cases z : b.2 ≤ a.2
        · rw [if_neg (Int32.not_lt.mpr z)] at h
          exact br_t z h
        · rw [if_pos (Int32.not_le.mp z)] at h
          exact br_f z h
end
section
variable {cap : Int32} {c : Nat} {scr la : Int64} {K A B C : Nat → Int32} {dX nX : Nat → Int64} {sX : Nat → Int64} {inn : Int32} {dem stg rf : Nat → Int32} {eo : Nat → Int64} {xp : Int32} {ans : Int64}
theorem xo_isNode_t {post : Int32 → Prop} (hc : c ≤ 32) {j : Nat} (hj : j < c) (h : post 1) : wpX_isNode post (cap, nI c, scr, la, inn, xp, ans, K, A, B, C, sX, dX, nX, dem, stg, rf, eo) (nI j) := by
  unfold wpX_isNode
  exact br_f (nI_pos (by omega)) (br_f (nI_ge hj (by omega)) h)
theorem xo_isNode_f {post : Int32 → Prop} (hc : c ≤ 32) {r : Int32} (hr : r < 0 ∨ nI c ≤ r) (h : post 0) : wpX_isNode post (cap, nI c, scr, la, inn, xp, ans, K, A, B, C, sX, dX, nX, dem, stg, rf, eo) r := by
  unfold wpX_isNode
  by_cases z : r < 0
  · exact br_t z h
  · exact br_f z (br_t (hr.resolve_left z) h)
theorem xo_init {post : Int64 → Prop} {i : Nat} (hi : i < 32) (h : post (im_is K A i)) : wpX_initialState post (cap, nI c, scr, la, inn, xp, ans, K, A, B, C, sX, dX, nX, dem, stg, rf, eo) (nI i) := by
  have cl : (nI i).toNatClampNeg = i := nI_clamp (by omega)
  have vi : vp_in (nI i) 32 := vp_in_nI hi (by decide)
  unfold wpX_initialState
  dsimp only
  rw [cl]
  unfold im_is im_ik at h
  by_cases h0 : K i = 0
  · rw [if_pos h0] at h
    exact ⟨vi, br_t h0 ⟨vi, h⟩⟩
  · rw [if_neg h0] at h
    by_cases h9 : K i = 9
    · rw [if_pos h9] at h
      exact ⟨vi, br_f h0 ⟨vi, br_t h9 h⟩⟩
    · rw [if_neg h9] at h
      have h : post (im_P 3 0) := h
      rw [im_P30] at h
      exact ⟨vi, br_f h0 ⟨vi, br_f h9 h⟩⟩
theorem xo_cont {post : Int32 → Prop} (hc : c ≤ 32) {n : Nat} (hn : n < c) {a : Int32 × Int32} (ha : im_vl c K a) (h : post (im_cr (im_ct c K A B C n a))) : wpX_continuation post (cap, nI c, scr, la, inn, xp, ans, K, A, B, C, sX, dX, nX, dem, stg, rf, eo) (nI n) (im_P a.1 a.2) := by
  have cl : (nI n).toNatClampNeg = n := nI_clamp (by omega)
  have vi : vp_in (nI n) 32 := vp_in_nI (by omega) (by decide)
  unfold wpX_continuation
  dsimp only
  refine xo_payloadOf (xo_kindOf ?_)
  by_cases a2 : a.1 = 2
  · rcases ha with ha | ⟨_, j, hj, ej, _⟩
    · exact absurd (ha.symm.trans a2) (by decide)
    · refine br_t a2 ?_
      have clj : (nI j).toNatClampNeg = j := nI_clamp (by omega)
      have vj : vp_in (nI j) 32 := vp_in_nI (by omega) (by decide)
      rw [ej]
      refine xo_isNode_t hc hj (br_f (by decide) ?_)
      unfold wX_continuation_28 wX_continuation_122
      rw [cl, clj]
      refine ⟨vi, nm_e ?_⟩
      unfold im_ct at h
      rw [ej, clj] at h
      by_cases h7 : K n = 7
      · rw [if_pos h7, if_pos a2] at h
        exact br_f (by rw [h7]; decide) (br_f (by rw [h7]; decide) (br_t h7 (br_f (by decide) h)))
      · rw [if_neg h7] at h
        by_cases h8 : K n = 8
        · rw [if_pos h8] at h
          exact br_f (by rw [h8]; decide) (br_f (by rw [h8]; decide) (br_f h7 (br_t h8 ⟨vi, h⟩)))
        · rw [if_neg h8, if_pos a2] at h
          by_cases h10 : K n = 10
          · rw [if_pos h10] at h
            exact br_f (by rw [h10]; decide) (br_f (by rw [h10]; decide) (br_f h7 (br_f h8 (br_f (by rw [h10]; decide) (br_t h10 (br_f (by decide) ⟨vj, h⟩))))))
          · rw [if_neg h10] at h
            have hh : ((1 : Int32) = 0 → post (-1)) ∧ (¬ (1 : Int32) = 0 → vp_in (nI j) 32 ∧ post (B j)) := br_f (by decide) ⟨vj, h⟩
            refine br_c (fun _ => hh) (fun _ => br_c (fun _ => hh) (fun _ => br_f h7 (br_f h8 (br_c (fun _ => hh) (fun _ => br_f h10 trivial)))))
  · refine br_f a2 ?_
    unfold wX_continuation_27 wX_continuation_28 wX_continuation_122
    rw [cl]
    refine ⟨vi, nm_e ?_⟩
    unfold im_ct at h
    by_cases h7 : K n = 7
    · rw [if_pos h7, if_neg a2] at h
      refine br_f (by rw [h7]; decide) (br_f (by rw [h7]; decide) (br_t h7 (br_t rfl ?_)))
      by_cases z : a.2 = 0
      · rw [if_pos z] at h
        exact br_t z ⟨vi, h⟩
      · rw [if_neg z] at h
        exact br_f z ⟨vi, h⟩
    · rw [if_neg h7] at h
      by_cases h8 : K n = 8
      · rw [if_pos h8] at h
        exact br_f (by rw [h8]; decide) (br_f (by rw [h8]; decide) (br_f h7 (br_t h8 ⟨vi, h⟩)))
      · rw [if_neg h8, if_neg a2] at h
        refine br_c (fun _ => br_t rfl h) (fun _ => br_c (fun _ => br_t rfl h) (fun _ => br_f h7 (br_f h8 (br_c (fun _ => br_t rfl h) (fun _ => br_c (fun _ => br_t rfl h) (fun _ => trivial))))))
theorem xd_miss {post : St2 → Prop} (hc : c ≤ 32) {r : Int32} (hr : r < 0 ∨ nI c ≤ r) (h : post (cap, nI c, scr, la, inn, xp, im_P 3 4, K, A, B, C, sX, dX, nX, dem, stg, rf, eo)) : wpX_demand post (cap, nI c, scr, la, inn, xp, ans, K, A, B, C, sX, dX, nX, dem, stg, rf, eo) r := by
  unfold wpX_demand
  exact xo_isNode_f hc hr (br_t rfl h)
theorem xd_val {post : St2 → Prop} (hc : c ≤ 32) {j : Nat} (hj : j < c) {k v : Int32} (hs : sX j = im_P k v) (hk : k ≠ 3) (h : post (cap, nI c, scr, la, inn, xp, im_P k v, K, A, B, C, sX, dX, nX, dem, stg, rf, eo)) : wpX_demand post (cap, nI c, scr, la, inn, xp, ans, K, A, B, C, sX, dX, nX, dem, stg, rf, eo) (nI j) := by
  have cl : (nI j).toNatClampNeg = j := nI_clamp (by omega)
  have vj : vp_in (nI j) 32 := vp_in_nI (by omega) (by decide)
  unfold wpX_demand
  dsimp only
  rw [cl]
  refine xo_isNode_t hc hj (br_f (by decide) ⟨vj, ?_⟩)
  rw [hs]
  exact xo_kindOf (br_f hk ⟨vj, nm_e h⟩)
theorem xd_raise {post : St2 → Prop} (hc : c ≤ 32) {j : Nat} (hj : j < c) {v : Int32} (hs : sX j = im_P 3 v) (hk : K j = 1) (h : post (cap, nI c, scr, la, inn, xp, im_P 3 (A j), K, A, B, C, sX, dX, nX, dem, stg, rf, eo)) : wpX_demand post (cap, nI c, scr, la, inn, xp, ans, K, A, B, C, sX, dX, nX, dem, stg, rf, eo) (nI j) := by
  have cl : (nI j).toNatClampNeg = j := nI_clamp (by omega)
  have vj : vp_in (nI j) 32 := vp_in_nI (by omega) (by decide)
  unfold wpX_demand
  dsimp only
  rw [cl]
  refine xo_isNode_t hc hj (br_f (by decide) ⟨vj, ?_⟩)
  rw [hs]
  exact xo_kindOf (br_t rfl ⟨vj, br_t hk ⟨vj, h⟩⟩)
theorem xd_loop {post : St2 → Prop} (hc : c ≤ 32) {j : Nat} (hj : j < c) {v : Int32} (hs : sX j = im_P 3 v) (hk : K j ≠ 1) (hg : stg j ≠ 0) (h : post (cap, nI c, scr, la, inn, xp, im_P 3 3, K, A, B, C, sX, dX, nX, dem, stg, rf, eo)) : wpX_demand post (cap, nI c, scr, la, inn, xp, ans, K, A, B, C, sX, dX, nX, dem, stg, rf, eo) (nI j) := by
  have cl : (nI j).toNatClampNeg = j := nI_clamp (by omega)
  have vj : vp_in (nI j) 32 := vp_in_nI (by omega) (by decide)
  unfold wpX_demand
  dsimp only
  rw [cl]
  refine xo_isNode_t hc hj (br_f (by decide) ⟨vj, ?_⟩)
  rw [hs]
  exact xo_kindOf (br_t rfl ⟨vj, br_f hk ⟨vj, br_f hg h⟩⟩)
theorem xd_enter {post : St2 → Prop} (hc : c ≤ 32) {j : Nat} (hj : j < c) {v : Int32} (hs : sX j = im_P 3 v) (hk : K j ≠ 1) (hg : stg j = 0) (h : post (cap, nI c, scr, la, nI j, xp, 0, K, A, B, C, sX, dX, nX, upd dem j inn, upd stg j 1, rf, eo)) : wpX_demand post (cap, nI c, scr, la, inn, xp, ans, K, A, B, C, sX, dX, nX, dem, stg, rf, eo) (nI j) := by
  have cl : (nI j).toNatClampNeg = j := nI_clamp (by omega)
  have vj : vp_in (nI j) 32 := vp_in_nI (by omega) (by decide)
  unfold wpX_demand
  dsimp only
  rw [cl]
  refine xo_isNode_t hc hj (br_f (by decide) ⟨vj, ?_⟩)
  rw [hs]
  refine xo_kindOf (br_t rfl ⟨vj, br_f hk ⟨vj, br_t hg ?_⟩⟩)
  unfold wpX_enter
  dsimp only
  rw [cl]
  exact ⟨vj, nm_e ⟨vj, nm_e h⟩⟩
theorem xs_first_b {post : St2 → Prop} (hc : c ≤ 32) {n : Nat} (hn : n < c) (hb : im_bn (K n)) {b : Int32} (hbe : im_bt scr xp = b) (hb01 : b = 0 ∨ b = 1) (h : wpX_demand post (cap, nI c, scr, la, inn, (xp + 1) &&& 63, ans, K, A, B, C, sX, dX, nX, dem, upd stg n 2, upd rf n b, eo) (if b = 0 then A n else B n)) : wpX_demandFirst post (cap, nI c, scr, la, inn, xp, ans, K, A, B, C, sX, dX, nX, dem, stg, rf, eo) (nI n) := by
  have cl : (nI n).toNatClampNeg = n := nI_clamp (by omega)
  have vn : vp_in (nI n) 32 := vp_in_nI (by omega) (by decide)
  unfold wpX_demandFirst
  dsimp only
  rw [cl]
  refine ⟨vn, nm_e ⟨vn, xo_isBinary_t hb (br_f (by decide) ?_)⟩⟩
  unfold wpX_takeScriptBit
  dsimp only
  refine nm_r ((im_b1 _).symm.trans hbe) (nm_e ?_)
  rcases hb01 with rfl | rfl
  · rw [if_pos rfl] at h
    refine br_f (by decide) ?_
    unfold wX_demandFirst_37
    rw [cl]
    refine ⟨vn, nm_r (by rw [im_vb0]) ?_⟩
    unfold wX_demandFirst_38 wX_demandFirst_63
    rw [cl]
    exact ⟨vn, br_t pk_us ⟨vn, h⟩⟩
  · rw [if_neg (by decide)] at h
    refine br_t rfl ?_
    unfold wX_demandFirst_37
    rw [cl]
    refine ⟨vn, nm_r (by rw [im_vb1]) ?_⟩
    unfold wX_demandFirst_38 wX_demandFirst_63
    rw [cl]
    exact ⟨vn, br_f (by rw [pk_us]; decide) ⟨vn, h⟩⟩
theorem xs_first_n {post : St2 → Prop} (hc : c ≤ 32) {n : Nat} (hn : n < c) (hb : ¬ im_bn (K n)) (hr : rf n = 0) (h : wpX_demand post (cap, nI c, scr, la, inn, xp, ans, K, A, B, C, sX, dX, nX, dem, upd stg n 2, rf, eo) (A n)) : wpX_demandFirst post (cap, nI c, scr, la, inn, xp, ans, K, A, B, C, sX, dX, nX, dem, stg, rf, eo) (nI n) := by
  have cl : (nI n).toNatClampNeg = n := nI_clamp (by omega)
  have vn : vp_in (nI n) 32 := vp_in_nI (by omega) (by decide)
  unfold wpX_demandFirst
  dsimp only
  rw [cl]
  refine ⟨vn, nm_e ⟨vn, xo_isBinary_f hb (br_t rfl ?_)⟩⟩
  unfold wX_demandFirst_38 wX_demandFirst_63
  rw [cl]
  exact ⟨vn, br_t hr ⟨vn, h⟩⟩
theorem xo_lastRef_b {post : Int32 → Prop} (hc : c ≤ 32) {n : Nat} (hn : n < c) (hb : im_bn (K n)) (h : post (if rf n = 0 then B n else A n)) : wpX_lastReference post (cap, nI c, scr, la, inn, xp, ans, K, A, B, C, sX, dX, nX, dem, stg, rf, eo) (nI n) := by
  have cl : (nI n).toNatClampNeg = n := nI_clamp (by omega)
  have vn : vp_in (nI n) 32 := vp_in_nI (by omega) (by decide)
  unfold wpX_lastReference
  dsimp only
  rw [cl]
  refine ⟨vn, xo_isBinary_t hb (br_f (by decide) ⟨vn, ?_⟩)⟩
  by_cases z : rf n = 0
  · rw [if_pos z] at h
    exact br_t z ⟨vn, h⟩
  · rw [if_neg z] at h
    exact br_f z ⟨vn, h⟩
theorem xo_lastRef_n {post : Int32 → Prop} (hc : c ≤ 32) {n : Nat} (hn : n < c) (hb : ¬ im_bn (K n)) {rk rv : Int32} (hv : im_vl c K (rk, rv)) (h : post (im_cr (im_ct c K A B C n (rk, rv)))) : wpX_lastReference post (cap, nI c, scr, la, inn, xp, im_P rk rv, K, A, B, C, sX, dX, nX, dem, stg, rf, eo) (nI n) := by
  have cl : (nI n).toNatClampNeg = n := nI_clamp (by omega)
  have vn : vp_in (nI n) 32 := vp_in_nI (by omega) (by decide)
  unfold wpX_lastReference
  dsimp only
  rw [cl]
  exact ⟨vn, xo_isBinary_f hb (br_t rfl (xo_cont (a := (rk, rv)) hc hn hv h))⟩
theorem xs_last_b {post : St2 → Prop} (hc : c ≤ 32) {n : Nat} (hn : n < c) (hb : im_bn (K n)) (hr : rf n = 0 ∨ rf n = 1) (hne : (if rf n = 0 then B n else A n) ≠ -1) (h : wpX_demand post (cap, nI c, scr, la, inn, xp, ans, K, A, B, C, sX, dX, nX, dem, upd stg n 3, rf, vp_updL eo n ans) (if rf n = 0 then B n else A n)) : wpX_demandLast post (cap, nI c, scr, la, inn, xp, ans, K, A, B, C, sX, dX, nX, dem, stg, rf, eo) (nI n) := by
  have cl : (nI n).toNatClampNeg = n := nI_clamp (by omega)
  have vn : vp_in (nI n) 32 := vp_in_nI (by omega) (by decide)
  unfold wpX_demandLast
  dsimp only
  rw [cl]
  refine ⟨vn, nm_e ⟨vn, nm_e ?_⟩⟩
  exact xo_lastRef_b hc hn hb (br_f hne h)
theorem xs_last_none {post : St2 → Prop} (hc : c ≤ 32) {n : Nat} (hn : n < c) (hk : K n ≠ 0 ∧ K n ≠ 1 ∧ K n ≠ 9) (hb : ¬ im_bn (K n)) {rk rv : Int32} (hans : ans = im_P rk rv) (hv : im_vl c K (rk, rv)) (hct : im_ct c K A B C n (rk, rv) = none) (h : post (cap, nI c, scr, la, inn, xp, im_P 3 2, K, A, B, C, sX, dX, nX, dem, upd stg n 3, rf, vp_updL eo n ans)) : wpX_demandLast post (cap, nI c, scr, la, inn, xp, ans, K, A, B, C, sX, dX, nX, dem, stg, rf, eo) (nI n) := by
  have cl : (nI n).toNatClampNeg = n := nI_clamp (by omega)
  have vn : vp_in (nI n) 32 := vp_in_nI (by omega) (by decide)
  subst hans
  unfold wpX_demandLast
  dsimp only
  rw [cl]
  refine ⟨vn, nm_e ⟨vn, nm_e ?_⟩⟩
  exact xo_lastRef_n hc hn hb hv (by rw [hct]; exact br_t rfl h)
theorem xs_last_some {post : St2 → Prop} (hc : c ≤ 32) {n : Nat} (hn : n < c) (hk : K n ≠ 0 ∧ K n ≠ 1 ∧ K n ≠ 9) (hb : ¬ im_bn (K n)) {rk rv : Int32} (hans : ans = im_P rk rv) (hv : im_vl c K (rk, rv)) {r : Int32} (hct : im_ct c K A B C n (rk, rv) = some r) (hne : r ≠ -1) (h : wpX_demand post (cap, nI c, scr, la, inn, xp, ans, K, A, B, C, sX, dX, nX, dem, upd stg n 3, rf, vp_updL eo n ans) r) : wpX_demandLast post (cap, nI c, scr, la, inn, xp, ans, K, A, B, C, sX, dX, nX, dem, stg, rf, eo) (nI n) := by
  have cl : (nI n).toNatClampNeg = n := nI_clamp (by omega)
  have vn : vp_in (nI n) 32 := vp_in_nI (by omega) (by decide)
  subst hans
  unfold wpX_demandLast
  dsimp only
  rw [cl]
  refine ⟨vn, nm_e ⟨vn, nm_e ?_⟩⟩
  exact xo_lastRef_n hc hn hb hv (by rw [hct]; exact br_f hne h)
theorem x75_v {post : St2 → Prop} {n : Nat} (hn : n < 32) {k v : Int32} (h3 : k ≠ 3) (h : post (cap, nI c, scr, la, dem n, xp, im_P k v, K, A, B, C, vp_updL sX n (im_P k v), dX, nX, dem, upd stg n 0, rf, eo)) : wX_finish_75 post (nI n) cap (nI c) scr la inn xp (im_P k v) K A B C sX dX nX dem stg rf eo := by
  have cl : (nI n).toNatClampNeg = n := nI_clamp (by omega)
  have vn : vp_in (nI n) 32 := vp_in_nI (by omega) (by decide)
  unfold wX_finish_75
  rw [cl]
  exact xo_kindOf (br_f h3 ⟨vn, nm_e ⟨vn, nm_e ⟨vn, nm_e h⟩⟩⟩)
theorem x75_x {post : St2 → Prop} {n : Nat} {v : Int32} (h : post (cap, nI c, scr, la, inn, xp, im_P 3 v, K, A, B, C, sX, dX, nX, dem, stg, rf, eo)) : wX_finish_75 post (nI n) cap (nI c) scr la inn xp (im_P 3 v) K A B C sX dX nX dem stg rf eo := by
  unfold wX_finish_75
  exact xo_kindOf (br_t rfl h)
theorem x57 {post : St2 → Prop} {n : Nat} (hn : n < 32) (hb : im_bn (K n)) (hr : rf n = 0 ∨ rf n = 1) {rk rv ek ev : Int32} (heo : eo n = im_P ek ev) {q : Int32 × Int32} (hq : im_cb (K n) (if rf n = 0 then (ek, ev) else (rk, rv)) (if rf n = 0 then (rk, rv) else (ek, ev)) = q) (h : wX_finish_75 post (nI n) cap (nI c) scr la inn xp (im_P q.1 q.2) K A B C sX dX nX dem stg rf eo) : wpX_finish post (cap, nI c, scr, la, inn, xp, im_P rk rv, K, A, B, C, sX, dX, nX, dem, stg, rf, eo) (nI n) := by
  have cl : (nI n).toNatClampNeg = n := nI_clamp (by omega)
  have vn : vp_in (nI n) 32 := vp_in_nI (by omega) (by decide)
  unfold wpX_finish
  dsimp only
  rw [cl]
  refine ⟨vn, xo_isBinary_t hb (br_f (by decide) ⟨vn, ?_⟩)⟩
  unfold wX_finish_34 wX_finish_57
  rw [cl, heo]
  subst hq
  rcases hr with z | z
  · rw [if_pos z, if_pos z] at h
    exact br_t z ⟨vn, vn, br_t z ⟨vn, xo_combine (a := (ek, ev)) (b := (rk, rv)) hb h⟩⟩
  · have z0 : ¬ rf n = 0 := by rw [z]; decide
    rw [if_neg z0, if_neg z0] at h
    exact br_f z0 ⟨vn, br_f z0 ⟨vn, vn, xo_combine (a := (rk, rv)) (b := (ek, ev)) hb h⟩⟩
theorem xs_fin_n {post : St2 → Prop} (hc : c ≤ 32) {n : Nat} (hn : n < c) (hb : ¬ im_bn (K n)) {rk rv : Int32} (hans : ans = im_P rk rv) (h3 : rk ≠ 3) (h : post (cap, nI c, scr, la, dem n, xp, im_P rk rv, K, A, B, C, vp_updL sX n (im_P rk rv), dX, nX, dem, upd stg n 0, rf, eo)) : wpX_finish post (cap, nI c, scr, la, inn, xp, ans, K, A, B, C, sX, dX, nX, dem, stg, rf, eo) (nI n) := by
  have cl : (nI n).toNatClampNeg = n := nI_clamp (by omega)
  have vn : vp_in (nI n) 32 := vp_in_nI (by omega) (by decide)
  subst hans
  unfold wpX_finish
  dsimp only
  rw [cl]
  exact ⟨vn, xo_isBinary_f hb (br_t rfl (x75_v (by omega) h3 h))⟩
theorem xs_fin_bx {post : St2 → Prop} (hc : c ≤ 32) {n : Nat} (hn : n < c) (hb : im_bn (K n)) (hr : rf n = 0 ∨ rf n = 1) {rk rv ek ev : Int32} (hans : ans = im_P rk rv) (heo : eo n = im_P ek ev) {q : Int32 × Int32} (hq : im_cb (K n) (if rf n = 0 then (ek, ev) else (rk, rv)) (if rf n = 0 then (rk, rv) else (ek, ev)) = q) (q3 : q.1 = 3) (h : post (cap, nI c, scr, la, inn, xp, im_P 3 q.2, K, A, B, C, sX, dX, nX, dem, stg, rf, eo)) : wpX_finish post (cap, nI c, scr, la, inn, xp, ans, K, A, B, C, sX, dX, nX, dem, stg, rf, eo) (nI n) := by
  subst hans
  refine x57 (by omega) hb hr heo hq ?_
  rw [q3]
  exact x75_x h
theorem xs_fin_bv {post : St2 → Prop} (hc : c ≤ 32) {n : Nat} (hn : n < c) (hb : im_bn (K n)) (hr : rf n = 0 ∨ rf n = 1) {rk rv ek ev : Int32} (hans : ans = im_P rk rv) (heo : eo n = im_P ek ev) {q : Int32 × Int32} (hq : im_cb (K n) (if rf n = 0 then (ek, ev) else (rk, rv)) (if rf n = 0 then (rk, rv) else (ek, ev)) = q) (q1 : q.1 = 1) (h : post (cap, nI c, scr, la, dem n, xp, im_P 1 q.2, K, A, B, C, vp_updL sX n (im_P 1 q.2), dX, nX, dem, upd stg n 0, rf, eo)) : wpX_finish post (cap, nI c, scr, la, inn, xp, ans, K, A, B, C, sX, dX, nX, dem, stg, rf, eo) (nI n) := by
  subst hans
  refine x57 (by omega) hb hr heo hq ?_
  rw [q1]
  exact x75_v (by omega) (by decide) h
end
