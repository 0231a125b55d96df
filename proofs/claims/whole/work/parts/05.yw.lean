/-! the reference's methods, each over a general post -/
section
variable {cap : Int32} {c : Nat} {scr : Int64} {K A B C : Nat → Int32} {lo le lv tk tv : Int32} {dk dv nk nv : Nat → Int32} {st sv act : Nat → Int32} {yp : Int32} {fN fP fB fK fV : Nat → Int32} {sp rk rv : Int32} {s t : Nat} {post : SY → Prop}
theorem yd_miss (hc : c ≤ 32) {r : Int32} (hr : r < 0 ∨ nI c ≤ r) (h : post (cap, nI c, scr, yp, lo, le, lv, sp, 3, 4, tk, tv, K, A, B, C, st, sv, act, fN, fP, fB, fK, fV, dk, dv, nk, nv)) : wpY_demand post (cap, nI c, scr, yp, lo, le, lv, sp, rk, rv, tk, tv, K, A, B, C, st, sv, act, fN, fP, fB, fK, fV, dk, dv, nk, nv) r := by
  unfold wpY_demand
  by_cases z : r < 0
  · exact br_t z h
  · exact br_f z (br_f (Int32.not_lt.mpr (hr.resolve_left z)) h)
theorem yd_val (hc : c ≤ 32) {j : Nat} (hj : j < c) (hs : st j = 1 ∨ st j = 2) (h : post (cap, nI c, scr, yp, lo, le, lv, sp, st j, sv j, tk, tv, K, A, B, C, st, sv, act, fN, fP, fB, fK, fV, dk, dv, nk, nv)) : wpY_demand post (cap, nI c, scr, yp, lo, le, lv, sp, rk, rv, tk, tv, K, A, B, C, st, sv, act, fN, fP, fB, fK, fV, dk, dv, nk, nv) (nI j) := by
  have cl : (nI j).toNatClampNeg = j := nI_clamp (by omega)
  have vj : vp_in (nI j) 32 := vp_in_nI (by omega) (by decide)
  unfold wpY_demand
  dsimp only
  rw [cl]
  refine br_f (nI_pos (by omega)) (br_t (nI_lt hj (by omega)) ⟨vj, ?_⟩)
  unfold wY_demand_38
  rw [cl]
  by_cases h1 : st j = 1
  · exact br_t h1 ⟨vj, nm_e ⟨vj, nm_e h⟩⟩
  · exact br_f h1 ⟨vj, br_t (hs.resolve_left h1) ⟨vj, nm_e ⟨vj, nm_e h⟩⟩⟩
theorem yd_raise (hc : c ≤ 32) {j : Nat} (hj : j < c) (hs : st j = 3) (hk : K j = 1) (h : post (cap, nI c, scr, yp, lo, le, lv, sp, 3, A j, tk, tv, K, A, B, C, st, sv, act, fN, fP, fB, fK, fV, dk, dv, nk, nv)) : wpY_demand post (cap, nI c, scr, yp, lo, le, lv, sp, rk, rv, tk, tv, K, A, B, C, st, sv, act, fN, fP, fB, fK, fV, dk, dv, nk, nv) (nI j) := by
  have cl : (nI j).toNatClampNeg = j := nI_clamp (by omega)
  have vj : vp_in (nI j) 32 := vp_in_nI (by omega) (by decide)
  unfold wpY_demand
  dsimp only
  rw [cl]
  refine br_f (nI_pos (by omega)) (br_t (nI_lt hj (by omega)) ⟨vj, ?_⟩)
  have e1 : ¬ st j = 1 := by rw [hs]; decide
  have e2 : ¬ st j = 2 := by rw [hs]; decide
  exact br_f e1 ⟨vj, br_f e2 ⟨vj, br_t hk ⟨vj, h⟩⟩⟩
theorem yd_loop (hc : c ≤ 32) {j : Nat} (hj : j < c) (hs : st j = 3) (hk : K j ≠ 1) (ha : act j ≠ 0) (h : post (cap, nI c, scr, yp, lo, le, lv, sp, 3, 3, tk, tv, K, A, B, C, st, sv, act, fN, fP, fB, fK, fV, dk, dv, nk, nv)) : wpY_demand post (cap, nI c, scr, yp, lo, le, lv, sp, rk, rv, tk, tv, K, A, B, C, st, sv, act, fN, fP, fB, fK, fV, dk, dv, nk, nv) (nI j) := by
  have cl : (nI j).toNatClampNeg = j := nI_clamp (by omega)
  have vj : vp_in (nI j) 32 := vp_in_nI (by omega) (by decide)
  unfold wpY_demand
  dsimp only
  rw [cl]
  refine br_f (nI_pos (by omega)) (br_t (nI_lt hj (by omega)) ⟨vj, ?_⟩)
  have e1 : ¬ st j = 1 := by rw [hs]; decide
  have e2 : ¬ st j = 2 := by rw [hs]; decide
  exact br_f e1 ⟨vj, br_f e2 ⟨vj, br_f hk ⟨vj, br_f ha h⟩⟩⟩
theorem yd_enter (hc : c ≤ 32) {j : Nat} (hj : j < c) (hst : st j = 3) (hk : K j ≠ 1) (ha : act j = 0) (hs : s < 32) (h : post (cap, nI c, scr, yp, lo, le, lv, nI (s + 1), 0, 0, tk, tv, K, A, B, C, st, sv, upd act j 1, upd fN s (nI j), upd fP s 0, upd fB s 0, upd fK s 0, upd fV s 0, dk, dv, nk, nv)) : wpY_demand post (cap, nI c, scr, yp, lo, le, lv, nI s, rk, rv, tk, tv, K, A, B, C, st, sv, act, fN, fP, fB, fK, fV, dk, dv, nk, nv) (nI j) := by
  have cl : (nI j).toNatClampNeg = j := nI_clamp (by omega)
  have vj : vp_in (nI j) 32 := vp_in_nI (by omega) (by decide)
  unfold wpY_demand
  dsimp only
  rw [cl]
  refine br_f (nI_pos (by omega)) (br_t (nI_lt hj (by omega)) ⟨vj, ?_⟩)
  have e1 : ¬ st j = 1 := by rw [hst]; decide
  have e2 : ¬ st j = 2 := by rw [hst]; decide
  have cs : (nI s).toNatClampNeg = s := nI_clamp (by omega)
  have vs : vp_in (nI s) 32 := vp_in_nI hs (by decide)
  rw [cs, nI_1, im_vb1]
  exact br_f e1 ⟨vj, br_f e2 ⟨vj, br_f hk ⟨vj, br_t ha (br_t (nI_lt (b := 32) hs (by decide)) ⟨vj, nm_e ⟨vs, nm_e ⟨vs, nm_e ⟨vs, nm_e ⟨vs, nm_e ⟨vs, nm_e (nm_e h)⟩⟩⟩⟩⟩⟩)⟩⟩⟩
theorem ys_first_b (hc : c ≤ 32) (ht : t < 32) {n : Nat} (hn : n < c) (hN : fN t = nI n) (h0 : fP t = 0) (hb : im_bn (K n)) {b : Int32} (hbe : im_bt scr yp = b) (h : wpY_demand post (cap, nI c, scr, (yp + 1) &&& 63, lo, le, lv, nI (t + 1), rk, rv, tk, tv, K, A, B, C, st, sv, act, fN, upd fP t 1, upd fB t b, fK, fV, dk, dv, nk, nv) (if b = 0 then A n else B n)) : wpY_step post (cap, nI c, scr, yp, lo, le, lv, nI (t + 1), rk, rv, tk, tv, K, A, B, C, st, sv, act, fN, fP, fB, fK, fV, dk, dv, nk, nv) := by
  have cn : (nI n).toNatClampNeg = n := nI_clamp (by omega)
  have vn : vp_in (nI n) 32 := vp_in_nI (by omega) (by decide)
  have ct : (nI t).toNatClampNeg = t := nI_clamp (by omega)
  have vt : vp_in (nI t) 32 := vp_in_nI ht (by decide)
  unfold wpY_step
  dsimp only
  refine nm_r (nI_pred t) ⟨vt, nm_r (show fN (nI t).toNatClampNeg = nI n by rw [ct, hN]) ⟨vt, nm_r (show fP (nI t).toNatClampNeg = 0 by rw [ct, h0]) ⟨vn, nm_r (show K (nI n).toNatClampNeg = K n by rw [cn]) ?_⟩⟩⟩
  rw [ct, cn]
  refine im_yb hb (br_t rfl (nm_r hbe (nm_e ⟨vt, nm_e ⟨vt, nm_e ?_⟩⟩)))
  by_cases z : b = 0
  · rw [if_pos z] at h
    exact br_t z ⟨vn, h⟩
  · rw [if_neg z] at h
    exact br_f z ⟨vn, h⟩
theorem ys_first_n (hc : c ≤ 32) (ht : t < 32) {n : Nat} (hn : n < c) (hN : fN t = nI n) (h0 : fP t = 0) (hb : ¬ im_bn (K n)) (h : wpY_demand post (cap, nI c, scr, yp, lo, le, lv, nI (t + 1), rk, rv, tk, tv, K, A, B, C, st, sv, act, fN, upd fP t 1, fB, fK, fV, dk, dv, nk, nv) (A n)) : wpY_step post (cap, nI c, scr, yp, lo, le, lv, nI (t + 1), rk, rv, tk, tv, K, A, B, C, st, sv, act, fN, fP, fB, fK, fV, dk, dv, nk, nv) := by
  have cn : (nI n).toNatClampNeg = n := nI_clamp (by omega)
  have vn : vp_in (nI n) 32 := vp_in_nI (by omega) (by decide)
  have ct : (nI t).toNatClampNeg = t := nI_clamp (by omega)
  have vt : vp_in (nI t) 32 := vp_in_nI ht (by decide)
  unfold wpY_step
  dsimp only
  refine nm_r (nI_pred t) ⟨vt, nm_r (show fN (nI t).toNatClampNeg = nI n by rw [ct, hN]) ⟨vt, nm_r (show fP (nI t).toNatClampNeg = 0 by rw [ct, h0]) ⟨vn, nm_r (show K (nI n).toNatClampNeg = K n by rw [cn]) ?_⟩⟩⟩
  rw [ct, cn]
  refine im_nb hb ?_
  unfold wY_step_303
  rw [ct, cn]
  exact br_f (by decide) (br_t rfl ⟨vt, nm_e ⟨vn, h⟩⟩)
theorem ys_last_b (hc : c ≤ 32) (ht : t < 32) {n : Nat} (hn : n < c) (hN : fN t = nI n) (h0 : fP t = 1) (hb : im_bn (K n)) {b : Int32} (hfB : fB t = b) (h : wpY_demand post (cap, nI c, scr, yp, lo, le, lv, nI (t + 1), rk, rv, tk, tv, K, A, B, C, st, sv, act, fN, upd fP t 2, fB, upd fK t rk, upd fV t rv, dk, dv, nk, nv) (if b = 0 then B n else A n)) : wpY_step post (cap, nI c, scr, yp, lo, le, lv, nI (t + 1), rk, rv, tk, tv, K, A, B, C, st, sv, act, fN, fP, fB, fK, fV, dk, dv, nk, nv) := by
  have cn : (nI n).toNatClampNeg = n := nI_clamp (by omega)
  have vn : vp_in (nI n) 32 := vp_in_nI (by omega) (by decide)
  have ct : (nI t).toNatClampNeg = t := nI_clamp (by omega)
  have vt : vp_in (nI t) 32 := vp_in_nI ht (by decide)
  unfold wpY_step
  dsimp only
  refine nm_r (nI_pred t) ⟨vt, nm_r (show fN (nI t).toNatClampNeg = nI n by rw [ct, hN]) ⟨vt, nm_r (show fP (nI t).toNatClampNeg = 1 by rw [ct, h0]) ⟨vn, nm_r (show K (nI n).toNatClampNeg = K n by rw [cn]) ?_⟩⟩⟩
  rw [ct, cn]
  refine im_yb hb (br_f (by decide) (br_t rfl ⟨vt, nm_e ⟨vt, nm_e ⟨vt, nm_e ⟨vt, ?_⟩⟩⟩⟩))
  rw [hfB]
  by_cases z : b = 0
  · rw [if_pos z] at h
    exact br_t z ⟨vn, h⟩
  · rw [if_neg z] at h
    exact br_f z ⟨vn, h⟩
theorem ys_last_none (hc : c ≤ 32) (ht : t < 32) {n : Nat} (hn : n < c) (hN : fN t = nI n) (hk : K n ≠ 0 ∧ K n ≠ 1 ∧ K n ≠ 9) (h0 : fP t = 1) (hb : ¬ im_bn (K n)) (hv : im_vl c K (rk, rv)) (hct : im_ct c K A B C n (rk, rv) = none) (h : post (cap, nI c, scr, yp, lo, le, lv, nI (t + 1), 3, 2, tk, tv, K, A, B, C, st, sv, act, fN, fP, fB, fK, fV, dk, dv, nk, nv)) : wpY_step post (cap, nI c, scr, yp, lo, le, lv, nI (t + 1), rk, rv, tk, tv, K, A, B, C, st, sv, act, fN, fP, fB, fK, fV, dk, dv, nk, nv) := by
  have cn : (nI n).toNatClampNeg = n := nI_clamp (by omega)
  have vn : vp_in (nI n) 32 := vp_in_nI (by omega) (by decide)
  have ct : (nI t).toNatClampNeg = t := nI_clamp (by omega)
  have vt : vp_in (nI t) 32 := vp_in_nI ht (by decide)
  unfold wpY_step
  dsimp only
  refine nm_r (nI_pred t) ⟨vt, nm_r (show fN (nI t).toNatClampNeg = nI n by rw [ct, hN]) ⟨vt, nm_r (show fP (nI t).toNatClampNeg = 1 by rw [ct, h0]) ⟨vn, nm_r (show K (nI n).toNatClampNeg = K n by rw [cn]) ?_⟩⟩⟩
  rw [ct, cn]
  refine im_nb hb ?_
  unfold wY_step_303
  rw [ct, cn]
  refine br_f (by decide) (br_f (by decide) ?_)
  unfold im_ct at hct
  by_cases h7 : K n = 7
  · rw [if_pos h7] at hct
    refine br_t h7 ?_
    by_cases z : rk = 2
    · exact br_t z h
    · rw [if_neg z] at hct
      by_cases z2 : rv = 0
      · rw [if_pos z2] at hct; exact absurd hct (by simp)
      · rw [if_neg z2] at hct; exact absurd hct (by simp)
  · rw [if_neg h7] at hct
    refine br_f h7 ?_
    by_cases h8 : K n = 8
    · rw [if_pos h8] at hct; exact absurd hct (by simp)
    · rw [if_neg h8] at hct
      refine br_f h8 ?_
      by_cases z : rk = 2
      · rw [if_pos z] at hct
        by_cases h10 : K n = 10
        · rw [if_pos h10] at hct; exact absurd hct (by simp)
        · rw [if_neg h10] at hct; exact absurd hct (by simp)
      · rcases hv with hv | hv
        · exact br_t hv h
        · exact absurd hv.1 z
theorem ys_last_some (hc : c ≤ 32) (ht : t < 32) {n : Nat} (hn : n < c) (hN : fN t = nI n) (hk : K n ≠ 0 ∧ K n ≠ 1 ∧ K n ≠ 9) (h0 : fP t = 1) (hb : ¬ im_bn (K n)) (hv : im_vl c K (rk, rv)) {r : Int32} (hct : im_ct c K A B C n (rk, rv) = some r) (h : wpY_demand post (cap, nI c, scr, yp, lo, le, lv, nI (t + 1), rk, rv, tk, tv, K, A, B, C, st, sv, act, fN, upd fP t 2, fB, fK, fV, dk, dv, nk, nv) r) : wpY_step post (cap, nI c, scr, yp, lo, le, lv, nI (t + 1), rk, rv, tk, tv, K, A, B, C, st, sv, act, fN, fP, fB, fK, fV, dk, dv, nk, nv) := by
  have cn : (nI n).toNatClampNeg = n := nI_clamp (by omega)
  have vn : vp_in (nI n) 32 := vp_in_nI (by omega) (by decide)
  have ct : (nI t).toNatClampNeg = t := nI_clamp (by omega)
  have vt : vp_in (nI t) 32 := vp_in_nI ht (by decide)
  unfold wpY_step
  dsimp only
  refine nm_r (nI_pred t) ⟨vt, nm_r (show fN (nI t).toNatClampNeg = nI n by rw [ct, hN]) ⟨vt, nm_r (show fP (nI t).toNatClampNeg = 1 by rw [ct, h0]) ⟨vn, nm_r (show K (nI n).toNatClampNeg = K n by rw [cn]) ?_⟩⟩⟩
  rw [ct, cn]
  refine im_nb hb ?_
  unfold wY_step_303
  rw [ct, cn]
  refine br_f (by decide) (br_f (by decide) ?_)
  unfold im_ct at hct
  by_cases h7 : K n = 7
  · rw [if_pos h7] at hct
    refine br_t h7 ?_
    by_cases z : rk = 2
    · rw [if_pos z] at hct; exact absurd hct (by simp)
    · rw [if_neg z] at hct
      refine br_f z ⟨vt, nm_e ?_⟩
      by_cases z2 : rv = 0
      · rw [if_pos z2] at hct; cases hct
        exact br_t z2 ⟨vn, h⟩
      · rw [if_neg z2] at hct; cases hct
        exact br_f z2 ⟨vn, h⟩
  · rw [if_neg h7] at hct
    refine br_f h7 ?_
    by_cases h8 : K n = 8
    · rw [if_pos h8] at hct; cases hct
      exact br_t h8 ⟨vt, nm_e ⟨vn, h⟩⟩
    · rw [if_neg h8] at hct
      refine br_f h8 ?_
      by_cases z : rk = 2
      · rw [if_pos z] at hct
        rcases hv with hv | ⟨_, j, hj, ej, _⟩
        · exact absurd (hv.symm.trans z) (by decide)
        · have ej : rv = nI j := ej
          have vj : vp_in (nI j) 32 := vp_in_nI (by omega) (by decide)
          subst ej
          refine br_f (by rw [z]; decide) (br_f (nI_pos (by omega)) (br_t (nI_lt (b := 32) (by omega) (by decide)) ⟨vt, nm_e ?_⟩))
          by_cases h10 : K n = 10
          · rw [if_pos h10] at hct; cases hct
            exact br_t h10 ⟨vj, h⟩
          · rw [if_neg h10] at hct; cases hct
            exact br_f h10 ⟨vj, h⟩
      · rw [if_neg z] at hct; exact absurd hct (by simp)
theorem ys_fin_n (hc : c ≤ 32) (ht : t < 32) {n : Nat} (hn : n < c) (hN : fN t = nI n) (h0 : fP t = 2) (hb : ¬ im_bn (K n)) (h : post (cap, nI c, scr, yp, lo, le, lv, nI t, rk, rv, tk, tv, K, A, B, C, upd st n rk, upd sv n rv, upd act n 0, fN, fP, fB, fK, fV, dk, dv, nk, nv)) : wpY_step post (cap, nI c, scr, yp, lo, le, lv, nI (t + 1), rk, rv, tk, tv, K, A, B, C, st, sv, act, fN, fP, fB, fK, fV, dk, dv, nk, nv) := by
  have cn : (nI n).toNatClampNeg = n := nI_clamp (by omega)
  have vn : vp_in (nI n) 32 := vp_in_nI (by omega) (by decide)
  have ct : (nI t).toNatClampNeg = t := nI_clamp (by omega)
  have vt : vp_in (nI t) 32 := vp_in_nI ht (by decide)
  unfold wpY_step
  dsimp only
  refine nm_r (nI_pred t) ⟨vt, nm_r (show fN (nI t).toNatClampNeg = nI n by rw [ct, hN]) ⟨vt, nm_r (show fP (nI t).toNatClampNeg = 2 by rw [ct, h0]) ⟨vn, nm_r (show K (nI n).toNatClampNeg = K n by rw [cn]) ?_⟩⟩⟩
  rw [ct, cn]
  refine im_nb hb ?_
  unfold wY_step_303
  refine br_t rfl ?_
  unfold wpY_finish
  dsimp only
  rw [cn, im_vb0]
  exact ⟨vn, nm_e ⟨vn, nm_e ⟨vn, nm_e (nm_r (nI_pred t) h)⟩⟩⟩
theorem y247x {n : Nat} {xk xv yk yv : Int32} {q : Int32 × Int32} (hq : im_cb (K n) (xk, xv) (yk, yv) = q) (q3 : q.1 = 3) (h : post (cap, nI c, scr, yp, lo, le, lv, sp, 3, q.2, tk, tv, K, A, B, C, st, sv, act, fN, fP, fB, fK, fV, dk, dv, nk, nv)) : wY_step_247 post (nI n) (K n) xk xv yk yv cap (nI c) scr yp lo le lv sp rk rv tk tv K A B C st sv act fN fP fB fK fV dk dv nk nv := by
  unfold wY_step_247
  unfold im_cb at hq
  by_cases a2 : xk = 2
  · rw [if_pos (Or.inl a2)] at hq
    subst hq
    exact br_t a2 h
  · by_cases b2 : yk = 2
    · rw [if_pos (Or.inr b2)] at hq
      subst hq
      exact br_f a2 (br_t b2 h)
    · rw [if_neg (fun z => z.elim a2 b2)] at hq
      refine br_f a2 (br_f b2 ?_)
      by_cases k5 : K n = 5 ∧ yv = 0
      · rw [if_pos k5] at hq
        subst hq
        exact br_t k5.1 (br_t k5.2 h)
      · rw [if_neg k5] at hq
        subst hq
        exact absurd (show (1 : Int32) = 3 from q3) (by decide)
theorem yo_arith {posti : Int32 → Prop} {k x y : Int32} (h : posti (im_ar k x y)) : wpY_arith posti (cap, nI c, scr, yp, lo, le, lv, sp, rk, rv, tk, tv, K, A, B, C, st, sv, act, fN, fP, fB, fK, fV, dk, dv, nk, nv) k x y := by
  unfold wpY_arith
  unfold im_ar at h
  by_cases k2 : k = 2
  · rw [if_pos k2] at h; exact br_t k2 h
  rw [if_neg k2] at h
  refine br_f k2 ?_
  by_cases k3 : k = 3
  · rw [if_pos k3] at h; exact br_t k3 h
  rw [if_neg k3] at h
  refine br_f k3 ?_
  by_cases k4 : k = 4
  · rw [if_pos k4] at h; exact br_t k4 h
  rw [if_neg k4] at h
  refine br_f k4 ?_
  by_cases k5 : k = 5
  · rw [if_pos k5] at h
    refine br_t k5 ?_
    by_cases y0 : y = 0
    · rw [if_pos y0] at h; exact br_t y0 h
    · rw [if_neg y0] at h; exact br_f y0 ⟨y0, h⟩
  rw [if_neg k5] at h
  refine br_f k5 ?_
  by_cases z : y ≤ x
  · rw [if_neg (Int32.not_lt.mpr z)] at h; exact br_t z h
  · rw [if_pos (Int32.not_le.mp z)] at h; exact br_f z h
theorem y247v {n : Nat} (hn : n < 32) {xk xv yk yv : Int32} {q : Int32 × Int32} (hq : im_cb (K n) (xk, xv) (yk, yv) = q) (q1 : q.1 = 1) (h : post (cap, nI c, scr, yp, lo, le, lv, nI t, 1, q.2, tk, tv, K, A, B, C, upd st n 1, upd sv n q.2, upd act n 0, fN, fP, fB, fK, fV, dk, dv, nk, nv)) : wY_step_247 post (nI n) (K n) xk xv yk yv cap (nI c) scr yp lo le lv (nI (t + 1)) rk rv tk tv K A B C st sv act fN fP fB fK fV dk dv nk nv := by
  have cn : (nI n).toNatClampNeg = n := nI_clamp (by omega)
  have vn : vp_in (nI n) 32 := vp_in_nI (by omega) (by decide)
  unfold wY_step_247
  unfold im_cb at hq
  by_cases a2 : xk = 2
  · rw [if_pos (Or.inl a2)] at hq
    subst hq
    exact absurd (show (3 : Int32) = 1 from q1) (by decide)
  · by_cases b2 : yk = 2
    · rw [if_pos (Or.inr b2)] at hq
      subst hq
      exact absurd (show (3 : Int32) = 1 from q1) (by decide)
    · rw [if_neg (fun z => z.elim a2 b2)] at hq
      refine br_f a2 (br_f b2 ?_)
      by_cases k5 : K n = 5 ∧ yv = 0
      · rw [if_pos k5] at hq
        subst hq
        exact absurd (show (3 : Int32) = 1 from q1) (by decide)
      · rw [if_neg k5] at hq
        subst hq
        have hh : wY_step_282 post (nI n) (K n) xv yv cap (nI c) scr yp lo le lv (nI (t + 1)) rk rv tk tv K A B C st sv act fN fP fB fK fV dk dv nk nv := by
          unfold wY_step_282
          refine yo_arith ?_
          unfold wpY_finish
          dsimp only
          rw [cn, im_vb0]
          exact ⟨vn, nm_e ⟨vn, nm_e ⟨vn, nm_e (nm_r (nI_pred t) h)⟩⟩⟩
        by_cases h5 : K n = 5
        · exact br_t h5 (br_f (fun z => k5 ⟨h5, z⟩) hh)
        · exact br_f h5 hh
theorem ys_fin_bx (hc : c ≤ 32) (ht : t < 32) {n : Nat} (hn : n < c) (hN : fN t = nI n) (h0 : fP t = 2) (hb : im_bn (K n)) {b : Int32} (hfB : fB t = b) (hr : b = 0 ∨ b = 1) {q : Int32 × Int32} (hq : im_cb (K n) (if b = 0 then (fK t, fV t) else (rk, rv)) (if b = 0 then (rk, rv) else (fK t, fV t)) = q) (q3 : q.1 = 3) (h : post (cap, nI c, scr, yp, lo, le, lv, nI (t + 1), 3, q.2, tk, tv, K, A, B, C, st, sv, act, fN, fP, fB, fK, fV, dk, dv, nk, nv)) : wpY_step post (cap, nI c, scr, yp, lo, le, lv, nI (t + 1), rk, rv, tk, tv, K, A, B, C, st, sv, act, fN, fP, fB, fK, fV, dk, dv, nk, nv) := by
  have cn : (nI n).toNatClampNeg = n := nI_clamp (by omega)
  have vn : vp_in (nI n) 32 := vp_in_nI (by omega) (by decide)
  have ct : (nI t).toNatClampNeg = t := nI_clamp (by omega)
  have vt : vp_in (nI t) 32 := vp_in_nI ht (by decide)
  unfold wpY_step
  dsimp only
  refine nm_r (nI_pred t) ⟨vt, nm_r (show fN (nI t).toNatClampNeg = nI n by rw [ct, hN]) ⟨vt, nm_r (show fP (nI t).toNatClampNeg = 2 by rw [ct, h0]) ⟨vn, nm_r (show K (nI n).toNatClampNeg = K n by rw [cn]) ?_⟩⟩⟩
  rw [ct, cn]
  refine im_yb hb (br_f (by decide) (br_f (by decide) ⟨vt, nm_e ⟨vt, nm_e ⟨vt, ?_⟩⟩⟩))
  rw [hfB]
  by_cases z : b = 0
  · rw [if_pos z, if_pos z] at hq
    exact br_t z ⟨vt, nm_e ⟨vt, nm_e (y247x hq q3 h)⟩⟩
  · rw [if_neg z, if_neg z] at hq
    exact br_f z (y247x hq q3 h)
theorem ys_fin_bv (hc : c ≤ 32) (ht : t < 32) {n : Nat} (hn : n < c) (hN : fN t = nI n) (h0 : fP t = 2) (hb : im_bn (K n)) {b : Int32} (hfB : fB t = b) (hr : b = 0 ∨ b = 1) {q : Int32 × Int32} (hq : im_cb (K n) (if b = 0 then (fK t, fV t) else (rk, rv)) (if b = 0 then (rk, rv) else (fK t, fV t)) = q) (q1 : q.1 = 1) (h : post (cap, nI c, scr, yp, lo, le, lv, nI t, 1, q.2, tk, tv, K, A, B, C, upd st n 1, upd sv n q.2, upd act n 0, fN, fP, fB, fK, fV, dk, dv, nk, nv)) : wpY_step post (cap, nI c, scr, yp, lo, le, lv, nI (t + 1), rk, rv, tk, tv, K, A, B, C, st, sv, act, fN, fP, fB, fK, fV, dk, dv, nk, nv) := by
  have cn : (nI n).toNatClampNeg = n := nI_clamp (by omega)
  have vn : vp_in (nI n) 32 := vp_in_nI (by omega) (by decide)
  have ct : (nI t).toNatClampNeg = t := nI_clamp (by omega)
  have vt : vp_in (nI t) 32 := vp_in_nI ht (by decide)
  unfold wpY_step
  dsimp only
  refine nm_r (nI_pred t) ⟨vt, nm_r (show fN (nI t).toNatClampNeg = nI n by rw [ct, hN]) ⟨vt, nm_r (show fP (nI t).toNatClampNeg = 2 by rw [ct, h0]) ⟨vn, nm_r (show K (nI n).toNatClampNeg = K n by rw [cn]) ?_⟩⟩⟩
  rw [ct, cn]
  refine im_yb hb (br_f (by decide) (br_f (by decide) ⟨vt, nm_e ⟨vt, nm_e ⟨vt, ?_⟩⟩⟩))
  rw [hfB]
  by_cases z : b = 0
  · rw [if_pos z, if_pos z] at hq
    exact br_t z ⟨vt, nm_e ⟨vt, nm_e (y247v (by omega) hq q1 h)⟩⟩
  · rw [if_neg z, if_neg z] at hq
    exact br_f z (y247v (by omega) hq q1 h)
end
