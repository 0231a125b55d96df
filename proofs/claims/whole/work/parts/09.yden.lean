/-! the reference's denotations -/
section
variable {cap : Int32} {c : Nat} {scr : Int64} {K A B C : Nat → Int32} {lo le lv tk tv : Int32} {dk dv nk nv : Nat → Int32} {st sv act : Nat → Int32} {yp : Int32} {fN fP fB fK fV : Nat → Int32} {sp rk rv : Int32}
theorem yo_gk {post : Int32 → Prop} (hc : c ≤ 32) {d : Nat → Int32 × Int32} (hd : ∀ j, j < c → d j = (dk j, dv j)) {r : Int32} (h : post (im_g c d r).1) : wpY_gk post (cap, nI c, scr, yp, lo, le, lv, sp, rk, rv, tk, tv, K, A, B, C, st, sv, act, fN, fP, fB, fK, fV, dk, dv, nk, nv) r := by
  unfold wpY_gk
  dsimp only
  rcases pk_ix r (show c < 2 ^ 31 by omega) with z | z | ⟨j, hj, rfl⟩
  · rw [im_g_out d (Or.inl z)] at h
    exact br_t z h
  · rw [im_g_out d (Or.inr z)] at h
    exact br_c (fun _ => h) (fun _ => br_f (Int32.not_lt.mpr z) h)
  · rw [im_g_in hc d hj, hd j hj] at h
    refine br_f (nI_pos (by omega)) (br_t (nI_lt hj (by omega)) ⟨vp_in_nI (by omega) (by decide), ?_⟩)
    rw [nI_clamp (by omega)]
    exact h
theorem yo_gv {post : Int32 → Prop} (hc : c ≤ 32) {d : Nat → Int32 × Int32} (hd : ∀ j, j < c → d j = (dk j, dv j)) {r : Int32} (h : post (im_g c d r).2) : wpY_gv post (cap, nI c, scr, yp, lo, le, lv, sp, rk, rv, tk, tv, K, A, B, C, st, sv, act, fN, fP, fB, fK, fV, dk, dv, nk, nv) r := by
  unfold wpY_gv
  dsimp only
  rcases pk_ix r (show c < 2 ^ 31 by omega) with z | z | ⟨j, hj, rfl⟩
  · rw [im_g_out d (Or.inl z)] at h
    exact br_t z h
  · rw [im_g_out d (Or.inr z)] at h
    exact br_c (fun _ => h) (fun _ => br_f (Int32.not_lt.mpr z) h)
  · rw [im_g_in hc d hj, hd j hj] at h
    refine br_f (nI_pos (by omega)) (br_t (nI_lt hj (by omega)) ⟨vp_in_nI (by omega) (by decide), ?_⟩)
    rw [nI_clamp (by omega)]
    exact h
theorem y276 {post : SY → Prop} (hc : c ≤ 32) {d : Nat → Int32 × Int32} (hd : ∀ j, j < c → d j = (dk j, dv j)) {r : Int32} (h : post (cap, nI c, scr, yp, lo, le, lv, sp, rk, rv, (im_g c d r).1, (im_g c d r).2, K, A, B, C, st, sv, act, fN, fP, fB, fK, fV, dk, dv, nk, nv)) : wY_denNode_276 post r cap (nI c) scr yp lo le lv sp rk rv tk tv K A B C st sv act fN fP fB fK fV dk dv nk nv := by
  unfold wY_denNode_276
  exact yo_gk hc hd (yo_gv hc hd h)
theorem y380 {post : SY → Prop} (hc : c ≤ 32) {d : Nat → Int32 × Int32} (hd : ∀ j, j < c → d j = (dk j, dv j)) {r : Int32} (h : post (cap, nI c, scr, yp, lo, le, lv, sp, rk, rv, (im_g c d r).1, (im_g c d r).2, K, A, B, C, st, sv, act, fN, fP, fB, fK, fV, dk, dv, nk, nv)) : wY_denNode_380 post r cap (nI c) scr yp lo le lv sp rk rv tk tv K A B C st sv act fN fP fB fK fV dk dv nk nv := by
  unfold wY_denNode_380
  exact yo_gk hc hd (yo_gv hc hd h)
theorem y140 {post : SY → Prop} {k : Int32} {a b : Int32 × Int32} (hn : ¬ (a.1 = 3 ∧ b.1 = 3)) (h : post (cap, nI c, scr, yp, lo, le, lv, sp, rk, rv, (im_bin k a b).1, (im_bin k a b).2, K, A, B, C, st, sv, act, fN, fP, fB, fK, fV, dk, dv, nk, nv)) : wY_denNode_140 post k a.1 a.2 b.1 b.2 cap (nI c) scr yp lo le lv sp rk rv 3 tv K A B C st sv act fN fP fB fK fV dk dv nk nv := by
  unfold wY_denNode_140
  unfold im_bin at h
  by_cases a3 : a.1 = 3
  · have b3 : ¬ b.1 = 3 := fun z => hn ⟨a3, z⟩
    rw [if_pos a3, if_neg b3, a3] at h
    exact br_t a3 h
  · rw [if_neg a3] at h
    refine br_f a3 ?_
    by_cases b3 : b.1 = 3
    · rw [if_pos b3, b3] at h
      exact br_t b3 h
    · rw [if_neg b3] at h
      refine br_f b3 ?_
      by_cases a2 : a.1 = 2
      · rw [if_pos (Or.inl a2)] at h
        exact br_t a2 h
      · refine br_f a2 ?_
        by_cases b2 : b.1 = 2
        · rw [if_pos (Or.inr b2)] at h
          exact br_t b2 h
        · rw [if_neg (fun z => z.elim a2 b2)] at h
          refine br_f b2 ?_
          by_cases k5 : k = 5
          · refine br_t k5 ?_
            by_cases y0 : b.2 = 0
            · rw [if_pos ⟨k5, y0⟩] at h
              exact br_t y0 h
            · rw [if_neg (fun z => y0 z.2)] at h
              refine br_f y0 ?_
              unfold wY_denNode_200
              exact yo_arith h
          · rw [if_neg (fun z => k5 z.1)] at h
            refine br_f k5 ?_
            unfold wY_denNode_200
            exact yo_arith h
theorem y219 {post : SY → Prop} (hc : c ≤ 32) {d : Nat → Int32 × Int32} (hd : ∀ j, j < c → d j = (dk j, dv j)) {i : Nat} (hi : i < c) {a : Int32 × Int32} (ha : im_wf c K a) (h : post (cap, nI c, scr, yp, lo, le, lv, sp, rk, rv, (if a.1 = 3 then a else im_gO c d (im_ct c K A B C i a)).1, (if a.1 = 3 then a else im_gO c d (im_ct c K A B C i a)).2, K, A, B, C, st, sv, act, fN, fP, fB, fK, fV, dk, dv, nk, nv)) : wY_denNode_219 post (nI i) (K i) (B i) a.1 a.2 cap (nI c) scr yp lo le lv sp rk rv tk tv K A B C st sv act fN fP fB fK fV dk dv nk nv := by
  have cl : (nI i).toNatClampNeg = i := nI_clamp (by omega)
  have vi : vp_in (nI i) 32 := vp_in_nI (by omega) (by decide)
  unfold wY_denNode_219
  rw [cl]
  by_cases a3 : a.1 = 3
  · rw [if_pos a3, a3] at h
    exact br_t a3 h
  rw [if_neg a3] at h
  refine br_f a3 ?_
  have hv := im_wf_v ha a3
  unfold im_ct at h
  by_cases h7 : K i = 7
  · rw [if_pos h7] at h
    refine br_t h7 ?_
    by_cases a2 : a.1 = 2
    · rw [if_pos a2] at h
      exact br_t a2 h
    · rw [if_neg a2] at h
      refine br_f a2 ?_
      by_cases z : a.2 = 0
      · rw [if_pos z] at h
        exact br_t z ⟨vi, y276 hc hd h⟩
      · rw [if_neg z] at h
        exact br_f z (y276 hc hd h)
  rw [if_neg h7] at h
  refine br_f h7 ?_
  by_cases h8 : K i = 8
  · rw [if_pos h8] at h
    exact br_t h8 (yo_gk hc hd (yo_gv hc hd h))
  rw [if_neg h8] at h
  refine br_f h8 ?_
  rcases hv with a1 | ⟨a2, j, hj, ej, _⟩
  · rw [if_neg (by rw [a1]; decide)] at h
    exact br_t a1 h
  · have vj : vp_in (nI j) 32 := vp_in_nI (by omega) (by decide)
    rw [if_pos a2] at h
    rw [ej] at h ⊢
    refine br_f (by rw [a2]; decide) (br_f (nI_pos (by omega)) (br_t (nI_lt hj (by omega)) ?_))
    by_cases h10 : K i = 10
    · rw [if_pos h10] at h
      exact br_t h10 ⟨vj, y380 hc hd h⟩
    · rw [if_neg h10] at h
      exact br_f h10 ⟨vj, y380 hc hd h⟩
theorem yo_den {post : SY → Prop} (hc : c ≤ 32) (hp : im_Pr c K A B C) {d : Nat → Int32 × Int32} (hd : ∀ j, j < c → d j = (dk j, dv j)) (hw : ∀ j, j < c → im_wf c K (d j)) {i : Nat} (hi : i < c) (h : post (cap, nI c, scr, yp, lo, le, lv, sp, rk, rv, (im_dq c K A B C d i).1, (im_dq c K A B C d i).2, K, A, B, C, st, sv, act, fN, fP, fB, fK, fV, dk, dv, nk, nv)) : wpY_denNode post (cap, nI c, scr, yp, lo, le, lv, sp, rk, rv, tk, tv, K, A, B, C, st, sv, act, fN, fP, fB, fK, fV, dk, dv, nk, nv) (nI i) := by
  have cl : (nI i).toNatClampNeg = i := nI_clamp (by omega)
  have vi : vp_in (nI i) 32 := vp_in_nI (by omega) (by decide)
  unfold wpY_denNode
  dsimp only
  rw [cl]
  refine ⟨vi, nm_e ⟨vi, nm_e ⟨vi, nm_e ?_⟩⟩⟩
  unfold im_dq at h
  by_cases k0 : K i = 0
  · rw [if_pos k0] at h
    exact br_t k0 h
  rw [if_neg k0] at h
  refine br_f k0 ?_
  by_cases k9 : K i = 9
  · rw [if_pos k9] at h
    exact br_t k9 h
  rw [if_neg k9] at h
  refine br_f k9 ?_
  by_cases k1 : K i = 1
  · rw [if_pos k1] at h
    exact br_t k1 (nm_e h)
  rw [if_neg k1] at h
  refine br_f k1 (yo_gk hc hd (yo_gv hc hd ?_))
  have hwa := im_wf_g (K := K) (show c < 2 ^ 31 by omega) hw (A i)
  by_cases hb : im_bn (K i)
  · rw [if_pos (show 2 ≤ K i ∧ K i ≤ 6 from hb)] at h
    refine im_yb hb (yo_gk hc hd (yo_gv hc hd ?_))
    by_cases a3 : (im_g c d (A i)).1 = 3
    · refine br_t a3 ?_
      by_cases b3 : (im_g c d (B i)).1 = 3
      · unfold im_bin at h
        rw [if_pos a3, if_pos b3] at h
        exact br_t b3 (nm_e h)
      · exact br_f b3 (y140 (fun z => b3 z.2) h)
    · exact br_f a3 (y140 (fun z => a3 z.1) h)
  · rw [if_neg (show ¬ (2 ≤ K i ∧ K i ≤ 6) from hb)] at h
    exact im_nb hb (y219 hc hd hi hwa h)
end
