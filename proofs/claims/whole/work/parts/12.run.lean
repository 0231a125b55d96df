/-! a run of both to its end -/
def im_LX (post : SX → Prop) (n : Nat) (i : Int32) (u : SX) : Prop := match u with
  | (cap, cn, scr, la, inn, xp, ans, K, A, B, C, sX, dX, nX, dem, stg, rf, eo) => wX_evaluate_17 post n i cap cn scr la inn xp ans K A B C sX dX nX dem stg rf eo
def im_LY (post : Int32 → SY → Prop) (n : Nat) (i : Int32) (v : SY) : Prop := match v with
  | (cap, cn, scr, yp, lo, le, lv, sp, rk, rv, tk, tv, K, A, B, C, st, sv, act, fN, fP, fB, fK, fV, dk, dv, nk, nv) => wY_run_52 post n i cap cn scr yp lo le lv sp rk rv tk tv K A B C st sv act fN fP fB fK fV dk dv nk nv
def im_LE (post : Int32 → SY → Prop) (v : SY) : Prop := match v with
  | (cap, cn, scr, yp, lo, le, lv, sp, rk, rv, tk, tv, K, A, B, C, st, sv, act, fN, fP, fB, fK, fV, dk, dv, nk, nv) => wY_run_87 post cap cn scr yp lo le lv sp rk rv tk tv K A B C st sv act fN fP fB fK fV dk dv nk nv
def im_KX (post : SX → Prop) (n : Nat) (i : Int32) : SX → Prop := fun u => match u with
  | (cap, cn, scr, la, inn, xp, ans, K, A, B, C, sX, dX, nX, dem, stg, rf, eo) => ∀ x : Int32, x = i + 1 → wX_evaluate_17 post n x cap cn scr la inn xp ans K A B C sX dX nX dem stg rf eo
def im_KY (post : Int32 → SY → Prop) (n : Nat) (i : Int32) : SY → Prop := fun v => match v with
  | (cap, cn, scr, yp, lo, le, lv, sp, rk, rv, tk, tv, K, A, B, C, st, sv, act, fN, fP, fB, fK, fV, dk, dv, nk, nv) => ∀ x : Int32, x = i + 1 → wY_run_52 post n x cap cn scr yp lo le lv sp rk rv tk tv K A B C st sv act fN fP fB fK fV dk dv nk nv
theorem im_KX_of {post : SX → Prop} {n i : Nat} : ∀ {u : SX}, im_LX post n (nI (i + 1)) u → im_KX post n (nI i) u
  | (cap, cn, scr, la, inn, xp, ans, K, A, B, C, sX, dX, nX, dem, stg, rf, eo), h => fun x ex => by rw [ex, nI_1]; exact h
theorem im_KY_of {post : Int32 → SY → Prop} {n i : Nat} : ∀ {v : SY}, im_LY post n (nI (i + 1)) v → im_KY post n (nI i) v
  | (cap, cn, scr, yp, lo, le, lv, sp, rk, rv, tk, tv, K, A, B, C, st, sv, act, fN, fP, fB, fK, fV, dk, dv, nk, nv), h => fun x ex => by rw [ex, nI_1]; exact h
theorem im_LX_ex {post : SX → Prop} {n : Nat} : ∀ {u : SX}, im_LX post n (nI 0) u → (match u with | (cap, cn, scr, la, inn, xp, ans, K, A, B, C, sX, dX, nX, dem, stg, rf, eo) => ∃ n17 : Nat, wX_evaluate_17 post n17 0 cap cn scr la inn xp ans K A B C sX dX nX dem stg rf eo)
  | (cap, cn, scr, la, inn, xp, ans, K, A, B, C, sX, dX, nX, dem, stg, rf, eo), h => ⟨n, h⟩
theorem im_LY_ex {post : Int32 → SY → Prop} {n : Nat} : ∀ {v : SY}, im_LY post n (nI 0) v → (match v with | (cap, cn, scr, yp, lo, le, lv, sp, rk, rv, tk, tv, K, A, B, C, st, sv, act, fN, fP, fB, fK, fV, dk, dv, nk, nv) => ∃ n52 : Nat, wY_run_52 post n52 0 cap cn scr yp lo le lv sp rk rv tk tv K A B C st sv act fN fP fB fK fV dk dv nk nv)
  | (cap, cn, scr, yp, lo, le, lv, sp, rk, rv, tk, tv, K, A, B, C, st, sv, act, fN, fP, fB, fK, fV, dk, dv, nk, nv), h => ⟨n, h⟩
def im_CE (cap : Int32) (c : Nat) (scr la : Int64) (K A B C : Nat → Int32) (dX nX : Nat → Int64) (lo le lv tk tv : Int32) (dk dv nk nv : Nat → Int32) (u : SX) (v : SY) : Prop :=
  ∃ (sX : Nat → Int64) (inn : Int32) (dem stg rf : Nat → Int32) (eo : Nat → Int64) (xp : Int32) (ans : Int64) (st sv act : Nat → Int32) (yp : Int32) (fN fP fB fK fV : Nat → Int32) (sp rk rv : Int32), u = (cap, nI c, scr, la, inn, xp, ans, K, A, B, C, sX, dX, nX, dem, stg, rf, eo) ∧ v = (cap, nI c, scr, yp, lo, le, lv, sp, rk, rv, tk, tv, K, A, B, C, st, sv, act, fN, fP, fB, fK, fV, dk, dv, nk, nv) ∧
  im_ST c K A sX st sv ∧ im_RF c K rf ∧ (∀ i, c ≤ i → i < 32 → stg i = 0) ∧ ans = im_P rk rv ∧ (rk = 3 ∨ (im_vl c K (rk, rv) ∧ sp = nI 0))
section
variable {cap : Int32} {c : Nat} {scr la : Int64} {K A B C : Nat → Int32} {dX nX : Nat → Int64} {lo le lv tk tv : Int32} {dk dv nk nv : Nat → Int32} {sX : Nat → Int64} {inn : Int32} {dem stg rf : Nat → Int32} {eo : Nat → Int64} {xp : Int32} {ans : Int64} {st sv act : Nat → Int32} {yp : Int32} {fN fP fB fK fV : Nat → Int32} {sp rk rv : Int32}
theorem xr_exit3 {post : SX → Prop} (hc : c ≤ 32) {n : Nat} {x v : Int32} (h : post (cap, nI c, scr, la, inn, xp, im_P 3 v, K, A, B, C, sX, dX, nX, dem, stg, rf, eo)) : wX_evaluate_17 post (n + 1) x cap (nI c) scr la inn xp (im_P 3 v) K A B C sX dX nX dem stg rf eo := by
  rw [wX_evaluate_17]
  refine br_c (fun _ => h) (fun _ => ?_)
  rcases pk_ix inn (show c < 2 ^ 31 by omega) with z | z | ⟨j, hj, rfl⟩
  · exact xo_isNode_f hc (Or.inl z) (br_t rfl h)
  · exact xo_isNode_f hc (Or.inr z) (br_t rfl h)
  · exact xo_isNode_t hc hj (br_f (by decide) (xo_kindOf (br_t rfl h)))
theorem xr_exit0 {post : SX → Prop} (hc : c ≤ 32) {n : Nat} {x : Int32} (h : post (cap, nI c, scr, la, -1, xp, ans, K, A, B, C, sX, dX, nX, dem, stg, rf, eo)) : wX_evaluate_17 post (n + 1) x cap (nI c) scr la (-1) xp ans K A B C sX dX nX dem stg rf eo := by
  rw [wX_evaluate_17]
  exact br_c (fun _ => h) (fun _ => xo_isNode_f hc (Or.inl (by decide)) (br_t rfl h))
theorem xr_step {post : SX → Prop} (hc : c ≤ 32) {n i j : Nat} (hi : i < 1024) (hj : j < c) (h3 : rk ≠ 3) (h : im_XB (stg j) (im_KX post n (nI i)) (cap, nI c, scr, la, nI j, xp, im_P rk rv, K, A, B, C, sX, dX, nX, dem, stg, rf, eo) j) : wX_evaluate_17 post (n + 1) (nI i) cap (nI c) scr la (nI j) xp (im_P rk rv) K A B C sX dX nX dem stg rf eo := by
  have cl : (nI j).toNatClampNeg = j := nI_clamp (by omega)
  have vj : vp_in (nI j) 32 := vp_in_nI (by omega) (by decide)
  rw [wX_evaluate_17]
  refine br_f (nI_ge (b := 1024) hi (by decide)) (xo_isNode_t hc hj (br_f (by decide) (xo_kindOf (br_f h3 ⟨vj, ?_⟩))))
  rw [cl]
  rcases h with ⟨q, h⟩ | ⟨q, h⟩ | ⟨q, h⟩
  · exact br_t q h
  · exact br_f (by rw [q]; decide) ⟨vj, br_t q h⟩
  · exact br_f (by rw [q]; decide) ⟨vj, br_f (by rw [q]; decide) h⟩
theorem yr_exit3 {post : Int32 → SY → Prop} {n : Nat} {x : Int32} (h : wY_run_87 post cap (nI c) scr yp lo le lv sp 3 rv tk tv K A B C st sv act fN fP fB fK fV dk dv nk nv) : wY_run_52 post (n + 1) x cap (nI c) scr yp lo le lv sp 3 rv tk tv K A B C st sv act fN fP fB fK fV dk dv nk nv := by
  rw [wY_run_52]
  exact br_c (fun _ => h) (fun _ => br_t rfl h)
theorem yr_exit0 {post : Int32 → SY → Prop} {n : Nat} {x : Int32} (h : wY_run_87 post cap (nI c) scr yp lo le lv (nI 0) rk rv tk tv K A B C st sv act fN fP fB fK fV dk dv nk nv) : wY_run_52 post (n + 1) x cap (nI c) scr yp lo le lv (nI 0) rk rv tk tv K A B C st sv act fN fP fB fK fV dk dv nk nv := by
  rw [wY_run_52]
  exact br_c (fun _ => h) (fun _ => br_c (fun _ => h) (fun _ => br_t nI_0 h))
theorem yr_step {post : Int32 → SY → Prop} {n i s : Nat} (hi : i < 4096) (hs : 0 < s) (hs2 : s ≤ 32) (h3 : rk ≠ 3) (h : wpY_step (im_KY post n (nI i)) (cap, nI c, scr, yp, lo, le, lv, nI s, rk, rv, tk, tv, K, A, B, C, st, sv, act, fN, fP, fB, fK, fV, dk, dv, nk, nv)) : wY_run_52 post (n + 1) (nI i) cap (nI c) scr yp lo le lv (nI s) rk rv tk tv K A B C st sv act fN fP fB fK fV dk dv nk nv := by
  rw [wY_run_52]
  exact br_f (nI_ge (b := 4096) hi (by decide)) (br_f h3 (br_f (nI_ne0 hs (by omega)) h))
/-- one step, whatever the top frame is -/
theorem im_any {t : Nat} {g : Nat → Nat} {m : Nat} (hc : c ≤ 32) (hp : im_Pr c K A B C) (hST : im_ST c K A sX st sv) (hRF : im_RF c K rf) (hSG : ∀ i, c ≤ i → i < 32 → stg i = 0) (hm : im_mu c st stg ≤ m)
    (hFL : im_FL c K st fN fP fB fK fV act stg rf eo dem inn (t + 1) g) (hans : ans = im_P rk rv) (hv : fP t ≠ 0 → im_vl c K (rk, rv)) :
    0 < m ∧ ∃ u v, im_CF cap c scr la K A B C dX nX lo le lv tk tv dk dv nk nv (m - 1) u v ∧ (∀ post : SX → Prop, post u → im_XB (stg (g t)) post (cap, nI c, scr, la, inn, xp, ans, K, A, B, C, sX, dX, nX, dem, stg, rf, eo) (g t)) ∧ (∀ post : SY → Prop, post v → wpY_step post (cap, nI c, scr, xp, lo, le, lv, nI (t + 1), rk, rv, tk, tv, K, A, B, C, st, sv, act, fN, fP, fB, fK, fV, dk, dv, nk, nv)) := by
  rcases (hFL.1 t (by omega)).2.2.2.1 with ⟨p, q⟩ | ⟨p, q⟩ | ⟨p, q, e⟩
  · by_cases hb : im_bn (K (g t))
    · exact im_st1b hc hST hRF hSG hm hFL p q hb
    · exact im_st1n hc hST hRF hSG hm hFL p q hb
  · by_cases hb : im_bn (K (g t))
    · exact im_st2b hc hp hST hRF hSG hm hFL p q hb hans
    · exact im_st2n hc hp hST hRF hSG hm hFL p q hb hans (hv (by rw [p]; decide))
  · by_cases hb : im_bn (K (g t))
    · exact im_st3b hc hST hRF hSG hm hFL p q hb hans (e hb)
    · exact im_st3n hc hST hRF hSG hm hFL p q hb hans (hv (by rw [p]; decide))
theorem im_run (hc : c ≤ 32) (hp : im_Pr c K A B C) : ∀ (m : Nat) (u : SX) (v : SY), im_CF cap c scr la K A B C dX nX lo le lv tk tv dk dv nk nv m u v →
    ∃ u' v', im_CE cap c scr la K A B C dX nX lo le lv tk tv dk dv nk nv u' v' ∧ (∀ (post : SX → Prop) (n i : Nat), m < n → i + m ≤ 1024 → post u' → im_LX post n (nI i) u) ∧ (∀ (post : Int32 → SY → Prop) (n i : Nat), m < n → i + m ≤ 4096 → im_LE post v' → im_LY post n (nI i) v) := by
  intro m
  induction m with
  | zero =>
    rintro u v ⟨sX, inn, dem, stg, rf, eo, xp, ans, st, sv, act, yp, fN, fP, fB, fK, fV, sp, rk, rv, rfl, rfl, hST, hRF, hSG, hans, hE⟩
    subst hans
    rcases hE with rfl | ⟨h3, hm, rfl, s, g, rfl, hFL, hE⟩
    · refine ⟨(cap, nI c, scr, la, inn, xp, im_P 3 rv, K, A, B, C, sX, dX, nX, dem, stg, rf, eo), (cap, nI c, scr, yp, lo, le, lv, sp, 3, rv, tk, tv, K, A, B, C, st, sv, act, fN, fP, fB, fK, fV, dk, dv, nk, nv), ⟨_, _, _, _, _, _, _, _, _, _, _, _, _, _, _, _, _, _, _, _, rfl, rfl, hST, hRF, hSG, rfl, Or.inl rfl⟩, fun post n i hn _ h => ?_, fun post n i hn _ h => ?_⟩
      · obtain ⟨n, rfl⟩ : ∃ k, n = k + 1 := ⟨n - 1, by omega⟩
        exact xr_exit3 hc h
      · obtain ⟨n, rfl⟩ : ∃ k, n = k + 1 := ⟨n - 1, by omega⟩
        exact yr_exit3 h
    · cases s with
      | zero =>
        have hv : im_vl c K (rk, rv) := hE.elim (fun z => absurd z.1 (Nat.lt_irrefl 0)) (fun z => z.1)
        have hi : inn = -1 := hFL.2.2.2.1
        subst hi
        refine ⟨(cap, nI c, scr, la, -1, xp, im_P rk rv, K, A, B, C, sX, dX, nX, dem, stg, rf, eo), (cap, nI c, scr, xp, lo, le, lv, nI 0, rk, rv, tk, tv, K, A, B, C, st, sv, act, fN, fP, fB, fK, fV, dk, dv, nk, nv), ⟨_, _, _, _, _, _, _, _, _, _, _, _, _, _, _, _, _, _, _, _, rfl, rfl, hST, hRF, hSG, rfl, Or.inr ⟨hv, rfl⟩⟩, fun post n i hn _ h => ?_, fun post n i hn _ h => ?_⟩
        · obtain ⟨n, rfl⟩ : ∃ k, n = k + 1 := ⟨n - 1, by omega⟩
          exact xr_exit0 hc h
        · obtain ⟨n, rfl⟩ : ∃ k, n = k + 1 := ⟨n - 1, by omega⟩
          exact yr_exit0 h
      | succ t =>
        have hF := hFL.1 t (by omega)
        have := im_mu_pos (stg := stg) hF.1 hF.2.2.1.1
        omega
  | succ m ih =>
    rintro u v ⟨sX, inn, dem, stg, rf, eo, xp, ans, st, sv, act, yp, fN, fP, fB, fK, fV, sp, rk, rv, rfl, rfl, hST, hRF, hSG, hans, hE⟩
    rcases hE with rfl | ⟨h3, hm, rfl, s, g, rfl, hFL, hE⟩
    · subst hans
      refine ⟨(cap, nI c, scr, la, inn, xp, im_P 3 rv, K, A, B, C, sX, dX, nX, dem, stg, rf, eo), (cap, nI c, scr, yp, lo, le, lv, sp, 3, rv, tk, tv, K, A, B, C, st, sv, act, fN, fP, fB, fK, fV, dk, dv, nk, nv), ⟨_, _, _, _, _, _, _, _, _, _, _, _, _, _, _, _, _, _, _, _, rfl, rfl, hST, hRF, hSG, rfl, Or.inl rfl⟩, fun post n i hn _ h => ?_, fun post n i hn _ h => ?_⟩
      · obtain ⟨n, rfl⟩ : ∃ k, n = k + 1 := ⟨n - 1, by omega⟩
        exact xr_exit3 hc h
      · obtain ⟨n, rfl⟩ : ∃ k, n = k + 1 := ⟨n - 1, by omega⟩
        exact yr_exit3 h
    · cases s with
      | zero =>
        subst hans
        have hv : im_vl c K (rk, rv) := hE.elim (fun z => absurd z.1 (Nat.lt_irrefl 0)) (fun z => z.1)
        have hi : inn = -1 := hFL.2.2.2.1
        subst hi
        refine ⟨(cap, nI c, scr, la, -1, xp, im_P rk rv, K, A, B, C, sX, dX, nX, dem, stg, rf, eo), (cap, nI c, scr, xp, lo, le, lv, nI 0, rk, rv, tk, tv, K, A, B, C, st, sv, act, fN, fP, fB, fK, fV, dk, dv, nk, nv), ⟨_, _, _, _, _, _, _, _, _, _, _, _, _, _, _, _, _, _, _, _, rfl, rfl, hST, hRF, hSG, rfl, Or.inr ⟨hv, rfl⟩⟩, fun post n i hn _ h => ?_, fun post n i hn _ h => ?_⟩
        · obtain ⟨n, rfl⟩ : ∃ k, n = k + 1 := ⟨n - 1, by omega⟩
          exact xr_exit0 hc h
        · obtain ⟨n, rfl⟩ : ∃ k, n = k + 1 := ⟨n - 1, by omega⟩
          exact yr_exit0 h
      | succ t =>
        have hF := hFL.1 t (by omega)
        have hs32 := im_FL_le hFL
        have hinn : inn = nI (g t) := hFL.2.2.2.1
        have hv : fP t ≠ 0 → im_vl c K (rk, rv) := fun z => hE.elim (fun w => absurd w.2 z) (fun w => w.1)
        obtain ⟨_, u1, v1, hC, hX, hY⟩ := im_any (cap := cap) (scr := scr) (la := la) (dX := dX) (nX := nX) (lo := lo) (le := le) (lv := lv) (tk := tk) (tv := tv) (dk := dk) (dv := dv) (nk := nk) (nv := nv) (xp := xp) (m := m + 1) hc hp hST hRF hSG hm hFL hans hv
        obtain ⟨u2, v2, hCE, hX2, hY2⟩ := ih u1 v1 hC
        refine ⟨u2, v2, hCE, fun post n i hn hi h => ?_, fun post n i hn hi h => ?_⟩
        · obtain ⟨n, rfl⟩ : ∃ k, n = k + 1 := ⟨n - 1, by omega⟩
          have q := hX (im_KX post n (nI i)) (im_KX_of (hX2 post n (i + 1) (by omega) (by omega) h))
          subst hans
          subst hinn
          exact xr_step hc (by omega) hF.1 h3 q
        · obtain ⟨n, rfl⟩ : ∃ k, n = k + 1 := ⟨n - 1, by omega⟩
          have q := hY (im_KY post n (nI i)) (im_KY_of (hY2 post n (i + 1) (by omega) (by omega) h))
          exact yr_step (by omega) (by omega) hs32 h3 q
end
