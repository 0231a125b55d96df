/-! one step of both -/
def im_XB (q : Int32) (post : SX → Prop) (u : SX) (n : Nat) : Prop := (q = 1 ∧ wpX_demandFirst post u (nI n)) ∨ (q = 2 ∧ wpX_demandLast post u (nI n)) ∨ (q = 3 ∧ wpX_finish post u (nI n))
section
variable {cap : Int32} {c : Nat} {scr la : Int64} {K A B C : Nat → Int32} {dX nX : Nat → Int64} {lo le lv tk tv : Int32} {dk dv nk nv : Nat → Int32} {sX : Nat → Int64} {inn : Int32} {dem stg rf : Nat → Int32} {eo : Nat → Int64} {xp : Int32} {ans : Int64} {st sv act : Nat → Int32} {yp : Int32} {fN fP fB fK fV : Nat → Int32} {sp rk rv : Int32} {t : Nat} {g : Nat → Nat} {m : Nat}
theorem im_SGu (hSG : ∀ i, c ≤ i → i < 32 → stg i = 0) {n : Nat} (hn : n < c) (q : Int32) : ∀ i, c ≤ i → i < 32 → upd stg n q i = 0 := by
  intro i h1 h2
  rw [pk_un (by omega)]; exact hSG i h1 h2
theorem im_hPu (h : ∀ t', t' + 1 < t + 1 → fP t' ≠ 0) {q : Int32} (hq : q ≠ 0) : ∀ t', t' < t + 1 → upd fP t q t' ≠ 0 := by
  intro t' ht
  by_cases e : t' = t
  · subst e; rw [pk_us]; exact hq
  · rw [pk_un e]; exact h t' (by omega)
theorem im_st1b (hc : c ≤ 32) (hST : im_ST c K A sX st sv) (hRF : im_RF c K rf) (hSG : ∀ i, c ≤ i → i < 32 → stg i = 0) (hm : im_mu c st stg ≤ m)
    (hFL : im_FL c K st fN fP fB fK fV act stg rf eo dem inn (t + 1) g) (h0 : fP t = 0) (h1 : stg (g t) = 1) (hb : im_bn (K (g t))) :
    0 < m ∧ ∃ u v, im_CF cap c scr la K A B C dX nX lo le lv tk tv dk dv nk nv (m - 1) u v ∧ (∀ post : SX → Prop, post u → im_XB (stg (g t)) post (cap, nI c, scr, la, inn, xp, ans, K, A, B, C, sX, dX, nX, dem, stg, rf, eo) (g t)) ∧ (∀ post : SY → Prop, post v → wpY_step post (cap, nI c, scr, xp, lo, le, lv, nI (t + 1), rk, rv, tk, tv, K, A, B, C, st, sv, act, fN, fP, fB, fK, fV, dk, dv, nk, nv)) := by
  have hF := hFL.1 t (by omega)
  have hbit := im_bt01 scr xp
  generalize hbe : im_bt scr xp = b at hbit
  have hFL2 := im_FL_top (fP' := upd fP t 1) (fB' := upd fB t b) (fK' := fK) (fV' := fV) (stg' := upd stg (g t) 2) (rf' := upd rf (g t) b) (eo' := eo) hFL (fun i hi => ⟨pk_un hi, pk_un hi, rfl⟩) (fun i hi => ⟨pk_un hi, pk_un hi, rfl, rfl⟩) ⟨hF.2.1, hF.2.2.1, Or.inr (Or.inl ⟨pk_us, pk_us⟩), fun _ _ => by rw [pk_us, pk_us]⟩
  have hRF2 : im_RF c K (upd rf (g t) b) := by
    intro i hi
    by_cases e : i = g t
    · subst e; rw [pk_us]
      exact hbit.imp id (fun z => ⟨z, hF.1, hb⟩)
    · rw [pk_un e]; exact hRF i hi
  have hmu : im_mu c st (upd stg (g t) 2) < im_mu c st stg := by
    apply im_mu_lt (g t) hF.1 (fun i hi => ⟨rfl, pk_un hi⟩)
    show im_wt (st (g t)) (upd stg (g t) 2 (g t)) < im_wt (st (g t)) (stg (g t))
    rw [pk_us, h1, hF.2.2.1.1]
    decide
  obtain ⟨u, v, hC, hX, hY⟩ := im_dem (cap := cap) (scr := scr) (la := la) (B := B) (C := C) (dX := dX) (nX := nX) (lo := lo) (le := le) (lv := lv) (tk := tk) (tv := tv) (dk := dk) (dv := dv) (nk := nk) (nv := nv) (xp := (xp + 1) &&& 63) (ans := ans) (rk := rk) (rv := rv) (m := m - 1) hc hST hRF2 (im_SGu hSG hF.1 2) (by omega) hFL2 (im_hPu hFL.2.2.2.2.2.1 (by decide)) (if b = 0 then A (g t) else B (g t))
  exact ⟨by omega, u, v, hC, fun post hp => Or.inl ⟨h1, xs_first_b hc hF.1 hb hbe hbit (hX post hp)⟩, fun post hp => ys_first_b hc (by have := im_FL_le hFL; omega) hF.1 hF.2.1 h0 hb hbe (hY post hp)⟩
theorem im_st1n (hc : c ≤ 32) (hST : im_ST c K A sX st sv) (hRF : im_RF c K rf) (hSG : ∀ i, c ≤ i → i < 32 → stg i = 0) (hm : im_mu c st stg ≤ m)
    (hFL : im_FL c K st fN fP fB fK fV act stg rf eo dem inn (t + 1) g) (h0 : fP t = 0) (h1 : stg (g t) = 1) (hb : ¬ im_bn (K (g t))) :
    0 < m ∧ ∃ u v, im_CF cap c scr la K A B C dX nX lo le lv tk tv dk dv nk nv (m - 1) u v ∧ (∀ post : SX → Prop, post u → im_XB (stg (g t)) post (cap, nI c, scr, la, inn, xp, ans, K, A, B, C, sX, dX, nX, dem, stg, rf, eo) (g t)) ∧ (∀ post : SY → Prop, post v → wpY_step post (cap, nI c, scr, xp, lo, le, lv, nI (t + 1), rk, rv, tk, tv, K, A, B, C, st, sv, act, fN, fP, fB, fK, fV, dk, dv, nk, nv)) := by
  have hF := hFL.1 t (by omega)
  have hr0 : rf (g t) = 0 := by
    rcases hRF (g t) (by omega) with z | z
    · exact z
    · exact absurd z.2.2 hb
  have hFL2 := im_FL_top (fP' := upd fP t 1) (fB' := fB) (fK' := fK) (fV' := fV) (stg' := upd stg (g t) 2) (rf' := rf) (eo' := eo) hFL (fun i hi => ⟨pk_un hi, rfl, rfl⟩) (fun i hi => ⟨pk_un hi, rfl, rfl, rfl⟩) ⟨hF.2.1, hF.2.2.1, Or.inr (Or.inl ⟨pk_us, pk_us⟩), fun _ z => absurd z hb⟩
  have hmu : im_mu c st (upd stg (g t) 2) < im_mu c st stg := by
    apply im_mu_lt (g t) hF.1 (fun i hi => ⟨rfl, pk_un hi⟩)
    show im_wt (st (g t)) (upd stg (g t) 2 (g t)) < im_wt (st (g t)) (stg (g t))
    rw [pk_us, h1, hF.2.2.1.1]
    decide
  obtain ⟨u, v, hC, hX, hY⟩ := im_dem (cap := cap) (scr := scr) (la := la) (B := B) (C := C) (dX := dX) (nX := nX) (lo := lo) (le := le) (lv := lv) (tk := tk) (tv := tv) (dk := dk) (dv := dv) (nk := nk) (nv := nv) (xp := xp) (ans := ans) (rk := rk) (rv := rv) (m := m - 1) hc hST hRF (im_SGu hSG hF.1 2) (by omega) hFL2 (im_hPu hFL.2.2.2.2.2.1 (by decide)) (A (g t))
  exact ⟨by omega, u, v, hC, fun post hp => Or.inl ⟨h1, xs_first_n hc hF.1 hb hr0 (hX post hp)⟩, fun post hp => ys_first_n hc (by have := im_FL_le hFL; omega) hF.1 hF.2.1 h0 hb (hY post hp)⟩
theorem im_st2b (hc : c ≤ 32) (hp : im_Pr c K A B C) (hST : im_ST c K A sX st sv) (hRF : im_RF c K rf) (hSG : ∀ i, c ≤ i → i < 32 → stg i = 0) (hm : im_mu c st stg ≤ m)
    (hFL : im_FL c K st fN fP fB fK fV act stg rf eo dem inn (t + 1) g) (h0 : fP t = 1) (h1 : stg (g t) = 2) (hb : im_bn (K (g t))) (hans : ans = im_P rk rv) :
    0 < m ∧ ∃ u v, im_CF cap c scr la K A B C dX nX lo le lv tk tv dk dv nk nv (m - 1) u v ∧ (∀ post : SX → Prop, post u → im_XB (stg (g t)) post (cap, nI c, scr, la, inn, xp, ans, K, A, B, C, sX, dX, nX, dem, stg, rf, eo) (g t)) ∧ (∀ post : SY → Prop, post v → wpY_step post (cap, nI c, scr, xp, lo, le, lv, nI (t + 1), rk, rv, tk, tv, K, A, B, C, st, sv, act, fN, fP, fB, fK, fV, dk, dv, nk, nv)) := by
  have hF := hFL.1 t (by omega)
  have hfB : fB t = rf (g t) := hF.2.2.2.2 (by rw [h0]; decide) hb
  have hr01 : rf (g t) = 0 ∨ rf (g t) = 1 := (hRF (g t) (by omega)).imp id (fun z => z.1)
  have hne : (if rf (g t) = 0 then B (g t) else A (g t)) ≠ -1 := by
    obtain ⟨_, _, p3, p4, _⟩ := hp (g t) hF.1
    split
    · refine p4 hF.2.2.1.2.1 hF.2.2.1.2.2.1 ?_ ?_
      · intro z; rw [z] at hb; exact absurd hb.2 (by decide)
      · intro z; rw [z] at hb; exact absurd hb.2 (by decide)
    · exact p3 hF.2.2.1.2.1 hF.2.2.1.2.2.1
  have hFL2 := im_FL_top (fP' := upd fP t 2) (fB' := fB) (fK' := upd fK t rk) (fV' := upd fV t rv) (stg' := upd stg (g t) 3) (rf' := rf) (eo' := vp_updL eo (g t) ans) hFL (fun i hi => ⟨pk_un hi, rfl, pk_uLn hi⟩) (fun i hi => ⟨pk_un hi, rfl, pk_un hi, pk_un hi⟩) ⟨hF.2.1, hF.2.2.1, Or.inr (Or.inr ⟨pk_us, pk_us, fun _ => by rw [pk_uLs, pk_us, pk_us, hans]⟩), fun _ _ => hfB⟩
  have hmu : im_mu c st (upd stg (g t) 3) < im_mu c st stg := by
    apply im_mu_lt (g t) hF.1 (fun i hi => ⟨rfl, pk_un hi⟩)
    show im_wt (st (g t)) (upd stg (g t) 3 (g t)) < im_wt (st (g t)) (stg (g t))
    rw [pk_us, h1, hF.2.2.1.1]
    decide
  obtain ⟨u, v, hC, hX, hY⟩ := im_dem (cap := cap) (scr := scr) (la := la) (B := B) (C := C) (dX := dX) (nX := nX) (lo := lo) (le := le) (lv := lv) (tk := tk) (tv := tv) (dk := dk) (dv := dv) (nk := nk) (nv := nv) (xp := xp) (ans := ans) (rk := rk) (rv := rv) (m := m - 1) hc hST hRF (im_SGu hSG hF.1 3) (by omega) hFL2 (im_hPu hFL.2.2.2.2.2.1 (by decide)) (if rf (g t) = 0 then B (g t) else A (g t))
  exact ⟨by omega, u, v, hC, fun post hp => Or.inr (Or.inl ⟨h1, xs_last_b hc hF.1 hb hr01 hne (hX post hp)⟩), fun post hp => ys_last_b hc (by have := im_FL_le hFL; omega) hF.1 hF.2.1 h0 hb hfB (hY post hp)⟩
theorem im_st2n (hc : c ≤ 32) (hp : im_Pr c K A B C) (hST : im_ST c K A sX st sv) (hRF : im_RF c K rf) (hSG : ∀ i, c ≤ i → i < 32 → stg i = 0) (hm : im_mu c st stg ≤ m)
    (hFL : im_FL c K st fN fP fB fK fV act stg rf eo dem inn (t + 1) g) (h0 : fP t = 1) (h1 : stg (g t) = 2) (hb : ¬ im_bn (K (g t))) (hans : ans = im_P rk rv) (hv : im_vl c K (rk, rv)) :
    0 < m ∧ ∃ u v, im_CF cap c scr la K A B C dX nX lo le lv tk tv dk dv nk nv (m - 1) u v ∧ (∀ post : SX → Prop, post u → im_XB (stg (g t)) post (cap, nI c, scr, la, inn, xp, ans, K, A, B, C, sX, dX, nX, dem, stg, rf, eo) (g t)) ∧ (∀ post : SY → Prop, post v → wpY_step post (cap, nI c, scr, xp, lo, le, lv, nI (t + 1), rk, rv, tk, tv, K, A, B, C, st, sv, act, fN, fP, fB, fK, fV, dk, dv, nk, nv)) := by
  have hF := hFL.1 t (by omega)
  have hmu : im_mu c st (upd stg (g t) 3) < im_mu c st stg := by
    apply im_mu_lt (g t) hF.1 (fun i hi => ⟨rfl, pk_un hi⟩)
    show im_wt (st (g t)) (upd stg (g t) 3 (g t)) < im_wt (st (g t)) (stg (g t))
    rw [pk_us, h1, hF.2.2.1.1]
    decide
  cases hct : im_ct c K A B C (g t) (rk, rv) with
  | none =>
    exact ⟨by omega, _, _, ⟨_, _, _, _, _, _, _, _, _, _, _, _, _, _, _, _, _, _, _, _, rfl, rfl, hST, hRF, im_SGu hSG hF.1 3, rfl, Or.inl rfl⟩, fun post hp => Or.inr (Or.inl ⟨h1, xs_last_none hc hF.1 hF.2.2.1.2 hb hans hv hct hp⟩), fun post hp => ys_last_none hc (by have := im_FL_le hFL; omega) hF.1 hF.2.1 hF.2.2.1.2 h0 hb hv hct hp⟩
  | some r =>
    have hne := im_ct_ne hp hF.1 hF.2.2.1.2.1 hF.2.2.1.2.2.1 hb hv hc hct
    have hFL2 := im_FL_top (fP' := upd fP t 2) (fB' := fB) (fK' := fK) (fV' := fV) (stg' := upd stg (g t) 3) (rf' := rf) (eo' := vp_updL eo (g t) ans) hFL (fun i hi => ⟨pk_un hi, rfl, pk_uLn hi⟩) (fun i hi => ⟨pk_un hi, rfl, rfl, rfl⟩) ⟨hF.2.1, hF.2.2.1, Or.inr (Or.inr ⟨pk_us, pk_us, fun z => absurd z hb⟩), fun _ z => absurd z hb⟩
    obtain ⟨u, v, hC, hX, hY⟩ := im_dem (cap := cap) (scr := scr) (la := la) (B := B) (C := C) (dX := dX) (nX := nX) (lo := lo) (le := le) (lv := lv) (tk := tk) (tv := tv) (dk := dk) (dv := dv) (nk := nk) (nv := nv) (xp := xp) (ans := ans) (rk := rk) (rv := rv) (m := m - 1) hc hST hRF (im_SGu hSG hF.1 3) (by omega) hFL2 (im_hPu hFL.2.2.2.2.2.1 (by decide)) r
    exact ⟨by omega, u, v, hC, fun post hp => Or.inr (Or.inl ⟨h1, xs_last_some hc hF.1 hF.2.2.1.2 hb hans hv hct hne (hX post hp)⟩), fun post hp => ys_last_some hc (by have := im_FL_le hFL; omega) hF.1 hF.2.1 hF.2.2.1.2 h0 hb hv hct (hY post hp)⟩
/-- the end of a node: a value (k, v) -/
theorem im_fin (hc : c ≤ 32) (hST : im_ST c K A sX st sv) (hRF : im_RF c K rf) (hSG : ∀ i, c ≤ i → i < 32 → stg i = 0) (hm : im_mu c st stg ≤ m)
    (hFL : im_FL c K st fN fP fB fK fV act stg rf eo dem inn (t + 1) g) {k v : Int32} (hv : im_vl c K (k, v)) :
    0 < m ∧ im_CF cap c scr la K A B C dX nX lo le lv tk tv dk dv nk nv (m - 1) (cap, nI c, scr, la, dem (g t), xp, im_P k v, K, A, B, C, vp_updL sX (g t) (im_P k v), dX, nX, dem, upd stg (g t) 0, rf, eo) (cap, nI c, scr, xp, lo, le, lv, nI t, k, v, tk, tv, K, A, B, C, upd st (g t) k, upd sv (g t) v, upd act (g t) 0, fN, fP, fB, fK, fV, dk, dv, nk, nv) := by
  have hF := hFL.1 t (by omega)
  have hn3 : k ≠ 3 := im_wf_ne hv
  have hmu : im_mu c (upd st (g t) k) (upd stg (g t) 0) < im_mu c st stg := by
    apply im_mu_lt (g t) hF.1 (fun i hi => ⟨pk_un hi, pk_un hi⟩)
    show im_wt (upd st (g t) k (g t)) (upd stg (g t) 0 (g t)) < im_wt (st (g t)) (stg (g t))
    rw [pk_us, pk_us, hF.2.2.1.1]
    unfold im_wt
    rw [if_neg hn3, if_pos rfl]
    repeat' split
    all_goals omega
  exact ⟨by omega, _, _, _, _, _, _, _, _, _, _, _, _, _, _, _, _, _, _, _, _, rfl, rfl, im_ST_up hST hv hF.2.2.1.2, hRF, im_SGu hSG hF.1 0, rfl, Or.inr ⟨hn3, by omega, rfl, t, g, rfl, im_FL_pop hFL hc k, Or.inr ⟨hv, fun t' ht => hFL.2.2.2.2.2.1 t' (by omega)⟩⟩⟩
theorem im_st3n (hc : c ≤ 32) (hST : im_ST c K A sX st sv) (hRF : im_RF c K rf) (hSG : ∀ i, c ≤ i → i < 32 → stg i = 0) (hm : im_mu c st stg ≤ m)
    (hFL : im_FL c K st fN fP fB fK fV act stg rf eo dem inn (t + 1) g) (h0 : fP t = 2) (h1 : stg (g t) = 3) (hb : ¬ im_bn (K (g t))) (hans : ans = im_P rk rv) (hv : im_vl c K (rk, rv)) :
    0 < m ∧ ∃ u v, im_CF cap c scr la K A B C dX nX lo le lv tk tv dk dv nk nv (m - 1) u v ∧ (∀ post : SX → Prop, post u → im_XB (stg (g t)) post (cap, nI c, scr, la, inn, xp, ans, K, A, B, C, sX, dX, nX, dem, stg, rf, eo) (g t)) ∧ (∀ post : SY → Prop, post v → wpY_step post (cap, nI c, scr, xp, lo, le, lv, nI (t + 1), rk, rv, tk, tv, K, A, B, C, st, sv, act, fN, fP, fB, fK, fV, dk, dv, nk, nv)) := by
  have hF := hFL.1 t (by omega)
  have hE := im_fin (cap := cap) (scr := scr) (la := la) (B := B) (C := C) (dX := dX) (nX := nX) (lo := lo) (le := le) (lv := lv) (tk := tk) (tv := tv) (dk := dk) (dv := dv) (nk := nk) (nv := nv) (xp := xp) hc hST hRF hSG hm hFL hv
  exact ⟨hE.1, _, _, hE.2, fun post hp => Or.inr (Or.inr ⟨h1, xs_fin_n hc hF.1 hb hans (im_wf_ne hv) hp⟩), fun post hp => ys_fin_n hc (by have := im_FL_le hFL; omega) hF.1 hF.2.1 h0 hb hp⟩
theorem im_st3b (hc : c ≤ 32) (hST : im_ST c K A sX st sv) (hRF : im_RF c K rf) (hSG : ∀ i, c ≤ i → i < 32 → stg i = 0) (hm : im_mu c st stg ≤ m)
    (hFL : im_FL c K st fN fP fB fK fV act stg rf eo dem inn (t + 1) g) (h0 : fP t = 2) (h1 : stg (g t) = 3) (hb : im_bn (K (g t))) (hans : ans = im_P rk rv) (heo : eo (g t) = im_P (fK t) (fV t)) :
    0 < m ∧ ∃ u v, im_CF cap c scr la K A B C dX nX lo le lv tk tv dk dv nk nv (m - 1) u v ∧ (∀ post : SX → Prop, post u → im_XB (stg (g t)) post (cap, nI c, scr, la, inn, xp, ans, K, A, B, C, sX, dX, nX, dem, stg, rf, eo) (g t)) ∧ (∀ post : SY → Prop, post v → wpY_step post (cap, nI c, scr, xp, lo, le, lv, nI (t + 1), rk, rv, tk, tv, K, A, B, C, st, sv, act, fN, fP, fB, fK, fV, dk, dv, nk, nv)) := by
  have hF := hFL.1 t (by omega)
  have hfB : fB t = rf (g t) := hF.2.2.2.2 (by rw [h0]; decide) hb
  have hr01 : rf (g t) = 0 ∨ rf (g t) = 1 := (hRF (g t) (by omega)).imp id (fun z => z.1)
  have hmu : 0 < im_mu c st stg := im_mu_pos hF.1 hF.2.2.1.1
  generalize hcb : im_cb (K (g t)) (if rf (g t) = 0 then (fK t, fV t) else (rk, rv)) (if rf (g t) = 0 then (rk, rv) else (fK t, fV t)) = q
  by_cases q3 : q.1 = 3
  · exact ⟨by omega, _, _, ⟨_, _, _, _, _, _, _, _, _, _, _, _, _, _, _, _, _, _, _, _, rfl, rfl, hST, hRF, hSG, rfl, Or.inl rfl⟩, fun post hp => Or.inr (Or.inr ⟨h1, xs_fin_bx hc hF.1 hb hr01 hans heo hcb q3 hp⟩), fun post hp => ys_fin_bx hc (by have := im_FL_le hFL; omega) hF.1 hF.2.1 h0 hb hfB hr01 hcb q3 hp⟩
  · have q1 : q.1 = 1 := by rw [← hcb]; rw [← hcb] at q3; exact im_cb_1 q3
    have hE := im_fin (cap := cap) (scr := scr) (la := la) (B := B) (C := C) (dX := dX) (nX := nX) (lo := lo) (le := le) (lv := lv) (tk := tk) (tv := tv) (dk := dk) (dv := dv) (nk := nk) (nv := nv) (xp := xp) hc hST hRF hSG hm hFL (k := 1) (v := q.2) (Or.inl rfl)
    exact ⟨hE.1, _, _, hE.2, fun post hp => Or.inr (Or.inr ⟨h1, xs_fin_bv hc hF.1 hb hr01 hans heo hcb q1 hp⟩), fun post hp => ys_fin_bv hc (by have := im_FL_le hFL; omega) hF.1 hF.2.1 h0 hb hfB hr01 hcb q1 hp⟩
end
