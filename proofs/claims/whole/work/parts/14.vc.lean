/-! what is owed, call by call -/
theorem i_vc_addNode {k : Nat} {u : SX} {v : SY} (I : i_Rel k u v) (hk : k + 5 ≤ 2561) (v1 : Int32) (v2 : Int32) (v3 : Int32) (v4 : Int32) : wpX_addNode (fun r u' => wpY_addNode (fun r' v' => r' = r ∧ i_Rel (k + 5) u' v') v v1 v2 v3 v4) u v1 v2 v3 v4 := by
  obtain ⟨p, c, scr, la, K, A, B, C, dX, nX, sX, inn, dem, stg, rf, eo, xp, ans, st, sv, act, yp, fN, fP, fB, fK, fV, sp, rk, rv, lo, le, lv, tk, tv, dk, dv, nk, nv, rfl, rfl, hI⟩ := I
  obtain ⟨⟨h8, h32, hcp⟩, hPr, hST, hRF, hSG, hLA, hDX⟩ := hI
  unfold wpX_addNode
  refine xo_refuses h32 hcp (fun hn => br_f (by decide) ?_) (fun ha => br_t rfl ?_)
  · exact yo_add h32 hcp (fun _ => ⟨rfl, _, _, _, _, _, _, _, _, _, _, _, _, _, _, _, _, _, _, _, _, _, _, _, _, _, _, _, _, _, _, _, _, _, _, _, _, _, _, _, rfl, rfl, ⟨h8, h32, hcp⟩, hPr, hST, hRF, hSG, hLA, hDX⟩) (fun ha => absurd ha hn)
  · have hc : c < p := ha.1
    have cl : (nI c).toNatClampNeg = c := nI_clamp (by omega)
    have vc : vp_in (nI c) 32 := vp_in_nI (by omega) (by decide)
    have hPr2 := im_Pr_add hPr (im_acc_ok ha)
    rw [cl, nI_1]
    refine ⟨vc, nm_e ⟨vc, nm_e ⟨vc, nm_e ⟨vc, nm_e (xo_init (by omega) ⟨vc, nm_e (nm_e (xl_solve (c := c + 1) (by omega) hPr2 (fun dX' nX' hD => ?_)))⟩)⟩⟩⟩⟩
    refine yo_add h32 hcp (fun hn => absurd ha hn) (fun _ => yo_99 (by omega) ⟨rfl, _, _, _, _, _, _, _, _, _, _, _, _, _, _, _, _, _, _, _, _, _, _, _, _, _, _, _, _, _, _, _, _, _, _, _, _, _, _, _, rfl, rfl, ⟨h8, h32, by omega⟩, hPr2, ?_, im_RF_add hRF v1, hSG, hLA, hD⟩)
    have e : im_is (upd K c v1) (upd A c v2) c = im_P (im_ik v1 v2 c).1 (im_ik v1 v2 c).2 := by
      unfold im_is
      rw [pk_us, pk_us]
    rw [e]
    exact im_ST_add hST v1 v2
theorem i_vc_setScript {k : Nat} {u : SX} {v : SY} (I : i_Rel k u v) (hk : k + 5 ≤ 2561) (a0 : Int64) : wpX_setScript (fun u' => wpY_setScript (fun v' => i_Rel (k + 5) u' v') v a0) u a0 := by
  obtain ⟨p, c, scr, la, K, A, B, C, dX, nX, sX, inn, dem, stg, rf, eo, xp, ans, st, sv, act, yp, fN, fP, fB, fK, fV, sp, rk, rv, lo, le, lv, tk, tv, dk, dv, nk, nv, rfl, rfl, hI⟩ := I
  exact ⟨_, _, _, _, _, _, _, _, _, _, _, _, _, _, _, _, _, _, _, _, _, _, _, _, _, _, _, _, _, _, _, _, _, _, _, _, _, _, _, rfl, rfl, hI⟩
theorem i_vc_script {k : Nat} {u : SX} {v : SY} (I : i_Rel k u v) (hk : k + 5 ≤ 2561) : wpX_script (fun r => wpY_script (fun r' => r' = r ∧ i_Rel (k + 5) u v) v) u := by
  have I2 := I
  obtain ⟨p, c, scr, la, K, A, B, C, dX, nX, sX, inn, dem, stg, rf, eo, xp, ans, st, sv, act, yp, fN, fP, fB, fK, fV, sp, rk, rv, lo, le, lv, tk, tv, dk, dv, nk, nv, rfl, rfl, hI⟩ := I
  exact ⟨rfl, I2⟩
theorem i_vc_run {k : Nat} {u : SX} {v : SY} (I : i_Rel k u v) (hk : k + 5 ≤ 2561) (v1 : Int32) : wpX_run (fun r u' => wpY_run (fun r' v' => r' = r ∧ i_Rel (k + 5) u' v') v v1) u v1 := by
  have I2 := I
  obtain ⟨p, c, scr, la, K, A, B, C, dX, nX, sX, inn, dem, stg, rf, eo, xp, ans, st, sv, act, yp, fN, fP, fB, fK, fV, sp, rk, rv, lo, le, lv, tk, tv, dk, dv, nk, nv, rfl, rfl, hI⟩ := I
  obtain ⟨⟨h8, h32, hcp⟩, hPr, hST, hRF, hSG, hLA, hDX⟩ := hI
  have hc : c ≤ 32 := by omega
  have out : (v1 < 0 ∨ nI c ≤ v1) → wpX_run (fun r u' => wpY_run (fun r' v' => r' = r ∧ i_Rel (k + 5) u' v') (nI p, nI c, scr, yp, lo, le, lv, sp, rk, rv, tk, tv, K, A, B, C, st, sv, act, fN, fP, fB, fK, fV, dk, dv, nk, nv) v1) (nI p, nI c, scr, la, inn, xp, ans, K, A, B, C, sX, dX, nX, dem, stg, rf, eo) v1 := by
    intro z
    unfold wpX_run
    refine xo_isNode_f hc z (br_t rfl ?_)
    unfold wpY_run
    exact yq_out z ⟨rfl, I2⟩
  rcases pk_ix v1 (show c < 2 ^ 31 by omega) with z | z | ⟨j, hj, rfl⟩
  · exact out (Or.inl z)
  · exact out (Or.inr z)
  · have hFL0 : im_FL c K st fN fP fB fK fV (im_fl act (fun _ => 0) 32) stg rf eo dem (-1) 0 (fun _ => 0) := im_FL_0 hSG (fun i hi => im_fl_lt hi) _
    have hmu := im_mu_b c st stg
    obtain ⟨u1, v1, hC, hX, hY⟩ := im_dem (cap := nI p) (scr := scr) (la := la) (B := B) (C := C) (dX := dX) (nX := nX) (lo := lo) (le := le) (lv := lv) (tk := tk) (tv := tv) (dk := dk) (dv := dv) (nk := nk) (nv := nv) (xp := 0) (ans := ans) (rk := rk) (rv := rv) (m := 128) hc hST hRF (fun i _ hi => hSG i hi) (by omega) hFL0 (fun t ht => absurd ht (Nat.not_lt_zero _)) (nI j)
    obtain ⟨u2, v2, hCE, hX2, hY2⟩ := im_run hc hPr 128 u1 v1 hC
    obtain ⟨sX', inn', dem', stg', rf', eo', xp', ans', st', sv', act', yp', fN', fP', fB', fK', fV', sp', rk', rv', rfl, rfl, hST', hRF', hSG', hans', hE'⟩ := hCE
    subst hans'
    have hE2 : rk' = 3 ∨ sp' = nI 0 := hE'.imp id (fun z => z.2)
    have hsg : ∀ i, i < 32 → im_fl stg' (fun _ => (0 : Int32)) c i = 0 := by
      intro i hi
      by_cases z : i < c
      · exact im_fl_lt z
      · rw [im_fl_ge z]; exact hSG' i (by omega) hi
    unfold wpX_run
    refine xo_isNode_t hc hj (br_f (by decide) ?_)
    unfold wpX_evaluate
    refine hX _ (im_LX_ex (hX2 _ 129 0 (by omega) (by omega) ?_))
    refine xl_leave hc (xo_kindOf ?_)
    unfold wpY_run
    refine yq_in hc hj (yl_26 (nI j) (hY _ (im_LY_ex (hY2 _ 129 0 (by omega) (by omega) ?_))))
    refine yr_87 hE2 (yl_109 (fun e3 => ?_) (fun n3 => ?_))
    · refine ⟨e3.symm, _, _, _, _, _, _, _, _, _, _, _, _, _, _, _, _, _, _, _, _, _, _, _, _, _, _, _, _, _, _, _, _, _, _, _, _, _, _, _, rfl, rfl, ⟨h8, h32, hcp⟩, hPr, hST', hRF', hsg, ⟨rk', rv', rfl, e3.symm, (if_pos e3).symm, (if_pos e3).symm⟩, hDX⟩
    · refine ⟨rfl, _, _, _, _, _, _, _, _, _, _, _, _, _, _, _, _, _, _, _, _, _, _, _, _, _, _, _, _, _, _, _, _, _, _, _, _, _, _, _, rfl, rfl, ⟨h8, h32, hcp⟩, hPr, hST', hRF', hsg, ⟨rk', rv', rfl, rfl, (if_neg n3).symm, (if_neg n3).symm⟩, hDX⟩
theorem i_vc_lastOutcome {k : Nat} {u : SX} {v : SY} (I : i_Rel k u v) (hk : k + 5 ≤ 2561) : wpX_lastOutcome (fun r => wpY_lastOutcome (fun r' => r' = r ∧ i_Rel (k + 5) u v) v) u := by
  have I2 := I
  obtain ⟨p, c, scr, la, K, A, B, C, dX, nX, sX, inn, dem, stg, rf, eo, xp, ans, st, sv, act, yp, fN, fP, fB, fK, fV, sp, rk, rv, lo, le, lv, tk, tv, dk, dv, nk, nv, rfl, rfl, hI⟩ := I
  obtain ⟨a, b, rfl, rfl, e2, e3⟩ := hI.2.2.2.2.2.1
  unfold wpX_lastOutcome wpY_lastOutcome
  exact xo_kindOf ⟨rfl, I2⟩
theorem i_vc_lastException {k : Nat} {u : SX} {v : SY} (I : i_Rel k u v) (hk : k + 5 ≤ 2561) : wpX_lastException (fun r => wpY_lastException (fun r' => r' = r ∧ i_Rel (k + 5) u v) v) u := by
  have I2 := I
  obtain ⟨p, c, scr, la, K, A, B, C, dX, nX, sX, inn, dem, stg, rf, eo, xp, ans, st, sv, act, yp, fN, fP, fB, fK, fV, sp, rk, rv, lo, le, lv, tk, tv, dk, dv, nk, nv, rfl, rfl, hI⟩ := I
  obtain ⟨a, b, rfl, rfl, e2, e3⟩ := hI.2.2.2.2.2.1
  unfold wpX_lastException wpY_lastException
  exact xo_exceptionOf ⟨e2, I2⟩
theorem i_vc_lastValue {k : Nat} {u : SX} {v : SY} (I : i_Rel k u v) (hk : k + 5 ≤ 2561) : wpX_lastValue (fun r => wpY_lastValue (fun r' => r' = r ∧ i_Rel (k + 5) u v) v) u := by
  have I2 := I
  obtain ⟨p, c, scr, la, K, A, B, C, dX, nX, sX, inn, dem, stg, rf, eo, xp, ans, st, sv, act, yp, fN, fP, fB, fK, fV, sp, rk, rv, lo, le, lv, tk, tv, dk, dv, nk, nv, rfl, rfl, hI⟩ := I
  obtain ⟨a, b, rfl, rfl, e2, e3⟩ := hI.2.2.2.2.2.1
  unfold wpX_lastValue wpY_lastValue
  exact xo_valueOf ⟨e3, I2⟩
theorem i_vc_resetThunks {k : Nat} {u : SX} {v : SY} (I : i_Rel k u v) (hk : k + 5 ≤ 2561) : wpX_resetThunks (fun u' => wpY_resetThunks (fun v' => i_Rel (k + 5) u' v') v) u := by
  obtain ⟨p, c, scr, la, K, A, B, C, dX, nX, sX, inn, dem, stg, rf, eo, xp, ans, st, sv, act, yp, fN, fP, fB, fK, fV, sp, rk, rv, lo, le, lv, tk, tv, dk, dv, nk, nv, rfl, rfl, hI⟩ := I
  obtain ⟨⟨h8, h32, hcp⟩, hPr, hST, hRF, hSG, hLA, hDX⟩ := hI
  refine xl_reset (by omega) (yl_reset (by omega) hPr (fun st' sv' h2 h3 => ?_))
  exact ⟨_, _, _, _, _, _, _, _, _, _, _, _, _, _, _, _, _, _, _, _, _, _, _, _, _, _, _, _, _, _, _, _, _, _, _, _, _, _, _, rfl, rfl, ⟨h8, h32, hcp⟩, hPr, im_ST_reset hST (fun i hi => im_fl_lt hi) h2 h3, hRF, hSG, hLA, hDX⟩
theorem i_vc_nodeCount {k : Nat} {u : SX} {v : SY} (I : i_Rel k u v) (hk : k + 5 ≤ 2561) : wpX_nodeCount (fun r => wpY_nodeCount (fun r' => r' = r ∧ i_Rel (k + 5) u v) v) u := by
  have I2 := I
  obtain ⟨p, c, scr, la, K, A, B, C, dX, nX, sX, inn, dem, stg, rf, eo, xp, ans, st, sv, act, yp, fN, fP, fB, fK, fV, sp, rk, rv, lo, le, lv, tk, tv, dk, dv, nk, nv, rfl, rfl, hI⟩ := I
  exact ⟨rfl, I2⟩
theorem i_vc_capacity {k : Nat} {u : SX} {v : SY} (I : i_Rel k u v) (hk : k + 5 ≤ 2561) : wpX_capacity (fun r => wpY_capacity (fun r' => r' = r ∧ i_Rel (k + 5) u v) v) u := by
  have I2 := I
  obtain ⟨p, c, scr, la, K, A, B, C, dX, nX, sX, inn, dem, stg, rf, eo, xp, ans, st, sv, act, yp, fN, fP, fB, fK, fV, sp, rk, rv, lo, le, lv, tk, tv, dk, dv, nk, nv, rfl, rfl, hI⟩ := I
  exact ⟨rfl, I2⟩
theorem i_vc_nodeKind {k : Nat} {u : SX} {v : SY} (I : i_Rel k u v) (hk : k + 5 ≤ 2561) (v1 : Int32) : wpX_nodeKind (fun r => wpY_nodeKind (fun r' => r' = r ∧ i_Rel (k + 5) u v) v v1) u v1 := by
  have I2 := I
  obtain ⟨p, c, scr, la, K, A, B, C, dX, nX, sX, inn, dem, stg, rf, eo, xp, ans, st, sv, act, yp, fN, fP, fB, fK, fV, sp, rk, rv, lo, le, lv, tk, tv, dk, dv, nk, nv, rfl, rfl, hI⟩ := I
  have hc : c ≤ 32 := by have := hI.1; omega
  unfold wpX_nodeKind wpY_nodeKind
  rcases pk_ix v1 (show c < 2 ^ 31 by omega) with z | z | ⟨j, hj, rfl⟩
  · exact xo_isNode_f hc (Or.inl z) (br_t rfl (yq_out (Or.inl z) ⟨rfl, I2⟩))
  · exact xo_isNode_f hc (Or.inr z) (br_t rfl (yq_out (Or.inr z) ⟨rfl, I2⟩))
  · have vj : vp_in (nI j) 32 := vp_in_nI (by omega) (by decide)
    exact xo_isNode_t hc hj (br_f (by decide) ⟨vj, yq_in hc hj ⟨vj, rfl, I2⟩⟩)
theorem i_vc_nodeState {k : Nat} {u : SX} {v : SY} (I : i_Rel k u v) (hk : k + 5 ≤ 2561) (v1 : Int32) : wpX_nodeState (fun r => wpY_nodeState (fun r' => r' = r ∧ i_Rel (k + 5) u v) v v1) u v1 := by
  have I2 := I
  obtain ⟨p, c, scr, la, K, A, B, C, dX, nX, sX, inn, dem, stg, rf, eo, xp, ans, st, sv, act, yp, fN, fP, fB, fK, fV, sp, rk, rv, lo, le, lv, tk, tv, dk, dv, nk, nv, rfl, rfl, hI⟩ := I
  have hc : c ≤ 32 := by have := hI.1; omega
  unfold wpX_nodeState wpY_nodeState
  rcases pk_ix v1 (show c < 2 ^ 31 by omega) with z | z | ⟨j, hj, rfl⟩
  · exact xo_isNode_f hc (Or.inl z) (br_t rfl (yq_out (Or.inl z) ⟨rfl, I2⟩))
  · exact xo_isNode_f hc (Or.inr z) (br_t rfl (yq_out (Or.inr z) ⟨rfl, I2⟩))
  · have vj : vp_in (nI j) 32 := vp_in_nI (by omega) (by decide)
    have cl : (nI j).toNatClampNeg = j := nI_clamp (by omega)
    refine xo_isNode_t hc hj (br_f (by decide) ⟨vj, ?_⟩)
    dsimp only
    rw [cl, (hI.2.2.1 j hj).1]
    exact xo_kindOf (yq_in hc hj ⟨vj, rfl, I2⟩)
theorem i_vc_nodeValue {k : Nat} {u : SX} {v : SY} (I : i_Rel k u v) (hk : k + 5 ≤ 2561) (v1 : Int32) : wpX_nodeValue (fun r => wpY_nodeValue (fun r' => r' = r ∧ i_Rel (k + 5) u v) v v1) u v1 := by
  have I2 := I
  obtain ⟨p, c, scr, la, K, A, B, C, dX, nX, sX, inn, dem, stg, rf, eo, xp, ans, st, sv, act, yp, fN, fP, fB, fK, fV, sp, rk, rv, lo, le, lv, tk, tv, dk, dv, nk, nv, rfl, rfl, hI⟩ := I
  have hc : c ≤ 32 := by have := hI.1; omega
  unfold wpX_nodeValue wpY_nodeValue
  rcases pk_ix v1 (show c < 2 ^ 31 by omega) with z | z | ⟨j, hj, rfl⟩
  · exact xo_isNode_f hc (Or.inl z) (br_t rfl (yq_out (Or.inl z) ⟨rfl, I2⟩))
  · exact xo_isNode_f hc (Or.inr z) (br_t rfl (yq_out (Or.inr z) ⟨rfl, I2⟩))
  · have vj : vp_in (nI j) 32 := vp_in_nI (by omega) (by decide)
    have cl : (nI j).toNatClampNeg = j := nI_clamp (by omega)
    refine xo_isNode_t hc hj (br_f (by decide) ⟨vj, ?_⟩)
    dsimp only
    rw [cl, (hI.2.2.1 j hj).1]
    refine xo_valueOf (yq_in hc hj ⟨vj, ?_⟩)
    rcases (hI.2.2.1 j hj).2.1 with ⟨e3, _⟩ | hv
    · rw [if_pos e3]
      exact br_f (by rw [e3]; decide) ⟨vj, br_f (by rw [e3]; decide) ⟨rfl, I2⟩⟩
    · rw [if_neg (im_wf_ne hv)]
      rcases hv with e | ⟨e, _⟩
      · exact br_t e ⟨vj, rfl, I2⟩
      · have e : st j = 2 := e
        exact br_f (by rw [e]; decide) ⟨vj, br_t e ⟨vj, rfl, I2⟩⟩
theorem i_vc_denKind {k : Nat} {u : SX} {v : SY} (I : i_Rel k u v) (hk : k + 5 ≤ 2561) (v1 : Int32) : wpX_denKind (fun r => wpY_denKind (fun r' v' => r' = r ∧ i_Rel (k + 5) u v') v v1) u v1 := by
  have I2 := I
  obtain ⟨p, c, scr, la, K, A, B, C, dX, nX, sX, inn, dem, stg, rf, eo, xp, ans, st, sv, act, yp, fN, fP, fB, fK, fV, sp, rk, rv, lo, le, lv, tk, tv, dk, dv, nk, nv, rfl, rfl, hI⟩ := I
  have hc : c ≤ 32 := by have := hI.1; omega
  unfold wpX_denKind wpY_denKind
  rcases pk_ix v1 (show c < 2 ^ 31 by omega) with z | z | ⟨j, hj, rfl⟩
  · exact xo_isNode_f hc (Or.inl z) (br_t rfl (yq_out (Or.inl z) ⟨rfl, I2⟩))
  · exact xo_isNode_f hc (Or.inr z) (br_t rfl (yq_out (Or.inr z) ⟨rfl, I2⟩))
  · have vj : vp_in (nI j) 32 := vp_in_nI (by omega) (by decide)
    have cl : (nI j).toNatClampNeg = j := nI_clamp (by omega)
    refine xo_isNode_t hc hj (br_f (by decide) ⟨vj, ?_⟩)
    dsimp only
    rw [cl, hI.2.2.2.2.2.2 j hj]
    refine xo_kindOf (yq_in hc hj (yl_den hc hI.2.1 (fun dk' dv' nk' nv' tk' tv' hd => ⟨vj, ?_⟩)))
    have ek : (im_it c K A B C 1024 j).1 = dk' j := by rw [hd j hj]
    have ev : (im_it c K A B C 1024 j).2 = dv' j := by rw [hd j hj]
    rw [ek]
    exact ⟨rfl, _, _, _, _, _, _, _, _, _, _, _, _, _, _, _, _, _, _, _, _, _, _, _, _, _, _, _, _, _, _, _, _, _, _, _, _, _, _, _, rfl, rfl, hI⟩
theorem i_vc_denSet {k : Nat} {u : SX} {v : SY} (I : i_Rel k u v) (hk : k + 5 ≤ 2561) (v1 : Int32) : wpX_denSet (fun r => wpY_denSet (fun r' v' => r' = r ∧ i_Rel (k + 5) u v') v v1) u v1 := by
  have I2 := I
  obtain ⟨p, c, scr, la, K, A, B, C, dX, nX, sX, inn, dem, stg, rf, eo, xp, ans, st, sv, act, yp, fN, fP, fB, fK, fV, sp, rk, rv, lo, le, lv, tk, tv, dk, dv, nk, nv, rfl, rfl, hI⟩ := I
  have hc : c ≤ 32 := by have := hI.1; omega
  unfold wpX_denSet wpY_denSet
  rcases pk_ix v1 (show c < 2 ^ 31 by omega) with z | z | ⟨j, hj, rfl⟩
  · exact xo_isNode_f hc (Or.inl z) (br_t rfl (yq_out (Or.inl z) ⟨rfl, I2⟩))
  · exact xo_isNode_f hc (Or.inr z) (br_t rfl (yq_out (Or.inr z) ⟨rfl, I2⟩))
  · have vj : vp_in (nI j) 32 := vp_in_nI (by omega) (by decide)
    have cl : (nI j).toNatClampNeg = j := nI_clamp (by omega)
    refine xo_isNode_t hc hj (br_f (by decide) ⟨vj, ?_⟩)
    dsimp only
    rw [cl, hI.2.2.2.2.2.2 j hj]
    refine xo_exceptionOf (yq_in hc hj (yl_den hc hI.2.1 (fun dk' dv' nk' nv' tk' tv' hd => ⟨vj, ?_⟩)))
    have ek : (im_it c K A B C 1024 j).1 = dk' j := by rw [hd j hj]
    have ev : (im_it c K A B C 1024 j).2 = dv' j := by rw [hd j hj]
    rw [ek, ev]
    refine br_c (fun e => ?_) (fun e => ?_)
    · rw [if_pos e]
      exact ⟨vj, rfl, _, _, _, _, _, _, _, _, _, _, _, _, _, _, _, _, _, _, _, _, _, _, _, _, _, _, _, _, _, _, _, _, _, _, _, _, _, _, _, rfl, rfl, hI⟩
    · rw [if_neg e]
      exact ⟨rfl, _, _, _, _, _, _, _, _, _, _, _, _, _, _, _, _, _, _, _, _, _, _, _, _, _, _, _, _, _, _, _, _, _, _, _, _, _, _, _, rfl, rfl, hI⟩
theorem i_vc_denValue {k : Nat} {u : SX} {v : SY} (I : i_Rel k u v) (hk : k + 5 ≤ 2561) (v1 : Int32) : wpX_denValue (fun r => wpY_denValue (fun r' v' => r' = r ∧ i_Rel (k + 5) u v') v v1) u v1 := by
  have I2 := I
  obtain ⟨p, c, scr, la, K, A, B, C, dX, nX, sX, inn, dem, stg, rf, eo, xp, ans, st, sv, act, yp, fN, fP, fB, fK, fV, sp, rk, rv, lo, le, lv, tk, tv, dk, dv, nk, nv, rfl, rfl, hI⟩ := I
  have hc : c ≤ 32 := by have := hI.1; omega
  unfold wpX_denValue wpY_denValue
  rcases pk_ix v1 (show c < 2 ^ 31 by omega) with z | z | ⟨j, hj, rfl⟩
  · exact xo_isNode_f hc (Or.inl z) (br_t rfl (yq_out (Or.inl z) ⟨rfl, I2⟩))
  · exact xo_isNode_f hc (Or.inr z) (br_t rfl (yq_out (Or.inr z) ⟨rfl, I2⟩))
  · have vj : vp_in (nI j) 32 := vp_in_nI (by omega) (by decide)
    have cl : (nI j).toNatClampNeg = j := nI_clamp (by omega)
    refine xo_isNode_t hc hj (br_f (by decide) ⟨vj, ?_⟩)
    dsimp only
    rw [cl, hI.2.2.2.2.2.2 j hj]
    refine xo_valueOf (yq_in hc hj (yl_den hc hI.2.1 (fun dk' dv' nk' nv' tk' tv' hd => ⟨vj, ?_⟩)))
    have ek : (im_it c K A B C 1024 j).1 = dk' j := by rw [hd j hj]
    have ev : (im_it c K A B C 1024 j).2 = dv' j := by rw [hd j hj]
    rw [ek, ev]
    refine br_c (fun e => ?_) (fun e => ?_)
    · rw [if_pos e]
      exact ⟨rfl, _, _, _, _, _, _, _, _, _, _, _, _, _, _, _, _, _, _, _, _, _, _, _, _, _, _, _, _, _, _, _, _, _, _, _, _, _, _, _, rfl, rfl, hI⟩
    · rw [if_neg e]
      exact ⟨vj, rfl, _, _, _, _, _, _, _, _, _, _, _, _, _, _, _, _, _, _, _, _, _, _, _, _, _, _, _, _, _, _, _, _, _, _, _, _, _, _, _, rfl, rfl, hI⟩
