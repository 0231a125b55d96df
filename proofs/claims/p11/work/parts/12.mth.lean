/-! the object between calls, and the calls that the law makes -/
def px_S (p c : Nat) (D : Nat → Int32 × Int32) (st sv : Nat → Int32) (lk lw : Int32) (u : St2) : Prop :=
  ∃ (scr : Int64) (K A B C : Nat → Int32) (dX nX sX : Nat → Int64) (inn : Int32) (dem stg rf : Nat → Int32) (eo : Nat → Int64) (xp : Int32) (ans : Int64),
    u = (nI p, nI c, scr, im_P lk lw, inn, xp, ans, K, A, B, C, sX, dX, nX, dem, stg, rf, eo) ∧ (8 ≤ p ∧ p ≤ 32 ∧ c ≤ p) ∧ im_Pr c K A B C ∧ im_ST c K A sX st sv ∧ im_RF c K rf ∧ (∀ i, i < 32 → stg i = 0) ∧ D = im_D c K A B C ∧ im_DX c K A B C dX ∧ px_SM c K A B C st sv
theorem px_ik {c : Nat} {K A B C : Nat → Int32} (hc : c ≤ 32) (hp : im_Pr c K A B C) {i : Nat} (hi : i < c) (h : (im_ik (K i) (A i) i).1 ≠ 3) : im_D c K A B C i = ((im_ik (K i) (A i) i).1, (im_ik (K i) (A i) i).2) := by
  rw [im_D_fix hc hp hi]
  unfold im_dq
  unfold im_ik at h ⊢
  by_cases k0 : K i = 0
  · rw [if_pos k0, if_pos k0]
  rw [if_neg k0] at h ⊢
  rw [if_neg k0]
  by_cases k9 : K i = 9
  · rw [if_pos k9, if_pos k9]
  rw [if_neg k9] at h
  exact absurd rfl h
section
variable {p c : Nat} {D : Nat → Int32 × Int32} {st sv : Nat → Int32} {lk lw : Int32} {u : St2}
theorem pm_b (h : px_S p c D st sv lk lw u) : 8 ≤ p ∧ p ≤ 32 ∧ c ≤ p := by
  obtain ⟨scr, K, A, B, C, dX, nX, sX, inn, dem, stg, rf, eo, xp, ans, rfl, hb, _⟩ := h
  exact hb
theorem pm_SM (h : px_S p c D st sv lk lw u) {j : Nat} (hj : j < c) (h3 : st j ≠ 3) : D j = (st j, sv j) := by
  obtain ⟨scr, K, A, B, C, dX, nX, sX, inn, dem, stg, rf, eo, xp, ans, rfl, hb, hPr, hST, hRF, hSG, hD, hDX, hSM⟩ := h
  rw [hD]; exact hSM j hj h3
theorem pm_count {post : Int32 → Prop} (h : px_S p c D st sv lk lw u) (hq : post (nI c)) : wpX_nodeCount post u := by
  obtain ⟨scr, K, A, B, C, dX, nX, sX, inn, dem, stg, rf, eo, xp, ans, rfl, hb, hPr, hST, hRF, hSG, hD, hDX, hSM⟩ := h
  exact hq
theorem pm_cap {post : Int32 → Prop} (h : px_S p c D st sv lk lw u) (hq : post (nI p)) : wpX_capacity post u := by
  obtain ⟨scr, K, A, B, C, dX, nX, sX, inn, dem, stg, rf, eo, xp, ans, rfl, hb, hPr, hST, hRF, hSG, hD, hDX, hSM⟩ := h
  exact hq
theorem pm_state {post : Int32 → Prop} (h : px_S p c D st sv lk lw u) {j : Nat} (hj : j < c) (hq : post (st j)) : wpX_nodeState post u (nI j) := by
  obtain ⟨scr, K, A, B, C, dX, nX, sX, inn, dem, stg, rf, eo, xp, ans, rfl, ⟨h8, h32, hcp⟩, hPr, hST, hRF, hSG, hD, hDX, hSM⟩ := h
  have vj : vp_in (nI j) 32 := vp_in_nI (by omega) (by decide)
  have cl : (nI j).toNatClampNeg = j := nI_clamp (by omega)
  unfold wpX_nodeState
  refine xo_isNode_t (by omega) hj (br_f (by decide) ⟨vj, ?_⟩)
  rw [cl, (hST j hj).1]
  exact xo_kindOf hq
theorem pm_value {post : Int32 → Prop} (h : px_S p c D st sv lk lw u) {j : Nat} (hj : j < c) (hq : post (if st j = 3 then 0 else sv j)) : wpX_nodeValue post u (nI j) := by
  obtain ⟨scr, K, A, B, C, dX, nX, sX, inn, dem, stg, rf, eo, xp, ans, rfl, ⟨h8, h32, hcp⟩, hPr, hST, hRF, hSG, hD, hDX, hSM⟩ := h
  have vj : vp_in (nI j) 32 := vp_in_nI (by omega) (by decide)
  have cl : (nI j).toNatClampNeg = j := nI_clamp (by omega)
  unfold wpX_nodeValue
  refine xo_isNode_t (by omega) hj (br_f (by decide) ⟨vj, ?_⟩)
  rw [cl, (hST j hj).1]
  exact xo_valueOf hq
theorem pm_dk {post : Int32 → Prop} (h : px_S p c D st sv lk lw u) {j : Nat} (hj : j < c) (hq : post (D j).1) : wpX_denKind post u (nI j) := by
  obtain ⟨scr, K, A, B, C, dX, nX, sX, inn, dem, stg, rf, eo, xp, ans, rfl, ⟨h8, h32, hcp⟩, hPr, hST, hRF, hSG, rfl, hDX, hSM⟩ := h
  have vj : vp_in (nI j) 32 := vp_in_nI (by omega) (by decide)
  have cl : (nI j).toNatClampNeg = j := nI_clamp (by omega)
  unfold wpX_denKind
  refine xo_isNode_t (by omega) hj (br_f (by decide) ⟨vj, ?_⟩)
  rw [cl, hDX j hj]
  exact xo_kindOf hq
theorem pm_dv {post : Int32 → Prop} (h : px_S p c D st sv lk lw u) {j : Nat} (hj : j < c) (hq : post (if (D j).1 = 3 then 0 else (D j).2)) : wpX_denValue post u (nI j) := by
  obtain ⟨scr, K, A, B, C, dX, nX, sX, inn, dem, stg, rf, eo, xp, ans, rfl, ⟨h8, h32, hcp⟩, hPr, hST, hRF, hSG, rfl, hDX, hSM⟩ := h
  have vj : vp_in (nI j) 32 := vp_in_nI (by omega) (by decide)
  have cl : (nI j).toNatClampNeg = j := nI_clamp (by omega)
  unfold wpX_denValue
  refine xo_isNode_t (by omega) hj (br_f (by decide) ⟨vj, ?_⟩)
  rw [cl, hDX j hj]
  exact xo_valueOf hq
theorem pm_ds {post : Int32 → Prop} (h : px_S p c D st sv lk lw u) {j : Nat} (hj : j < c) (hq : post (if (D j).1 = 3 then (D j).2 else 0)) : wpX_denSet post u (nI j) := by
  obtain ⟨scr, K, A, B, C, dX, nX, sX, inn, dem, stg, rf, eo, xp, ans, rfl, ⟨h8, h32, hcp⟩, hPr, hST, hRF, hSG, rfl, hDX, hSM⟩ := h
  have vj : vp_in (nI j) 32 := vp_in_nI (by omega) (by decide)
  have cl : (nI j).toNatClampNeg = j := nI_clamp (by omega)
  unfold wpX_denSet
  refine xo_isNode_t (by omega) hj (br_f (by decide) ⟨vj, ?_⟩)
  rw [cl, hDX j hj]
  exact xo_exceptionOf hq
theorem pm_lx {post : Int32 → Prop} (h : px_S p c D st sv lk lw u) (hq : post (if lk = 3 then lw else 0)) : wpX_lastException post u := by
  obtain ⟨scr, K, A, B, C, dX, nX, sX, inn, dem, stg, rf, eo, xp, ans, rfl, hb, hPr, hST, hRF, hSG, hD, hDX, hSM⟩ := h
  unfold wpX_lastException
  exact xo_exceptionOf hq
theorem pm_lv {post : Int32 → Prop} (h : px_S p c D st sv lk lw u) (hq : post (if lk = 3 then 0 else lw)) : wpX_lastValue post u := by
  obtain ⟨scr, K, A, B, C, dX, nX, sX, inn, dem, stg, rf, eo, xp, ans, rfl, hb, hPr, hST, hRF, hSG, hD, hDX, hSM⟩ := h
  unfold wpX_lastValue
  exact xo_valueOf hq
theorem pm_set {post : St2 → Prop} (h : px_S p c D st sv lk lw u) (x : Int64) (hq : ∀ u', px_S p c D st sv lk lw u' → post u') : wpX_setScript post u x := by
  obtain ⟨scr, K, A, B, C, dX, nX, sX, inn, dem, stg, rf, eo, xp, ans, rfl, h⟩ := h
  exact hq _ ⟨_, _, _, _, _, _, _, _, _, _, _, _, _, _, _, rfl, h⟩
theorem pm_reset {post : St2 → Prop} (h : px_S p c D st sv lk lw u) (hq : ∀ u' st' sv', px_S p c D st' sv' lk lw u' → post u') : wpX_resetThunks post u := by
  obtain ⟨scr, K, A, B, C, dX, nX, sX, inn, dem, stg, rf, eo, xp, ans, rfl, ⟨h8, h32, hcp⟩, hPr, hST, hRF, hSG, hD, hDX, hSM⟩ := h
  refine xl_reset (by omega) (hq _ (fun i => (im_ik (K i) (A i) i).1) (fun i => (im_ik (K i) (A i) i).2) ⟨_, _, _, _, _, _, _, _, _, _, _, _, _, _, _, rfl, ⟨h8, h32, hcp⟩, hPr, fun i hi => ⟨im_fl_lt hi, im_ik_st (K i) (A i) i c K hi rfl⟩, hRF, hSG, hD, hDX, fun i hi h3 => px_ik (by omega) hPr hi h3⟩)
theorem pm_out {post : Int32 → St2 → Prop} (h : px_S p c D st sv lk lw u) (hq : post 0 u) : wpX_run post u (nI c) := by
  have hb := pm_b h
  obtain ⟨scr, K, A, B, C, dX, nX, sX, inn, dem, stg, rf, eo, xp, ans, rfl, _⟩ := h
  unfold wpX_run
  exact xo_isNode_f (by omega) (Or.inr (Int32.le_refl _)) (br_t rfl hq)
theorem pm_run {post : Int32 → St2 → Prop} (h : px_S p c D st sv lk lw u) {j : Nat} (hj : j < c) (hq : ∀ rk rv u' st' sv', px_S p c D st' sv' rk rv u' → ((rk = 3 ∧ im_cd rv (D j)) ∨ ((rk = 1 ∨ rk = 2) ∧ D j = (rk, rv))) → post rk u') : wpX_run post u (nI j) := by
  obtain ⟨scr, K, A, B, C, dX, nX, sX, inn, dem, stg, rf, eo, xp, ans, rfl, ⟨h8, h32, hcp⟩, hPr, hST, hRF, hSG, rfl, hDX, hSM⟩ := h
  have hc : c ≤ 32 := by omega
  have hmu := im_mu_b c st stg
  have hFL0 : px_FL c K st stg dem (-1) 0 (fun _ => 0) := px_FL_0 hSG _
  have hSC0 : px_SC c K A B C stg rf eo (nI j) 0 (fun _ => 0) (fun _ => 0) := ⟨fun z => absurd z (Nat.lt_irrefl 0), fun t ht => absurd ht (Nat.not_lt_zero _), fun t ht => absurd ht (Nat.not_lt_zero _)⟩
  obtain ⟨u1, hC, hX⟩ := px_dem (cap := nI p) (scr := scr) (la := im_P lk lw) (dX := dX) (nX := nX) (xp := 0) (ans := ans) (m := 128) (r := nI j) hc hPr hST hRF (fun i _ hi => hSG i hi) hSM (by omega) hFL0 hSC0 (fun t ht => absurd ht (Nat.not_lt_zero _)) ⟨fun _ => rfl, fun z => absurd z (Nat.lt_irrefl 0)⟩
  obtain ⟨u2, hCE, hX2⟩ := px_run hc hPr 128 u1 hC
  obtain ⟨sX', inn', dem', stg', rf', eo', xp', ans', st', sv', rk', rv', rfl, hST', hRF', hSG', hSM', hans', hE'⟩ := hCE
  subst hans'
  have hsg : ∀ i, i < 32 → im_fl stg' (fun _ => (0 : Int32)) c i = 0 := by
    intro i hi
    by_cases z : i < c
    · exact im_fl_lt z
    · rw [im_fl_ge z]; exact hSG' i (by omega) hi
  rw [im_g_in hc _ hj] at hE'
  unfold wpX_run
  refine xo_isNode_t hc hj (br_f (by decide) ?_)
  unfold wpX_evaluate
  refine hX _ (im_LX_ex (hX2 _ 129 0 (by omega) (by omega) ?_))
  refine xl_leave hc (xo_kindOf ?_)
  refine hq rk' rv' _ st' sv' ⟨_, _, _, _, _, _, _, _, _, _, _, _, _, _, _, rfl, ⟨h8, h32, hcp⟩, hPr, hST', hRF', hsg, rfl, hDX, hSM'⟩ ?_
  rcases hE' with z | ⟨hv, e⟩
  · exact Or.inl z
  · exact Or.inr ⟨hv.imp id (fun w => w.1), e⟩
theorem pm_add {post : Int32 → St2 → Prop} (h : px_S p c D st sv lk lw u) (v1 v2 v3 v4 : Int32) (hq : ∀ r u' c' D' st' sv', px_S p c' D' st' sv' lk lw u' → post r u') : wpX_addNode post u v1 v2 v3 v4 := by
  have h0 := h
  obtain ⟨scr, K, A, B, C, dX, nX, sX, inn, dem, stg, rf, eo, xp, ans, rfl, ⟨h8, h32, hcp⟩, hPr, hST, hRF, hSG, hD, hDX, hSM⟩ := h
  unfold wpX_addNode
  refine xo_refuses h32 hcp (fun hn => br_f (by decide) (hq _ _ _ _ _ _ h0)) (fun ha => br_t rfl ?_)
  have hc : c < p := ha.1
  have cl : (nI c).toNatClampNeg = c := nI_clamp (by omega)
  have vc : vp_in (nI c) 32 := vp_in_nI (by omega) (by decide)
  have hPr2 := im_Pr_add hPr (im_acc_ok ha)
  rw [cl, nI_1]
  refine ⟨vc, nm_e ⟨vc, nm_e ⟨vc, nm_e ⟨vc, nm_e (xo_init (by omega) ⟨vc, nm_e (nm_e (xl_solve (c := c + 1) (by omega) hPr2 (fun dX' nX' hD' => ?_)))⟩)⟩⟩⟩⟩
  have e : im_is (upd K c v1) (upd A c v2) c = im_P (im_ik v1 v2 c).1 (im_ik v1 v2 c).2 := by
    unfold im_is
    rw [pk_us, pk_us]
  refine hq _ _ (c + 1) _ (upd st c (im_ik v1 v2 c).1) (upd sv c (im_ik v1 v2 c).2) ⟨_, _, _, _, _, _, _, _, _, _, _, _, _, _, _, rfl, ⟨h8, h32, by omega⟩, hPr2, ?_, im_RF_add hRF v1, hSG, rfl, hD', fun i hi h3 => ?_⟩
  · rw [e]
    exact im_ST_add hST v1 v2
  · by_cases ei : i = c
    · subst ei
      rw [pk_us] at h3
      rw [pk_us, pk_us]
      have q := px_ik (c := i + 1) (K := upd K i v1) (A := upd A i v2) (B := upd B i v3) (C := upd C i v4) (by omega) hPr2 (i := i) (by omega)
      rw [pk_us, pk_us] at q
      exact q h3
    · rw [pk_un ei] at h3
      rw [pk_un ei, pk_un ei, ← hSM i (by omega) h3]
      have hv : (im_it c K A B C 1024 i).1 ≠ 3 := by
        have w := hSM i (by omega) h3
        have w2 : im_it c K A B C 1024 i = (st i, sv i) := w
        rw [w2]; exact h3
      exact im_ext (by omega) hPr (fun j hj => ⟨pk_un (by omega), pk_un (by omega), pk_un (by omega), pk_un (by omega)⟩) 1024 i (by omega) hv
end
