/-! a run to its end, against the denotation -/
def im_LX (post : St2 → Prop) (n : Nat) (i : Int32) (u : St2) : Prop := match u with
  | (cap, cn, scr, la, inn, xp, ans, K, A, B, C, sX, dX, nX, dem, stg, rf, eo) => wX_evaluate_17 post n i cap cn scr la inn xp ans K A B C sX dX nX dem stg rf eo
def im_KX (post : St2 → Prop) (n : Nat) (i : Int32) : St2 → Prop := fun u => match u with
  | (cap, cn, scr, la, inn, xp, ans, K, A, B, C, sX, dX, nX, dem, stg, rf, eo) => ∀ x : Int32, x = i + 1 → wX_evaluate_17 post n x cap cn scr la inn xp ans K A B C sX dX nX dem stg rf eo
theorem im_KX_of {post : St2 → Prop} {n i : Nat} : ∀ {u : St2}, im_LX post n (nI (i + 1)) u → im_KX post n (nI i) u
  | (cap, cn, scr, la, inn, xp, ans, K, A, B, C, sX, dX, nX, dem, stg, rf, eo), h => fun x ex => by rw [ex, nI_1]; exact h
theorem im_LX_ex {post : St2 → Prop} {n : Nat} : ∀ {u : St2}, im_LX post n (nI 0) u → (match u with | (cap, cn, scr, la, inn, xp, ans, K, A, B, C, sX, dX, nX, dem, stg, rf, eo) => ∃ n17 : Nat, wX_evaluate_17 post n17 0 cap cn scr la inn xp ans K A B C sX dX nX dem stg rf eo)
  | (cap, cn, scr, la, inn, xp, ans, K, A, B, C, sX, dX, nX, dem, stg, rf, eo), h => ⟨n, h⟩
def px_CE (cap : Int32) (c : Nat) (scr la : Int64) (K A B C : Nat → Int32) (dX nX : Nat → Int64) (root : Int32) (u : St2) : Prop :=
  ∃ (sX : Nat → Int64) (inn : Int32) (dem stg rf : Nat → Int32) (eo : Nat → Int64) (xp : Int32) (ans : Int64) (st sv : Nat → Int32) (rk rv : Int32), u = (cap, nI c, scr, la, inn, xp, ans, K, A, B, C, sX, dX, nX, dem, stg, rf, eo) ∧
    im_ST c K A sX st sv ∧ im_RF c K rf ∧ (∀ i, c ≤ i → i < 32 → stg i = 0) ∧ px_SM c K A B C st sv ∧ ans = im_P rk rv ∧
    ((rk = 3 ∧ im_cd rv (im_g c (im_D c K A B C) root)) ∨ (im_vl c K (rk, rv) ∧ im_g c (im_D c K A B C) root = (rk, rv)))
section
variable {cap : Int32} {c : Nat} {scr la : Int64} {K A B C : Nat → Int32} {dX nX : Nat → Int64} {sX : Nat → Int64} {inn : Int32} {dem stg rf : Nat → Int32} {eo : Nat → Int64} {xp : Int32} {ans : Int64} {st sv : Nat → Int32} {root rk rv : Int32}
theorem xr_exit3 {post : St2 → Prop} (hc : c ≤ 32) {n : Nat} {x v : Int32} (h : post (cap, nI c, scr, la, inn, xp, im_P 3 v, K, A, B, C, sX, dX, nX, dem, stg, rf, eo)) : wX_evaluate_17 post (n + 1) x cap (nI c) scr la inn xp (im_P 3 v) K A B C sX dX nX dem stg rf eo := by
  rw [wX_evaluate_17]
  refine br_c (fun _ => h) (fun _ => ?_)
  rcases pk_ix inn (show c < 2 ^ 31 by omega) with z | z | ⟨j, hj, rfl⟩
  · exact xo_isNode_f hc (Or.inl z) (br_t rfl h)
  · exact xo_isNode_f hc (Or.inr z) (br_t rfl h)
  · exact xo_isNode_t hc hj (br_f (by decide) (xo_kindOf (br_t rfl h)))
theorem xr_exit0 {post : St2 → Prop} (hc : c ≤ 32) {n : Nat} {x : Int32} (h : post (cap, nI c, scr, la, -1, xp, ans, K, A, B, C, sX, dX, nX, dem, stg, rf, eo)) : wX_evaluate_17 post (n + 1) x cap (nI c) scr la (-1) xp ans K A B C sX dX nX dem stg rf eo := by
  rw [wX_evaluate_17]
  exact br_c (fun _ => h) (fun _ => xo_isNode_f hc (Or.inl (by decide)) (br_t rfl h))
theorem xr_step {post : St2 → Prop} (hc : c ≤ 32) {n i j : Nat} (hi : i < 1024) (hj : j < c) (h3 : rk ≠ 3) (h : im_XB (stg j) (im_KX post n (nI i)) (cap, nI c, scr, la, nI j, xp, im_P rk rv, K, A, B, C, sX, dX, nX, dem, stg, rf, eo) j) : wX_evaluate_17 post (n + 1) (nI i) cap (nI c) scr la (nI j) xp (im_P rk rv) K A B C sX dX nX dem stg rf eo := by
  have cl : (nI j).toNatClampNeg = j := nI_clamp (by omega)
  have vj : vp_in (nI j) 32 := vp_in_nI (by omega) (by decide)
  rw [wX_evaluate_17]
  refine br_f (nI_ge (b := 1024) hi (by decide)) (xo_isNode_t hc hj (br_f (by decide) (xo_kindOf (br_f h3 ⟨vj, ?_⟩))))
  rw [cl]
  rcases h with ⟨q, h⟩ | ⟨q, h⟩ | ⟨q, h⟩
  · exact br_t q h
  · exact br_f (by rw [q]; decide) ⟨vj, br_t q h⟩
  · exact br_f (by rw [q]; decide) ⟨vj, br_f (by rw [q]; decide) h⟩
theorem px_any {t : Nat} {g : Nat → Nat} {ro : Nat → Int32} {m : Nat} (hc : c ≤ 32) (hp : im_Pr c K A B C) (hST : im_ST c K A sX st sv) (hRF : im_RF c K rf) (hSG : ∀ i, c ≤ i → i < 32 → stg i = 0) (hSM : px_SM c K A B C st sv) (hm : im_mu c st stg ≤ m)
    (hFL : px_FL c K st stg dem inn (t + 1) g) (hSC : px_SC c K A B C stg rf eo root (t + 1) g ro) (hans : ans = im_P rk rv) (hv : stg (g t) ≠ 1 → im_vl c K (rk, rv) ∧ im_g c (im_D c K A B C) (ro t) = (rk, rv)) :
    0 < m ∧ ∃ u, px_CF cap c scr la K A B C dX nX root (m - 1) u ∧ (∀ post : St2 → Prop, post u → im_XB (stg (g t)) post (cap, nI c, scr, la, inn, xp, ans, K, A, B, C, sX, dX, nX, dem, stg, rf, eo) (g t)) := by
  rcases (hFL.1 t (by omega)).2.2 with q | q | q
  · exact px_st1 hc hp hST hRF hSG hSM hm hFL hSC q
  · have h := hv (by rw [q]; decide)
    exact px_st2 hc hp hST hRF hSG hSM hm hFL hSC q hans h.1 h.2
  · have h := hv (by rw [q]; decide)
    exact px_st3 hc hp hST hRF hSG hSM hm hFL hSC q hans h.1 h.2
theorem px_run (hc : c ≤ 32) (hp : im_Pr c K A B C) : ∀ (m : Nat) (u : St2), px_CF cap c scr la K A B C dX nX root m u →
    ∃ u', px_CE cap c scr la K A B C dX nX root u' ∧ (∀ (post : St2 → Prop) (n i : Nat), m < n → i + m ≤ 1024 → post u' → im_LX post n (nI i) u) := by
  intro m
  induction m with
  | zero =>
    rintro u ⟨sX, inn, dem, stg, rf, eo, xp, ans, st, sv, rk, rv, rfl, hST, hRF, hSG, hSM, hans, hE⟩
    subst hans
    rcases hE with ⟨rfl, hcd⟩ | ⟨h3, hm, s, g, ro, hFL, hSC, hE⟩
    · refine ⟨(cap, nI c, scr, la, inn, xp, im_P 3 rv, K, A, B, C, sX, dX, nX, dem, stg, rf, eo), ⟨_, _, _, _, _, _, _, _, _, _, _, _, rfl, hST, hRF, hSG, hSM, rfl, Or.inl ⟨rfl, hcd⟩⟩, fun post n i hn _ h => ?_⟩
      obtain ⟨n, rfl⟩ : ∃ k, n = k + 1 := ⟨n - 1, by omega⟩
      exact xr_exit3 hc h
    · cases s with
      | zero =>
        have hv := hE.resolve_left (fun z => absurd z.1 (Nat.lt_irrefl 0))
        obtain ⟨hvl, _, r, hr, hg⟩ := hv
        have hi : inn = -1 := hFL.2.2.2.1
        subst hi
        refine ⟨(cap, nI c, scr, la, -1, xp, im_P rk rv, K, A, B, C, sX, dX, nX, dem, stg, rf, eo), ⟨_, _, _, _, _, _, _, _, _, _, _, _, rfl, hST, hRF, hSG, hSM, rfl, Or.inr ⟨hvl, by rw [hr.1 rfl]; exact hg⟩⟩, fun post n i hn _ h => ?_⟩
        obtain ⟨n, rfl⟩ : ∃ k, n = k + 1 := ⟨n - 1, by omega⟩
        exact xr_exit0 hc h
      | succ t =>
        have hF := hFL.1 t (by omega)
        have := im_mu_pos (stg := stg) hF.1 hF.2.1.1
        omega
  | succ m ih =>
    rintro u ⟨sX, inn, dem, stg, rf, eo, xp, ans, st, sv, rk, rv, rfl, hST, hRF, hSG, hSM, hans, hE⟩
    rcases hE with ⟨rfl, hcd⟩ | ⟨h3, hm, s, g, ro, hFL, hSC, hE⟩
    · subst hans
      refine ⟨(cap, nI c, scr, la, inn, xp, im_P 3 rv, K, A, B, C, sX, dX, nX, dem, stg, rf, eo), ⟨_, _, _, _, _, _, _, _, _, _, _, _, rfl, hST, hRF, hSG, hSM, rfl, Or.inl ⟨rfl, hcd⟩⟩, fun post n i hn _ h => ?_⟩
      obtain ⟨n, rfl⟩ : ∃ k, n = k + 1 := ⟨n - 1, by omega⟩
      exact xr_exit3 hc h
    · cases s with
      | zero =>
        subst hans
        have hv := hE.resolve_left (fun z => absurd z.1 (Nat.lt_irrefl 0))
        obtain ⟨hvl, _, r, hr, hg⟩ := hv
        have hi : inn = -1 := hFL.2.2.2.1
        subst hi
        refine ⟨(cap, nI c, scr, la, -1, xp, im_P rk rv, K, A, B, C, sX, dX, nX, dem, stg, rf, eo), ⟨_, _, _, _, _, _, _, _, _, _, _, _, rfl, hST, hRF, hSG, hSM, rfl, Or.inr ⟨hvl, by rw [hr.1 rfl]; exact hg⟩⟩, fun post n i hn _ h => ?_⟩
        obtain ⟨n, rfl⟩ : ∃ k, n = k + 1 := ⟨n - 1, by omega⟩
        exact xr_exit0 hc h
      | succ t =>
        have hF := hFL.1 t (by omega)
        have hinn : inn = nI (g t) := hFL.2.2.2.1
        have hv : stg (g t) ≠ 1 → im_vl c K (rk, rv) ∧ im_g c (im_D c K A B C) (ro t) = (rk, rv) := fun z => by
          rcases hE with w | ⟨hvl, _, r, hr, hg⟩
          · exact absurd w.2 z
          · have e : ro t = r := hr.2 (by omega)
            exact ⟨hvl, by rw [e]; exact hg⟩
        obtain ⟨_, u1, hC, hX⟩ := px_any (cap := cap) (scr := scr) (la := la) (dX := dX) (nX := nX) (xp := xp) (m := m + 1) hc hp hST hRF hSG hSM hm hFL hSC hans hv
        obtain ⟨u2, hCE, hX2⟩ := ih u1 hC
        refine ⟨u2, hCE, fun post n i hn hi h => ?_⟩
        obtain ⟨n, rfl⟩ : ∃ k, n = k + 1 := ⟨n - 1, by omega⟩
        have q := hX (im_KX post n (nI i)) (im_KX_of (hX2 post n (i + 1) (by omega) (by omega) h))
        subst hans
        subst hinn
        exact xr_step hc (by omega) hF.1 h3 q
end
