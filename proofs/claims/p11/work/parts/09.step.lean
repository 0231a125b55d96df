/-! the machine step by step, against the denotation -/
def px_SM (c : Nat) (K A B C st sv : Nat → Int32) : Prop := ∀ i, i < c → st i ≠ 3 → im_D c K A B C i = (st i, sv i)
def px_CF (cap : Int32) (c : Nat) (scr la : Int64) (K A B C : Nat → Int32) (dX nX : Nat → Int64) (root : Int32) (m : Nat) (u : St2) : Prop :=
  ∃ (sX : Nat → Int64) (inn : Int32) (dem stg rf : Nat → Int32) (eo : Nat → Int64) (xp : Int32) (ans : Int64) (st sv : Nat → Int32) (rk rv : Int32), u = (cap, nI c, scr, la, inn, xp, ans, K, A, B, C, sX, dX, nX, dem, stg, rf, eo) ∧
    im_ST c K A sX st sv ∧ im_RF c K rf ∧ (∀ i, c ≤ i → i < 32 → stg i = 0) ∧ px_SM c K A B C st sv ∧ ans = im_P rk rv ∧
    ((rk = 3 ∧ im_cd rv (im_g c (im_D c K A B C) root)) ∨ (rk ≠ 3 ∧ im_mu c st stg ≤ m ∧ ∃ s g ro, px_FL c K st stg dem inn s g ∧ px_SC c K A B C stg rf eo root s g ro ∧ ((0 < s ∧ stg (g (s - 1)) = 1) ∨ (im_vl c K (rk, rv) ∧ (∀ t, t < s → stg (g t) ≠ 1) ∧ ∃ r, px_pe root s ro r ∧ im_g c (im_D c K A B C) r = (rk, rv)))))
def im_XB (q : Int32) (post : St2 → Prop) (u : St2) (n : Nat) : Prop := (q = 1 ∧ wpX_demandFirst post u (nI n)) ∨ (q = 2 ∧ wpX_demandLast post u (nI n)) ∨ (q = 3 ∧ wpX_finish post u (nI n))
section
variable {cap : Int32} {c : Nat} {scr la : Int64} {K A B C : Nat → Int32} {dX nX : Nat → Int64} {sX : Nat → Int64} {inn : Int32} {dem stg rf : Nat → Int32} {eo : Nat → Int64} {xp : Int32} {ans : Int64} {st sv : Nat → Int32} {root rk rv : Int32} {m s t : Nat} {g : Nat → Nat} {ro : Nat → Int32}
theorem im_SGu (hSG : ∀ i, c ≤ i → i < 32 → stg i = 0) {n : Nat} (hn : n < c) (q : Int32) : ∀ i, c ≤ i → i < 32 → upd stg n q i = 0 := by
  intro i h1 h2
  rw [pk_un (by omega)]; exact hSG i h1 h2
theorem px_dem (hc : c ≤ 32) (hp : im_Pr c K A B C) (hST : im_ST c K A sX st sv) (hRF : im_RF c K rf) (hSG : ∀ i, c ≤ i → i < 32 → stg i = 0) (hSM : px_SM c K A B C st sv) (hm : im_mu c st stg ≤ m)
    (hFL : px_FL c K st stg dem inn s g) (hSC : px_SC c K A B C stg rf eo root s g ro) (hP : ∀ t, t < s → stg (g t) ≠ 1) {r : Int32} (hr : px_pe root s ro r) :
    ∃ u, px_CF cap c scr la K A B C dX nX root m u ∧ (∀ post : St2 → Prop, post u → wpX_demand post (cap, nI c, scr, la, inn, xp, ans, K, A, B, C, sX, dX, nX, dem, stg, rf, eo) r) := by
  have hpr : ∀ {e : Int32}, im_cd e (im_g c (im_D c K A B C) r) → im_cd e (im_g c (im_D c K A B C) root) := fun h => px_prop hc hp hRF hFL hSC hP hr h
  have hmiss : (r < 0 ∨ nI c ≤ r) → im_cd 4 (im_g c (im_D c K A B C) root) := fun z => hpr (by rw [im_g_out _ z]; exact ⟨4, by omega, by omega, rfl, rfl, im_bt164⟩)
  rcases pk_ix r (show c < 2 ^ 31 by omega) with z | z | ⟨j, hj, rfl⟩
  · exact ⟨_, ⟨_, _, _, _, _, _, _, _, _, _, _, _, rfl, hST, hRF, hSG, hSM, rfl, Or.inl ⟨rfl, hmiss (Or.inl z)⟩⟩, fun _ hp => xd_miss hc (Or.inl z) hp⟩
  · exact ⟨_, ⟨_, _, _, _, _, _, _, _, _, _, _, _, rfl, hST, hRF, hSG, hSM, rfl, Or.inl ⟨rfl, hmiss (Or.inr z)⟩⟩, fun _ hp => xd_miss hc (Or.inr z) hp⟩
  · obtain ⟨h1, h2, h3, h4, h5⟩ := hST j hj
    rcases h2 with ⟨e3, e0⟩ | hv
    · by_cases k1 : K j = 1
      · have hcd : im_cd (A j) (im_g c (im_D c K A B C) root) := by
          apply hpr
          rw [im_g_in hc _ hj, im_D_fix hc hp hj]
          have e : im_dq c K A B C (im_D c K A B C) j = (3, im_s1 (A j)) := by
            unfold im_dq
            rw [if_neg (by rw [k1]; decide), if_neg (by rw [k1]; decide), if_pos k1]
          rw [e]
          exact im_raise_cd ((hp j hj).2.1 k1)
        exact ⟨_, ⟨_, _, _, _, _, _, _, _, _, _, _, _, rfl, hST, hRF, hSG, hSM, rfl, Or.inl ⟨rfl, hcd⟩⟩, fun _ hp => xd_raise hc hj (by rw [h1, e3]) k1 hp⟩
      · have k0 : K j ≠ 0 := fun z => absurd ((h3 z).1.symm.trans e3) (by decide)
        have k9 : K j ≠ 9 := fun z => absurd ((h4 z).1.symm.trans e3) (by decide)
        by_cases hs : stg j = 0
        · have hF2 := px_FL_push hFL hj hs hP ⟨e3, k0, k1, k9⟩
          have hS2 := px_SC_push hFL hSC hs hr
          refine ⟨_, ⟨_, _, _, _, _, _, _, _, _, _, 0, 0, rfl, hST, hRF, im_SGu hSG hj 1, hSM, im_P00.symm, Or.inr ⟨by decide, ?_, s + 1, _, ro, hF2, hS2, Or.inl ⟨by omega, ?_⟩⟩⟩, fun _ hp => xd_enter hc hj (by rw [h1, e3]) k1 hs hp⟩
          · refine Nat.le_trans (Nat.le_of_lt (im_mu_lt j hj (fun i hi => ⟨rfl, pk_un hi⟩) ?_)) hm
            show im_wt (st j) (upd stg j 1 j) < im_wt (st j) (stg j)
            rw [pk_us, hs, e3]
            decide
          · rw [if_pos (by omega), pk_us]
        · rcases hFL.2.2.1 j (by omega) with z | ⟨t0, ht0, et⟩
          · exact absurd z hs
          · have hcd : im_cd 3 (im_g c (im_D c K A B C) root) := by
              apply hpr
              refine ⟨3, by omega, by omega, rfl, ?_⟩
              rw [im_g_in hc _ hj, ← et]
              exact px_loop hc hp hRF hFL hSC hP ht0 (by rw [et]; exact hr.2 (by omega)) 1024 (by omega) t0 (by omega) ht0
            exact ⟨_, ⟨_, _, _, _, _, _, _, _, _, _, _, _, rfl, hST, hRF, hSG, hSM, rfl, Or.inl ⟨rfl, hcd⟩⟩, fun _ hp => xd_loop hc hj (by rw [h1, e3]) k1 hs hp⟩
    · have hn3 : st j ≠ 3 := im_wf_ne hv
      exact ⟨_, ⟨_, _, _, _, _, _, _, _, _, _, _, _, rfl, hST, hRF, hSG, hSM, rfl, Or.inr ⟨hn3, hm, s, g, ro, hFL, hSC, Or.inr ⟨hv, hP, _, hr, by rw [im_g_in hc _ hj]; exact hSM j hj hn3⟩⟩⟩, fun _ hp => xd_val hc hj h1 hn3 hp⟩
theorem px_hPu (h : ∀ t', t' + 1 < t + 1 → stg (g t') ≠ 1) {q : Int32} (hq : q ≠ 1) : ∀ t', t' < t + 1 → upd stg (g t) q (g t') ≠ 1 := by
  intro t' ht
  by_cases e : g t' = g t
  · rw [e, pk_us]; exact hq
  · rw [pk_un e]
    by_cases e2 : t' = t
    · exact absurd (by rw [e2]) e
    · exact h t' (by omega)
theorem px_mu {n : Nat} (hn : n < c) (h3 : st n = 3) {a b : Int32} (ha : stg n = a) (hl : im_wt 3 b < im_wt 3 a) : im_mu c st (upd stg n b) < im_mu c st stg := by
  apply im_mu_lt n hn (fun i hi => ⟨rfl, pk_un hi⟩)
  show im_wt (st n) (upd stg n b n) < im_wt (st n) (stg n)
  rw [pk_us, ha, h3]
  exact hl
theorem px_st1 (hc : c ≤ 32) (hp : im_Pr c K A B C) (hST : im_ST c K A sX st sv) (hRF : im_RF c K rf) (hSG : ∀ i, c ≤ i → i < 32 → stg i = 0) (hSM : px_SM c K A B C st sv) (hm : im_mu c st stg ≤ m)
    (hFL : px_FL c K st stg dem inn (t + 1) g) (hSC : px_SC c K A B C stg rf eo root (t + 1) g ro) (h1 : stg (g t) = 1) :
    0 < m ∧ ∃ u, px_CF cap c scr la K A B C dX nX root (m - 1) u ∧ (∀ post : St2 → Prop, post u → im_XB (stg (g t)) post (cap, nI c, scr, la, inn, xp, ans, K, A, B, C, sX, dX, nX, dem, stg, rf, eo) (g t)) := by
  have hF := hFL.1 t (by omega)
  have hmu := px_mu (c := c) (st := st) (stg := stg) (b := 2) hF.1 hF.2.1.1 h1 (by decide)
  have hFL2 := px_FL_top hFL (q := 2) (Or.inl rfl)
  by_cases hb : im_bn (K (g t))
  · have hbit := im_bt01 scr xp
    generalize hbe : im_bt scr xp = b at hbit
    have hRF2 : im_RF c K (upd rf (g t) b) := by
      intro i hi
      by_cases e : i = g t
      · subst e; rw [pk_us]
        exact hbit.imp id (fun z => ⟨z, hF.1, hb⟩)
      · rw [pk_un e]; exact hRF i hi
    have hS := px_SC_top (stg' := upd stg (g t) 2) (rf' := upd rf (g t) b) (eo' := eo) (r := if b = 0 then A (g t) else B (g t)) hFL hSC (fun i hi => ⟨pk_un hi, pk_un hi, rfl⟩) ⟨fun _ => by rw [pk_us], fun z => absurd (pk_us.symm.trans z) (by decide)⟩
    obtain ⟨u, hC, hX⟩ := px_dem (cap := cap) (scr := scr) (la := la) (dX := dX) (nX := nX) (xp := (xp + 1) &&& 63) (ans := ans) (m := m - 1) hc hp hST hRF2 (im_SGu hSG hF.1 2) hSM (by omega) hFL2 hS.1 (px_hPu hFL.2.2.2.2.2 (by decide)) hS.2
    exact ⟨by omega, u, hC, fun post hp => Or.inl ⟨h1, xs_first_b hc hF.1 hb hbe hbit (hX post hp)⟩⟩
  · have hr0 : rf (g t) = 0 := by
      rcases hRF (g t) (by omega) with z | z
      · exact z
      · exact absurd z.2.2 hb
    have hS := px_SC_top (stg' := upd stg (g t) 2) (rf' := rf) (eo' := eo) (r := A (g t)) hFL hSC (fun i hi => ⟨pk_un hi, rfl, rfl⟩) ⟨fun _ => by rw [if_pos hr0], fun z => absurd (pk_us.symm.trans z) (by decide)⟩
    obtain ⟨u, hC, hX⟩ := px_dem (cap := cap) (scr := scr) (la := la) (dX := dX) (nX := nX) (xp := xp) (ans := ans) (m := m - 1) hc hp hST hRF (im_SGu hSG hF.1 2) hSM (by omega) hFL2 hS.1 (px_hPu hFL.2.2.2.2.2 (by decide)) hS.2
    exact ⟨by omega, u, hC, fun post hp => Or.inl ⟨h1, xs_first_n hc hF.1 hb hr0 (hX post hp)⟩⟩
theorem px_st2 (hc : c ≤ 32) (hp : im_Pr c K A B C) (hST : im_ST c K A sX st sv) (hRF : im_RF c K rf) (hSG : ∀ i, c ≤ i → i < 32 → stg i = 0) (hSM : px_SM c K A B C st sv) (hm : im_mu c st stg ≤ m)
    (hFL : px_FL c K st stg dem inn (t + 1) g) (hSC : px_SC c K A B C stg rf eo root (t + 1) g ro) (h1 : stg (g t) = 2) (hans : ans = im_P rk rv) (hv : im_vl c K (rk, rv)) (hrv : im_g c (im_D c K A B C) (ro t) = (rk, rv)) :
    0 < m ∧ ∃ u, px_CF cap c scr la K A B C dX nX root (m - 1) u ∧ (∀ post : St2 → Prop, post u → im_XB (stg (g t)) post (cap, nI c, scr, la, inn, xp, ans, K, A, B, C, sX, dX, nX, dem, stg, rf, eo) (g t)) := by
  have hF := hFL.1 t (by omega)
  have hmu := px_mu (c := c) (st := st) (stg := stg) (b := 3) hF.1 hF.2.1.1 h1 (by decide)
  have hFL2 := px_FL_top hFL (q := 3) (Or.inr rfl)
  have hfirst : im_g c (im_D c K A B C) (if rf (g t) = 0 then A (g t) else B (g t)) = (rk, rv) := by
    rw [← (hSC.2.2 t (by omega)).1 h1]; exact hrv
  by_cases hb : im_bn (K (g t))
  · have hr01 : rf (g t) = 0 ∨ rf (g t) = 1 := (hRF (g t) (by omega)).imp id (fun z => z.1)
    have hne : (if rf (g t) = 0 then B (g t) else A (g t)) ≠ -1 := by
      obtain ⟨_, _, p3, p4, _⟩ := hp (g t) hF.1
      split
      · refine p4 hF.2.1.2.1 hF.2.1.2.2.1 ?_ ?_
        · intro z; rw [z] at hb; exact absurd hb.2 (by decide)
        · intro z; rw [z] at hb; exact absurd hb.2 (by decide)
      · exact p3 hF.2.1.2.1 hF.2.1.2.2.1
    have hS := px_SC_top (stg' := upd stg (g t) 3) (rf' := rf) (eo' := vp_updL eo (g t) ans) (r := if rf (g t) = 0 then B (g t) else A (g t)) hFL hSC (fun i hi => ⟨pk_un hi, rfl, pk_uLn hi⟩) ⟨fun z => absurd (pk_us.symm.trans z) (by decide), fun _ => ⟨(rk, rv), hv, hfirst, by rw [pk_uLs, hans], fun _ => rfl, fun z => absurd hb z⟩⟩
    obtain ⟨u, hC, hX⟩ := px_dem (cap := cap) (scr := scr) (la := la) (dX := dX) (nX := nX) (xp := xp) (ans := ans) (m := m - 1) hc hp hST hRF (im_SGu hSG hF.1 3) hSM (by omega) hFL2 hS.1 (px_hPu hFL.2.2.2.2.2 (by decide)) hS.2
    exact ⟨by omega, u, hC, fun post hp => Or.inr (Or.inl ⟨h1, xs_last_b hc hF.1 hb hr01 hne (hX post hp)⟩)⟩
  · have hr0 : rf (g t) = 0 := by
      rcases hRF (g t) (by omega) with z | z
      · exact z
      · exact absurd z.2.2 hb
    rw [if_pos hr0] at hfirst
    cases hct : im_ct c K A B C (g t) (rk, rv) with
    | none =>
      have hcd : im_cd 2 (im_g c (im_D c K A B C) root) := by
        refine ⟨2, by omega, by omega, rfl, px_dn hc hp hRF hFL hSC (by omega) (by omega) t (by omega) ?_⟩
        rw [im_D_fix hc hp hF.1, im_valn hF.2.1.2 hb hv hfirst, hct]
        exact ⟨rfl, im_bt42⟩
      exact ⟨by omega, _, ⟨_, _, _, _, _, _, _, _, _, _, _, _, rfl, hST, hRF, im_SGu hSG hF.1 3, hSM, rfl, Or.inl ⟨rfl, hcd⟩⟩, fun post hp => Or.inr (Or.inl ⟨h1, xs_last_none hc hF.1 hF.2.1.2 hb hans hv hct hp⟩)⟩
    | some r =>
      have hne := im_ct_ne hp hF.1 hF.2.1.2.1 hF.2.1.2.2.1 hb hv hc hct
      have hS := px_SC_top (stg' := upd stg (g t) 3) (rf' := rf) (eo' := vp_updL eo (g t) ans) (r := r) hFL hSC (fun i hi => ⟨pk_un hi, rfl, pk_uLn hi⟩) ⟨fun z => absurd (pk_us.symm.trans z) (by decide), fun _ => ⟨(rk, rv), hv, by rw [if_pos hr0]; exact hfirst, by rw [pk_uLs, hans], fun z => absurd z hb, fun _ => hct⟩⟩
      obtain ⟨u, hC, hX⟩ := px_dem (cap := cap) (scr := scr) (la := la) (dX := dX) (nX := nX) (xp := xp) (ans := ans) (m := m - 1) hc hp hST hRF (im_SGu hSG hF.1 3) hSM (by omega) hFL2 hS.1 (px_hPu hFL.2.2.2.2.2 (by decide)) hS.2
      exact ⟨by omega, u, hC, fun post hp => Or.inr (Or.inl ⟨h1, xs_last_some hc hF.1 hF.2.1.2 hb hans hv hct hne (hX post hp)⟩)⟩
theorem px_fin (hc : c ≤ 32) (hST : im_ST c K A sX st sv) (hRF : im_RF c K rf) (hSG : ∀ i, c ≤ i → i < 32 → stg i = 0) (hSM : px_SM c K A B C st sv) (hm : im_mu c st stg ≤ m)
    (hFL : px_FL c K st stg dem inn (t + 1) g) (hSC : px_SC c K A B C stg rf eo root (t + 1) g ro) {k v : Int32} (hv : im_vl c K (k, v)) (hD : im_D c K A B C (g t) = (k, v)) :
    0 < m ∧ px_CF cap c scr la K A B C dX nX root (m - 1) (cap, nI c, scr, la, dem (g t), xp, im_P k v, K, A, B, C, vp_updL sX (g t) (im_P k v), dX, nX, dem, upd stg (g t) 0, rf, eo) := by
  have hF := hFL.1 t (by omega)
  have hn3 : k ≠ 3 := im_wf_ne hv
  have hmu : im_mu c (upd st (g t) k) (upd stg (g t) 0) < im_mu c st stg := by
    apply im_mu_lt (g t) hF.1 (fun i hi => ⟨pk_un hi, pk_un hi⟩)
    show im_wt (upd st (g t) k (g t)) (upd stg (g t) 0 (g t)) < im_wt (st (g t)) (stg (g t))
    rw [pk_us, pk_us, hF.2.1.1]
    unfold im_wt
    rw [if_neg hn3, if_pos rfl]
    repeat' split
    all_goals omega
  have hS := px_SC_pop hFL hSC 0
  have hSM2 : px_SM c K A B C (upd st (g t) k) (upd sv (g t) v) := by
    intro i hi
    by_cases e : i = g t
    · subst e; rw [pk_us, pk_us]; exact fun _ => hD
    · rw [pk_un e, pk_un e]; exact hSM i hi
  have hP2 : ∀ t', t' < t → upd stg (g t) 0 (g t') ≠ 1 := by
    intro t' ht'
    have hg : g t' ≠ g t := fun w => by have := hFL.2.1 t' t (by omega) (by omega) w; omega
    rw [pk_un hg]; exact hFL.2.2.2.2.2 t' (by omega)
  exact ⟨by omega, _, _, _, _, _, _, _, _, _, _, _, _, rfl, im_ST_up hST hv hF.2.1.2, hRF, im_SGu hSG hF.1 0, hSM2, rfl, Or.inr ⟨hn3, by omega, t, g, ro, px_FL_pop hFL k, hS.1, Or.inr ⟨hv, hP2, _, hS.2, by rw [im_g_in hc _ hF.1]; exact hD⟩⟩⟩
theorem px_st3 (hc : c ≤ 32) (hp : im_Pr c K A B C) (hST : im_ST c K A sX st sv) (hRF : im_RF c K rf) (hSG : ∀ i, c ≤ i → i < 32 → stg i = 0) (hSM : px_SM c K A B C st sv) (hm : im_mu c st stg ≤ m)
    (hFL : px_FL c K st stg dem inn (t + 1) g) (hSC : px_SC c K A B C stg rf eo root (t + 1) g ro) (h1 : stg (g t) = 3) (hans : ans = im_P rk rv) (hv : im_vl c K (rk, rv)) (hrv : im_g c (im_D c K A B C) (ro t) = (rk, rv)) :
    0 < m ∧ ∃ u, px_CF cap c scr la K A B C dX nX root (m - 1) u ∧ (∀ post : St2 → Prop, post u → im_XB (stg (g t)) post (cap, nI c, scr, la, inn, xp, ans, K, A, B, C, sX, dX, nX, dem, stg, rf, eo) (g t)) := by
  have hF := hFL.1 t (by omega)
  have hmp := im_mu_pos (stg := stg) hF.1 hF.2.1.1
  obtain ⟨w, hw, hfirst, heo, hqb, hqn⟩ := (hSC.2.2 t (by omega)).2 h1
  by_cases hb : im_bn (K (g t))
  · have hr01 : rf (g t) = 0 ∨ rf (g t) = 1 := (hRF (g t) (by omega)).imp id (fun z => z.1)
    rw [hqb hb] at hrv
    have hDn : im_D c K A B C (g t) = im_bin (K (g t)) (if rf (g t) = 0 then (w.1, w.2) else (rk, rv)) (if rf (g t) = 0 then (rk, rv) else (w.1, w.2)) := by
      rw [im_D_fix hc hp hF.1, im_valb hF.2.1.2 hb]
      by_cases z : rf (g t) = 0
      · rw [if_pos z] at hfirst hrv
        rw [if_pos z, if_pos z, hfirst, hrv]
      · rw [if_neg z] at hfirst hrv
        rw [if_neg z, if_neg z, hfirst, hrv]
    have hvl : im_vl c K (if rf (g t) = 0 then (w.1, w.2) else (rk, rv)) := by split; exact hw; exact hv
    have hvr : im_vl c K (if rf (g t) = 0 then (rk, rv) else (w.1, w.2)) := by split; exact hv; exact hw
    generalize hcb : im_cb (K (g t)) (if rf (g t) = 0 then (w.1, w.2) else (rk, rv)) (if rf (g t) = 0 then (rk, rv) else (w.1, w.2)) = q
    by_cases q3 : q.1 = 3
    · have hcd : im_cd q.2 (im_g c (im_D c K A B C) root) := by
        have h := im_cb_x hvl hvr (show (im_cb (K (g t)) (if rf (g t) = 0 then (w.1, w.2) else (rk, rv)) (if rf (g t) = 0 then (rk, rv) else (w.1, w.2))).1 = 3 by rw [hcb]; exact q3)
        rw [hcb, ← hDn] at h
        obtain ⟨j, hj1, hj2, ee, hh⟩ := h
        exact ⟨j, hj1, hj2, ee, px_dn hc hp hRF hFL hSC hj1 hj2 t (by omega) hh⟩
      exact ⟨by omega, _, ⟨_, _, _, _, _, _, _, _, _, _, _, _, rfl, hST, hRF, hSG, hSM, rfl, Or.inl ⟨rfl, hcd⟩⟩, fun post hp => Or.inr (Or.inr ⟨h1, xs_fin_bx hc hF.1 hb hr01 hans heo hcb q3 hp⟩)⟩
    · have q1 : q.1 = 1 := by rw [← hcb]; rw [← hcb] at q3; exact im_cb_1 q3
      have hD2 : im_D c K A B C (g t) = (1, q.2) := by
        rw [hDn, im_cb_v hvl hvr (by rw [hcb]; exact q1), hcb]
        exact Prod.ext q1 rfl
      have hE := px_fin (cap := cap) (scr := scr) (la := la) (dX := dX) (nX := nX) (xp := xp) hc hST hRF hSG hSM hm hFL hSC (k := 1) (v := q.2) (Or.inl rfl) hD2
      exact ⟨hE.1, _, hE.2, fun post hp => Or.inr (Or.inr ⟨h1, xs_fin_bv hc hF.1 hb hr01 hans heo hcb q1 hp⟩)⟩
  · have hr0 : rf (g t) = 0 := by
      rcases hRF (g t) (by omega) with z | z
      · exact z
      · exact absurd z.2.2 hb
    rw [if_pos hr0] at hfirst
    have hD2 : im_D c K A B C (g t) = (rk, rv) := by
      rw [im_D_fix hc hp hF.1, im_valn hF.2.1.2 hb hw hfirst, hqn hb]
      exact hrv
    have hE := px_fin (cap := cap) (scr := scr) (la := la) (dX := dX) (nX := nX) (xp := xp) hc hST hRF hSG hSM hm hFL hSC hv hD2
    exact ⟨hE.1, _, hE.2, fun post hp => Or.inr (Or.inr ⟨h1, xs_fin_n hc hF.1 hb hans (im_wf_ne hv) hp⟩)⟩
end
