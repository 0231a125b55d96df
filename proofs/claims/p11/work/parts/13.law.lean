/-! the law -/
abbrev pl_T : Type := Int32 → Int32 → Int32 → Int64 → Int64 → Int32 → Int32 → Int64 → (Nat → Int32) → (Nat → Int32) → (Nat → Int32) → (Nat → Int32) → (Nat → Int64) → (Nat → Int64) → (Nat → Int64) → (Nat → Int32) → (Nat → Int32) → (Nat → Int32) → (Nat → Int64) → Prop
def pl_J (J : pl_T) (x : Int32) (u : St2) : Prop := match u with
  | (cap, cn, scr, la, inn, xp, ans, K, A, B, C, sX, dX, nX, dem, stg, rf, eo) => J x cap cn scr la inn xp ans K A B C sX dX nX dem stg rf eo
def pl_A (post : Int32 → Prop) (L : Nat) (xs : Nat → Int32) (J : pl_T) (x2 x3 : Int32) (kc ks : Nat) (u : St2) : Prop := match u with
  | (cap, cn, scr, la, inn, xp, ans, K, A, B, C, sX, dX, nX, dem, stg, rf, eo) => wL_law_362 post L xs J x2 x3 kc ks cap cn scr la inn xp ans K A B C sX dX nX dem stg rf eo
theorem pl_cell {post : Int32 → Prop} {L : Nat} {xs : Nat → Int32} {i : Nat} (hi : i < 2 ^ 30) (hL : L < 2 ^ 30) (h : ∀ r, post r) : wpL_cell post L xs () (nI i) := by
  unfold wpL_cell
  refine br_c (fun _ => h 0) (fun z => ⟨vp_in_nI ?_ (by omega), h _⟩)
  apply Classical.byContradiction
  intro w
  exact z (nI_le (by omega) (by omega))
section
variable {p c : Nat} {D : Nat → Int32 × Int32} {st sv : Nat → Int32} {lk lw : Int32} {u : St2} {post : Int32 → Prop} {L : Nat} {xs : Nat → Int32} {J : pl_T} {x2 x3 : Int32} {kc ks : Nat}
theorem pl_362 (hS : px_S p c D st sv lk lw u) (hJ : pl_J J (x3 + 5) u) : pl_A post L xs J x2 x3 kc ks u := by
  have hb := pm_b hS
  have hS2 := hS
  obtain ⟨scr, K, A, B, C, dX, nX, sX, inn, dem, stg, rf, eo, xp, ans, rfl, _⟩ := hS
  show wL_law_362 post L xs J x2 x3 kc ks (nI p) (nI c) scr (im_P lk lw) inn xp ans K A B C sX dX nX dem stg rf eo
  unfold wL_law_362
  refine pm_count hS2 ?_
  have q := im_lp0 (W := fun n i => wL_law_371 post L xs J x2 x3 (nI c) kc ks (nI p) (nI c) scr (im_P lk lw) inn xp ans K A B C sX dX nX dem stg rf eo n (nI i)) c
    (fun n => by
      rw [wL_law_371]
      exact br_t (Int32.le_refl _) (nm_e hJ))
    (fun n i hi ih => by
      rw [wL_law_371]
      refine br_f (nI_ge hi (by omega)) (br_f (nI_ge (b := 64) (by omega) (by decide)) (pm_state hS2 hi (br_c (fun _ => nm_r (nI_1 i) ih) (fun n3 => pm_dk hS2 hi (br_t ?_ (pm_value hS2 hi (pm_dv hS2 hi (br_t ?_ (nm_r (nI_1 i) ih)))))))))
      · rw [pm_SM hS2 hi n3]
      · rw [pm_SM hS2 hi n3])
  rw [nI_0] at q
  exact q
theorem pl_bit {x : Int32} {e : Nat} (he : e < 32) (h : bt x e = true) : ¬ ((x.toUInt32 >>> ((nI e).toUInt32 &&& Int32.toUInt32 31)).toInt32 &&& 1) = 0 := by
  intro z
  have q := congrArg (fun y => bt y 0) z
  rw [b_and, b_ushr e he, Nat.add_zero, h, b_0] at q
  exact absurd q (by decide)
/-- after a run of a node -/
theorem pl_ran {rk rv : Int32} {j : Nat} (hS : px_S p c D st sv rk rv u) (hj : j < c) (hres : (rk = 3 ∧ im_cd rv (D j)) ∨ ((rk = 1 ∨ rk = 2) ∧ D j = (rk, rv))) (hJ : pl_A post L xs J x2 x3 kc ks u) :
    (match u with | (cap, cn, scr, la, inn, xp, ans, K, A, B, C, sX, dX, nX, dem, stg, rf, eo) => (nI c ≤ nI j → wL_law_327 post L xs J x2 x3 kc ks cap cn scr la inn xp ans K A B C sX dX nX dem stg rf eo) ∧ (¬ nI c ≤ nI j → wpX_denSet (fun r_200 => (rk = 3 → wpX_lastException (fun r_210 => (r_210 < 0 → post 0) ∧ (¬ r_210 < 0 → ((31 < r_210 → post 0) ∧ (¬ 31 < r_210 → ((((r_200.toUInt32 >>> (r_210.toUInt32 &&& Int32.toUInt32 31)).toInt32 &&& 1) = 0 → post 0) ∧ (¬ ((r_200.toUInt32 >>> (r_210.toUInt32 &&& Int32.toUInt32 31)).toInt32 &&& 1) = 0 → wL_law_327 post L xs J x2 x3 kc ks cap cn scr la inn xp ans K A B C sX dX nX dem stg rf eo)))))) (cap, cn, scr, la, inn, xp, ans, K, A, B, C, sX, dX, nX, dem, stg, rf, eo)) ∧ (¬ rk = 3 → ((rk = 1 → wL_law_290 post L xs J x2 x3 (nI j) rk r_200 kc ks cap cn scr la inn xp ans K A B C sX dX nX dem stg rf eo) ∧ (¬ rk = 1 → ((rk = 2 → wL_law_290 post L xs J x2 x3 (nI j) rk r_200 kc ks cap cn scr la inn xp ans K A B C sX dX nX dem stg rf eo) ∧ (¬ rk = 2 → post 0)))))) (cap, cn, scr, la, inn, xp, ans, K, A, B, C, sX, dX, nX, dem, stg, rf, eo) (nI j))) := by
  have hb := pm_b hS
  have hS2 := hS
  obtain ⟨scr, K, A, B, C, dX, nX, sX, inn, dem, stg, rf, eo, xp, ans, rfl, _⟩ := hS
  refine br_f (nI_ge hj (by omega)) (pm_ds hS2 hj ?_)
  rcases hres with ⟨rfl, e, he1, he2, rfl, h3, hbt⟩ | ⟨h12, hD⟩
  · refine br_t rfl (pm_lx hS2 ?_)
    rw [if_pos rfl, if_pos h3]
    exact br_f (nI_pos (by omega)) (br_f (nI_nlt (b := e) (a := 31) (by omega) (by decide)) (br_f (pl_bit (by omega) hbt) hJ))
  · have n3 : ¬ rk = 3 := by rcases h12 with z | z <;> rw [z] <;> decide
    have s290 : wL_law_290 post L xs J x2 x3 (nI j) rk (if (D j).1 = 3 then (D j).2 else 0) kc ks (nI p) (nI c) scr (im_P rk rv) inn xp ans K A B C sX dX nX dem stg rf eo := by
      unfold wL_law_290
      refine br_t (by rw [hD, if_neg n3]) (pm_dk hS2 hj (br_t (by rw [hD]) (pm_dv hS2 hj (pm_lv hS2 (br_t ?_ hJ)))))
      rw [hD]
    refine br_f n3 (br_c (fun _ => s290) (fun n1 => br_t (h12.resolve_left n1) s290))
theorem pl_161 (hS : px_S p c D st sv lk lw u) (x7 x8 x10 z0 x12 : Int32) (hz : ¬ z0 = 0) (hJ : ∀ u' c' D' st' sv', px_S p c' D' st' sv' lk lw u' → pl_A post L xs J x2 x3 kc ks u') : (match u with | (cap, cn, scr, la, inn, xp, ans, K, A, B, C, sX, dX, nX, dem, stg, rf, eo) => wL_law_161 post L xs J x2 x3 x7 x8 x10 z0 x12 kc ks cap cn scr la inn xp ans K A B C sX dX nX dem stg rf eo) := by
  have hS2 := hS
  obtain ⟨scr, K, A, B, C, dX, nX, sX, inn, dem, stg, rf, eo, xp, ans, rfl, _⟩ := hS
  show wL_law_161 post L xs J x2 x3 x7 x8 x10 z0 x12 kc ks (nI p) (nI c) scr (im_P lk lw) inn xp ans K A B C sX dX nX dem stg rf eo
  unfold wL_law_161
  exact ⟨hz, nm_e ⟨hz, nm_e (pm_add hS2 _ _ _ _ (fun r u' c' D' st' sv' hS' => hJ u' c' D' st' sv' hS'))⟩⟩
theorem pl_113 (hS : px_S p c D st sv lk lw u) (x6 x7 x8 x10 z0 : Int32) (hz : ¬ z0 = 0) (hJ : ∀ u' c' D' st' sv', px_S p c' D' st' sv' lk lw u' → pl_A post L xs J x2 x3 kc ks u') : (match u with | (cap, cn, scr, la, inn, xp, ans, K, A, B, C, sX, dX, nX, dem, stg, rf, eo) => wL_law_113 post L xs J x2 x3 x6 x7 x8 x10 z0 kc ks cap cn scr la inn xp ans K A B C sX dX nX dem stg rf eo) := by
  have hS2 := hS
  obtain ⟨scr, K, A, B, C, dX, nX, sX, inn, dem, stg, rf, eo, xp, ans, rfl, _⟩ := hS
  have s161 : ∀ x12, wL_law_161 post L xs J x2 x3 x7 x8 x10 z0 x12 kc ks (nI p) (nI c) scr (im_P lk lw) inn xp ans K A B C sX dX nX dem stg rf eo := fun x12 => pl_161 hS2 x7 x8 x10 z0 x12 hz hJ
  show wL_law_113 post L xs J x2 x3 x6 x7 x8 x10 z0 kc ks (nI p) (nI c) scr (im_P lk lw) inn xp ans K A B C sX dX nX dem stg rf eo
  unfold wL_law_113
  refine br_c (fun _ => ?_) (fun _ => br_c (fun _ => ⟨by decide, nm_e (s161 _)⟩) (fun _ => ⟨hz, nm_e (s161 _)⟩))
  unfold wpL_constVal
  exact br_c (fun _ => s161 _) (fun _ => s161 _)
end
