/-! the law's own loop, and what is owed -/
theorem pl_main {post : Int32 → Prop} {L : Nat} {xs : Nat → Int32} {kc ks p : Nat} (h1 : post 1) (hL : L ≤ 260) : ∀ (n k c : Nat) (D : Nat → Int32 × Int32) (st sv : Nat → Int32) (lk lw : Int32) (u : St2), px_S p c D st sv lk lw u → k ≤ 1000 → L + 6 - k < n → pl_J (wL_law_23 post L xs (nI p) kc ks n) (nI k) u := by
  intro n
  induction n with
  | zero => intro k c D st sv lk lw u _ _ hn; omega
  | succ n ih =>
    intro k c D st sv lk lw u hS hk1 hn
    have hb := pm_b hS
    have hS2 := hS
    obtain ⟨scr, K, A, B, C, dX, nX, sX, inn, dem, stg, rf, eo, xp, ans, rfl, _⟩ := hS
    show wL_law_23 post L xs (nI p) kc ks (n + 1) (nI k) (nI p) (nI c) scr (im_P lk lw) inn xp ans K A B C sX dX nX dem stg rf eo
    rw [wL_law_23]
    refine br_c (fun _ => h1) (fun hk => ?_)
    have hkL : k < L := by
      apply Classical.byContradiction
      intro w
      exact hk (nI_le (show L ≤ k by omega) (by omega))
    have next : ∀ (c' : Nat) (D' : Nat → Int32 × Int32) (st' sv' : Nat → Int32) (lk' lw' : Int32) (u' : St2), px_S p c' D' st' sv' lk' lw' u' → pl_A post L xs (wL_law_23 post L xs (nI p) kc ks n) (nI p) (nI k) kc ks u' := by
      intro c' D' st' sv' lk' lw' u' hS'
      refine pl_362 hS' ?_
      rw [show nI k + 5 = nI (k + 5) from nI_add k 5]
      exact ih (k + 5) c' D' st' sv' lk' lw' u' hS' (by omega) (by omega)
    rw [show nI k + 4 = nI (k + 4) from nI_add k 4, show nI k + 3 = nI (k + 3) from nI_add k 3, show nI k + 2 = nI (k + 2) from nI_add k 2, nI_1 k]
    refine pl_cell (by omega) (by omega) (fun r0 => nm_e (pl_cell (by omega) (by omega) (fun r1 => pl_cell (by omega) (by omega) (fun r2 => pl_cell (by omega) (by omega) (fun r3 => pl_cell (by omega) (by omega) (fun r4 => pm_count hS2 ?_))))))
    refine br_c (fun _ => br_c (fun _ => br_c (fun _ => pm_set hS2 _ (fun u' hS' => next _ _ _ _ _ _ u' hS')) (fun _ => pm_reset hS2 (fun u' st' sv' hS' => next _ _ _ _ _ _ u' hS'))) (fun _ => ?_)) (fun _ => ⟨by decide, nm_e ?_⟩)
    · obtain ⟨w, hw, ew⟩ := pk_andE r1 (m := 65535) 16 (by decide)
      rw [nI_1 c, ew]
      refine ⟨nI_ne0 (by omega) (by omega), nm_r (pk_rem (by omega) (by omega) (by omega)) ?_⟩
      have hm : w % (c + 1) < c + 1 := Nat.mod_lt _ (by omega)
      by_cases hj : w % (c + 1) < c
      · exact pm_run hS2 hj (fun rk rv u' st' sv' hS' hres => pl_ran hS' hj hres (next _ _ _ _ _ _ u' hS'))
      · rw [show w % (c + 1) = c by omega]
        exact pm_out hS2 (br_t (Int32.le_refl _) (next _ _ _ _ _ _ _ hS2))
    · exact br_c (fun _ => pl_113 hS2 _ _ _ _ _ (nI_ne0 (by omega) (by omega)) (fun u' c' D' st' sv' hS' => next _ _ _ _ _ _ u' hS')) (fun _ => pl_113 hS2 _ _ _ _ _ (by rw [show nI c + 2 = nI (c + 2) from nI_add c 2]; exact nI_ne0 (by omega) (by omega)) (fun u' c' D' st' sv' hS' => next _ _ _ _ _ _ u' hS'))
theorem px_S0 {p : Nat} (h8 : 8 ≤ p) (h32 : p ≤ 32) : px_S p 0 (im_D 0 (fun _ => 0) (fun _ => 0) (fun _ => 0) (fun _ => 0)) (fun _ => 0) (fun _ => 0) 0 0 (nI p, 0, 0, 0, (-1), 0, 0, (fun _ => 0), (fun _ => 0), (fun _ => 0), (fun _ => 0), (fun _ => 0), (fun _ => 0), (fun _ => 0), (fun _ => 0), (fun _ => 0), (fun _ => 0), (fun _ => 0)) :=
  ⟨0, (fun _ => 0), (fun _ => 0), (fun _ => 0), (fun _ => 0), (fun _ => 0), (fun _ => 0), (fun _ => 0), -1, (fun _ => 0), (fun _ => 0), (fun _ => 0), (fun _ => 0), 0, 0, by rw [im_P00, nI_0], ⟨h8, h32, Nat.zero_le _⟩, fun i hi => absurd hi (Nat.not_lt_zero _), fun i hi => absurd hi (Nat.not_lt_zero _), fun i _ => Or.inl rfl, fun i _ => rfl, rfl, fun j hj => absurd hj (Nat.not_lt_zero _), fun i hi => absurd hi (Nat.not_lt_zero _)⟩
theorem pl_start {post : Int32 → Prop} {L : Nat} {xs : Nat → Int32} {kc ks p : Nat} (h1 : post 1) (hL : L ≤ 260) (h8 : 8 ≤ p) (h32 : p ≤ 32) : wpX_capacity (fun r_48 => ∃ fu23 : Nat, wL_law_23 post L xs r_48 kc ks fu23 1 (nI p) 0 0 0 (-1) 0 0 (fun _ => 0) (fun _ => 0) (fun _ => 0) (fun _ => 0) (fun _ => 0) (fun _ => 0) (fun _ => 0) (fun _ => 0) (fun _ => 0) (fun _ => 0) (fun _ => 0)) (nI p, 0, 0, 0, (-1), 0, 0, (fun _ => 0), (fun _ => 0), (fun _ => 0), (fun _ => 0), (fun _ => 0), (fun _ => 0), (fun _ => 0), (fun _ => 0), (fun _ => 0), (fun _ => 0), (fun _ => 0)) :=
  pm_cap (px_S0 h8 h32) ⟨L + 7, pl_main (kc := kc) (ks := ks) h1 hL (L + 7) 1 0 _ _ _ _ _ _ (px_S0 h8 h32) (by omega) (by omega)⟩
theorem i_vc (xs : Nat → Int32) (L : Nat) (hL : L ≤ 260) : wpL_law (fun r => r = 1) L xs := by
  unfold wpL_law
  have h0 : wpL_cell (fun r_2 => ∃ mc ms : Nat, 1 + mc ≤ 12 ∧ 18 + ms ≤ 370 ∧ wpX_init (fun u => match u with | (cap, cn, scr, la, inn, xp, ans, K, A, B, C, sX, dX, nX, dem, stg, rf, eo) => wpX_capacity (fun r_48 => ∃ fu23 : Nat, wL_law_23 (fun r => r = 1) L xs r_48 (1 + mc) (18 + ms) fu23 1 cap cn scr la inn xp ans K A B C sX dX nX dem stg rf eo) (cap, cn, scr, la, inn, xp, ans, K, A, B, C, sX, dX, nX, dem, stg, rf, eo)) mc ms (0, 0, 0, 0, 0, 0, 0) (r_2 &&& 63)) L xs () (nI 0) := by
    refine pl_cell (by omega) (by omega) (fun r => ⟨11, 352, by omega, by omega, ?_⟩)
    generalize r &&& 63 = q
    unfold wpX_init
    refine ⟨by omega, by omega, by omega, by omega, by omega, by omega, by omega, by omega, by omega, by omega, by omega, by omega, by omega, by omega, by omega, by omega, by omega, by omega, by omega, by omega, by omega, by omega, ?_⟩
    by_cases h8 : 8 ≤ q
    · refine br_t h8 ?_
      by_cases h32 : q ≤ 32
      · refine br_t h32 ?_
        have h0 : ¬ q < 0 := fun z => Int32.lt_irrefl (Int32.lt_of_lt_of_le z (Int32.le_trans (show (0 : Int32) ≤ 8 by decide) h8))
        obtain ⟨j, hj, rfl⟩ := nI_of h0
        exact pl_start rfl hL ((nI_leI (a := 8) (by decide) hj).mp h8) ((nI_leI (b := 32) hj (by decide)).mp h32)
      · exact br_f h32 (pl_start (p := 32) rfl hL (by omega) (by omega))
    · exact br_f h8 (pl_start (p := 8) rfl hL (by omega) (by omega))
  exact h0
