/-! the component's loops -/
section
variable {cap : Int32} {c : Nat} {scr la : Int64} {K A B C : Nat → Int32} {dX nX : Nat → Int64} {sX : Nat → Int64} {inn : Int32} {dem stg rf : Nat → Int32} {eo : Nat → Int64} {xp : Int32} {ans : Int64}
theorem xl_leave {post : St2 → Prop} (hc : c ≤ 32) (h : post (cap, nI c, scr, la, inn, xp, ans, K, A, B, C, sX, dX, nX, dem, im_fl stg (fun _ => 0) c, rf, eo)) : wpX_leaveActiveNodes post (cap, nI c, scr, la, inn, xp, ans, K, A, B, C, sX, dX, nX, dem, stg, rf, eo) := by
  have q := im_lp0 (W := fun n i => wX_leaveActiveNodes_2 post cap (nI c) scr la inn xp ans n (nI i) K A B C sX dX nX dem (im_fl stg (fun _ => 0) i) rf eo) c
    (fun n => by
      rw [wX_leaveActiveNodes_2]
      exact br_t (Int32.le_refl _) h)
    (fun n i hi ih => by
      rw [wX_leaveActiveNodes_2]
      refine br_f (nI_ge hi (by omega)) ⟨vp_in_nI (by omega) (by decide), nm_r (show _ = im_fl stg (fun _ => 0) (i + 1) by rw [nI_clamp (by omega)]; exact im_flU stg (fun _ => 0) i) (nm_r (nI_1 i) ih)⟩)
  rw [im_fl0, nI_0] at q
  exact q
theorem xl_reset {post : St2 → Prop} (hc : c ≤ 32) (h : post (cap, nI c, scr, la, inn, xp, ans, K, A, B, C, im_fl sX (im_is K A) c, dX, nX, dem, stg, rf, eo)) : wpX_resetThunks post (cap, nI c, scr, la, inn, xp, ans, K, A, B, C, sX, dX, nX, dem, stg, rf, eo) := by
  have q := im_lp0 (W := fun n i => wX_resetThunks_2 post cap (nI c) scr la inn xp ans n (nI i) K A B C (im_fl sX (im_is K A) i) dX nX dem stg rf eo) c
    (fun n => by
      rw [wX_resetThunks_2]
      exact br_t (Int32.le_refl _) h)
    (fun n i hi ih => by
      rw [wX_resetThunks_2]
      refine br_f (nI_ge hi (by omega)) (xo_init (by omega) ⟨vp_in_nI (by omega) (by decide), nm_r (show _ = im_fl sX (im_is K A) (i + 1) by rw [nI_clamp (by omega)]; exact im_flL sX (im_is K A) i) (nm_r (nI_1 i) ih)⟩))
  rw [im_fl0, nI_0] at q
  exact q
/-- the round's end: what the new row is, and whether it differs -/
theorem xl_take {post : Int32 → St2 → Prop} (hc : c ≤ 32) (h : ∀ z : Int32, (z = 0 ∨ z = 1) → (z = 0 → ∀ j, j < c → nX j = dX j) → post z (cap, nI c, scr, la, inn, xp, ans, K, A, B, C, sX, im_fl dX nX c, nX, dem, stg, rf, eo)) : wpX_takeNextDenotations post (cap, nI c, scr, la, inn, xp, ans, K, A, B, C, sX, dX, nX, dem, stg, rf, eo) := by
  have key : ∀ n i z, i ≤ c → c - i < n → (z = 0 ∨ z = 1) → (z = 0 → ∀ j, j < i → nX j = dX j) → wX_takeNextDenotations_4 post cap (nI c) scr la inn xp ans n z (nI i) K A B C sX (im_fl dX nX i) nX dem stg rf eo := by
    intro n
    induction n with
    | zero => intro i z _ hn; omega
    | succ n ih =>
      intro i z hi hn hz hz0
      rw [wX_takeNextDenotations_4]
      by_cases e : i = c
      · subst e
        refine br_t (Int32.le_refl _) ⟨?_, h z hz hz0⟩
        rcases hz with rfl | rfl <;> rfl
      · have hic : i < c := by omega
        have vi : vp_in (nI i) 32 := vp_in_nI (by omega) (by decide)
        have cl : (nI i).toNatClampNeg = i := nI_clamp (by omega)
        have ed : im_fl dX nX i i = dX i := im_fl_ge (by omega)
        have st1 : wX_takeNextDenotations_32 post (wX_takeNextDenotations_4 post cap (nI c) scr la inn xp ans n) (nI i) cap (nI c) scr la inn xp ans K A B C sX (im_fl dX nX i) nX dem stg rf eo := by
          unfold wX_takeNextDenotations_32 wX_takeNextDenotations_37
          refine ⟨vi, vi, nm_r (show _ = im_fl dX nX (i + 1) by rw [cl]; exact im_flL dX nX i) (nm_r (nI_1 i) ?_)⟩
          exact ih (i + 1) 1 (by omega) (by omega) (Or.inr rfl) (fun w => absurd w (by decide))
        refine br_f (nI_ge hic (by omega)) (br_c (fun z0 => ?_) (fun _ => st1))
        refine ⟨vi, vi, br_c (fun w => ?_) (fun _ => st1)⟩
        rw [cl, ed] at w
        unfold wX_takeNextDenotations_37
        refine ⟨vi, vi, nm_r (show _ = im_fl dX nX (i + 1) by rw [cl]; exact im_flL dX nX i) (nm_r (nI_1 i) ?_)⟩
        refine ih (i + 1) 0 (by omega) (by omega) (Or.inl rfl) (fun _ j hj => ?_)
        by_cases ej : j = i
        · subst ej; exact w
        · exact hz0 z0 j (by omega)
  have q := key (c + 1) 0 0 (by omega) (by omega) (Or.inl rfl) (fun _ j hj => absurd hj (Nat.not_lt_zero _))
  rw [im_fl0, nI_0] at q
  exact ⟨_, q⟩
/-- one round over all nodes -/
theorem xl_round {post : St2 → Prop} {J : _} (hc : c ≤ 32) (hp : im_Pr c K A B C) {d : Nat → Int32 × Int32} (hd : ∀ j, j < c → dX j = im_P (d j).1 (d j).2) (hw : ∀ j, j < c → im_wf c K (d j)) (x2 : Int32)
    (h : wpX_takeNextDenotations (fun r u => match u with | (f_cap, f_count, f_scr, f_la, f_inn, f_xp, f_ans, a_K, a_A, a_B, a_C, a_sX, a_dX, a_nX, a_dem, a_stg, a_rf, a_eo) => ∀ x2_24 : Int32, x2_24 = x2 + 1 → J r x2_24 f_cap f_count f_scr f_la f_inn f_xp f_ans a_K a_A a_B a_C a_sX a_dX a_nX a_dem a_stg a_rf a_eo) (cap, nI c, scr, la, inn, xp, ans, K, A, B, C, sX, dX, im_fl nX (fun j => im_P (im_dq c K A B C d j).1 (im_dq c K A B C d j).2) c, dem, stg, rf, eo)) :
    ∃ n, wX_solveDenotations_45 post J x2 cap (nI c) scr la inn xp ans n 0 K A B C sX dX nX dem stg rf eo := by
  have q := im_lp0 (W := fun n i => wX_solveDenotations_45 post J x2 cap (nI c) scr la inn xp ans n (nI i) K A B C sX dX (im_fl nX (fun j => im_P (im_dq c K A B C d j).1 (im_dq c K A B C d j).2) i) dem stg rf eo) c
    (fun n => by
      rw [wX_solveDenotations_45]
      exact br_t (Int32.le_refl _) h)
    (fun n i hi ih => by
      rw [wX_solveDenotations_45]
      refine br_f (nI_ge hi (by omega)) (xo_eq hc hp hd hw hi ⟨vp_in_nI (by omega) (by decide), nm_r (show _ = im_fl nX (fun j => im_P (im_dq c K A B C d j).1 (im_dq c K A B C d j).2) (i + 1) by rw [nI_clamp (by omega)]; exact im_flL nX (fun j => im_P (im_dq c K A B C d j).1 (im_dq c K A B C d j).2) i) (nm_r (nI_1 i) ih)⟩))
  rw [im_fl0, nI_0] at q
  exact q
theorem xl_rounds {post : St2 → Prop} (hc : c ≤ 32) (hp : im_Pr c K A B C) (h : ∀ dX' nX' : Nat → Int64, im_DX c K A B C dX' → post (cap, nI c, scr, la, inn, xp, ans, K, A, B, C, sX, dX', nX', dem, stg, rf, eo)) :
    ∀ (n r : Nat) (z : Int32) (dX nX : Nat → Int64), r ≤ 1024 → 1024 - r < n → (∀ j, j < c → dX j = im_P (im_it c K A B C r j).1 (im_it c K A B C r j).2) → (z = 0 → im_it c K A B C r = im_it c K A B C 1024) → wX_solveDenotations_32 post n z (nI r) cap (nI c) scr la inn xp ans K A B C sX dX nX dem stg rf eo := by
  intro n
  induction n with
  | zero => intro r z dX nX _ hn; omega
  | succ n ih =>
    intro r z dX nX hr hn hd hz
    rw [wX_solveDenotations_32]
    have fin : im_it c K A B C r = im_it c K A B C 1024 → im_DX c K A B C dX := fun e j hj => by rw [hd j hj, e]
    refine br_c (fun z0 => h dX nX (fin (hz z0))) (fun _ => ?_)
    by_cases e : r = 1024
    · subst e
      exact br_t (Int32.le_refl _) (h dX nX (fin rfl))
    · refine br_f (nI_ge (b := 1024) (by omega) (by decide)) (xl_round hc hp hd (fun j _ => im_it_wf (by omega) hp r j) (nI r) (xl_take hc (fun w hw hw0 => ?_)))
      rw [nI_1]
      refine nm_e (ih (r + 1) w _ _ (by omega) (by omega) (fun j hj => ?_) (fun w0 => ?_))
      · rw [im_fl_lt hj, im_fl_lt hj]
        show _ = im_P (im_J c K A B C (im_it c K A B C r) j).1 (im_J c K A B C (im_it c K A B C r) j).2
        unfold im_J
        rw [if_pos hj]
      · have e2 : im_it c K A B C (r + 1) = im_it c K A B C r := by
          funext j
          by_cases hj : j < c
          · have q := hw0 w0 j hj
            rw [im_fl_lt hj, hd j hj] at q
            have q2 := im_inj q
            show im_J c K A B C (im_it c K A B C r) j = _
            unfold im_J
            rw [if_pos hj]
            exact Prod.ext q2.1 q2.2
          · rw [im_it_out _ _ hj, im_it_out _ _ hj]
        rw [e2]
        exact im_it_fin hc hp (Or.inl e2)
theorem xl_solve {post : St2 → Prop} (hc : c ≤ 32) (hp : im_Pr c K A B C) (h : ∀ dX' nX' : Nat → Int64, im_DX c K A B C dX' → post (cap, nI c, scr, la, inn, xp, ans, K, A, B, C, sX, dX', nX', dem, stg, rf, eo)) : wpX_solveDenotations post (cap, nI c, scr, la, inn, xp, ans, K, A, B, C, sX, dX, nX, dem, stg, rf, eo) := by
  have q := im_lp0 (W := fun n i => wX_solveDenotations_2 post cap (nI c) scr la inn xp ans n (nI i) K A B C sX (im_fl dX (fun _ => im_P 3 65534) i) nX dem stg rf eo) c
    (fun n => by
      rw [wX_solveDenotations_2]
      refine br_t (Int32.le_refl _) ⟨1025, ?_⟩
      have w := xl_rounds (cap := cap) (scr := scr) (la := la) (sX := sX) (inn := inn) (dem := dem) (stg := stg) (rf := rf) (eo := eo) (xp := xp) (ans := ans) hc hp h 1025 0 1 (im_fl dX (fun _ => im_P 3 65534) c) nX (by omega) (by omega) (fun j hj => im_fl_lt hj) (fun z => absurd z (by decide))
      rw [nI_0] at w
      exact w)
    (fun n i hi ih => by
      rw [wX_solveDenotations_2]
      refine br_f (nI_ge hi (by omega)) (xo_outcome ⟨vp_in_nI (by omega) (by decide), nm_r (show _ = im_fl dX (fun _ => im_P 3 65534) (i + 1) by rw [nI_clamp (by omega)]; exact im_flL dX (fun _ => im_P 3 65534) i) (nm_r (nI_1 i) ih)⟩))
  rw [im_fl0, nI_0] at q
  exact q
end
