/-! the reference's loops -/
section
variable {cap : Int32} {c : Nat} {scr : Int64} {K A B C : Nat → Int32} {lo le lv tk tv : Int32} {dk dv nk nv : Nat → Int32} {st sv act : Nat → Int32} {yp : Int32} {fN fP fB fK fV : Nat → Int32} {sp rk rv : Int32}
def im_rs (k : Int32) : Prop := ¬ (k = 0 ∨ k = 1 ∨ k = 9)
theorem im_rs_y {k : Int32} (h0 : 0 ≤ k) (h11 : k ≤ 11) {P Q : Prop} (hp : im_rs k → P) (hq : ¬ im_rs k → Q) : (k < 2 → ((k = 10 → P) ∧ (¬ k = 10 → ((k = 11 → P) ∧ (¬ k = 11 → Q))))) ∧ (¬ k < 2 → ((k ≤ 8 → P) ∧ (¬ k ≤ 8 → ((k = 10 → P) ∧ (¬ k = 10 → ((k = 11 → P) ∧ (¬ k = 11 → Q))))))) := by
  obtain ⟨j, hj, rfl⟩ := nI_of (Int32.not_lt.mpr h0)
  have h : j ≤ 11 := (nI_leI (b := 11) hj (by decide)).mp h11
  have hs : ∀ j, j ≤ 11 → (nI j = 0 ∨ nI j = 1 ∨ nI j = 9 ↔ j = 0 ∨ j = 1 ∨ j = 9) ∧ (nI j < 2 ↔ j < 2) ∧ (nI j ≤ 8 ↔ j ≤ 8) ∧ (nI j = 10 ↔ j = 10) ∧ (nI j = 11 ↔ j = 11) := by decide +kernel
  obtain ⟨a1, a2, a3, a4, a5⟩ := hs j h
  unfold im_rs at hp hq
  rw [a1] at hp hq
  rw [a2, a3, a4, a5]
  have hp' : (j ≠ 0 ∧ j ≠ 1 ∧ j ≠ 9) → P := fun z => hp (by omega)
  have hq' : (j = 0 ∨ j = 1 ∨ j = 9) → Q := fun z => hq (by omega)
  refine ⟨fun z => ⟨fun w => by omega, fun _ => ⟨fun w => by omega, fun _ => hq' (by omega)⟩⟩, fun z => ⟨fun w => hp' (by omega), fun w => ⟨fun w2 => hp' (by omega), fun w2 => ⟨fun w3 => hp' (by omega), fun w3 => hq' (by omega)⟩⟩⟩⟩
theorem yl_reset {post : SY → Prop} (hc : c ≤ 32) (hp : im_Pr c K A B C) (h : ∀ st' sv' : Nat → Int32, (∀ i, i < c → (K i = 0 ∨ K i = 1 ∨ K i = 9) → st' i = st i ∧ sv' i = sv i) → (∀ i, i < c → ¬ (K i = 0 ∨ K i = 1 ∨ K i = 9) → st' i = 3 ∧ sv' i = 0) → post (cap, nI c, scr, yp, lo, le, lv, sp, rk, rv, tk, tv, K, A, B, C, st', sv', act, fN, fP, fB, fK, fV, dk, dv, nk, nv)) : wpY_resetThunks post (cap, nI c, scr, yp, lo, le, lv, sp, rk, rv, tk, tv, K, A, B, C, st, sv, act, fN, fP, fB, fK, fV, dk, dv, nk, nv) := by
  have key : ∀ (n i : Nat) (st' sv' : Nat → Int32), i ≤ c → c - i < n → (∀ j, j < c → (j < i → im_rs (K j) → st' j = 3 ∧ sv' j = 0) ∧ (¬ j < i ∨ ¬ im_rs (K j) → st' j = st j ∧ sv' j = sv j)) → wY_resetThunks_2 post cap (nI c) scr yp lo le lv sp rk rv tk tv n (nI i) K A B C st' sv' act fN fP fB fK fV dk dv nk nv := by
    intro n
    induction n with
    | zero => intro i st' sv' _ hn; omega
    | succ n ih =>
      intro i st' sv' hi hn hI
      rw [wY_resetThunks_2]
      by_cases e : i = c
      · subst e
        refine br_t (Int32.le_refl _) (h st' sv' (fun j hj z => (hI j hj).2 (Or.inr (fun w => w z))) (fun j hj z => (hI j hj).1 hj z))
      · have hic : i < c := by omega
        have vi : vp_in (nI i) 32 := vp_in_nI (by omega) (by decide)
        have cl : (nI i).toNatClampNeg = i := nI_clamp (by omega)
        refine br_f (nI_ge hic (by omega)) ⟨vi, nm_r (show K (nI i).toNatClampNeg = K i by rw [cl]) ?_⟩
        unfold wY_resetThunks_28 wY_resetThunks_40
        rw [cl]
        refine im_rs_y (hp i hic).1.1 (hp i hic).1.2 (fun hr => ⟨vi, nm_e ⟨vi, nm_e (nm_r (nI_1 i) (ih (i + 1) _ _ (by omega) (by omega) (fun j hj => ?_)))⟩⟩) (fun hr => nm_r (nI_1 i) (ih (i + 1) _ _ (by omega) (by omega) (fun j hj => ?_)))
        · by_cases ej : j = i
          · subst ej
            exact ⟨fun _ _ => ⟨pk_us, pk_us⟩, fun z => absurd z (fun w => w.elim (fun w => w (by omega)) (fun w => w hr))⟩
          · rw [pk_un ej, pk_un ej]
            exact ⟨fun z => (hI j hj).1 (by omega), fun z => (hI j hj).2 (z.imp (fun w => by omega) id)⟩
        · by_cases ej : j = i
          · subst ej
            exact ⟨fun _ z => absurd z hr, fun _ => (hI j hj).2 (Or.inr hr)⟩
          · exact ⟨fun z => (hI j hj).1 (by omega), fun z => (hI j hj).2 (z.imp (fun w => by omega) id)⟩
  exact ⟨c + 1, key (c + 1) 0 st sv (by omega) (by omega) (fun j _ => ⟨fun z => absurd z (Nat.not_lt_zero _), fun _ => ⟨rfl, rfl⟩⟩)⟩
/-! the denotations -/
theorem yl_85 {post : SY → Prop} {J : _} (hc : c ≤ 32) (x1 : Int32) (h0 : (∀ j, j < c → nk j = dk j ∧ nv j = dv j) → post (cap, nI c, scr, yp, lo, le, lv, sp, rk, rv, tk, tv, K, A, B, C, st, sv, act, fN, fP, fB, fK, fV, im_fl dk nk c, im_fl dv nv c, nk, nv)) (h1 : J (x1 + 1) cap (nI c) scr yp lo le lv sp rk rv tk tv K A B C st sv act fN fP fB fK fV (im_fl dk nk c) (im_fl dv nv c) nk nv) : ∃ n, wY_computeDen_85 post J x1 cap (nI c) scr yp lo le lv sp rk rv tk tv n 0 0 K A B C st sv act fN fP fB fK fV dk dv nk nv := by
  have key : ∀ (n i : Nat) (z : Int32), i ≤ c → c - i < n → (z = 0 → ∀ j, j < i → nk j = dk j ∧ nv j = dv j) → wY_computeDen_85 post J x1 cap (nI c) scr yp lo le lv sp rk rv tk tv n z (nI i) K A B C st sv act fN fP fB fK fV (im_fl dk nk i) (im_fl dv nv i) nk nv := by
    intro n
    induction n with
    | zero => intro i z _ hn; omega
    | succ n ih =>
      intro i z hi hn hz
      rw [wY_computeDen_85]
      by_cases e : i = c
      · subst e
        exact br_t (Int32.le_refl _) (br_c (fun z0 => h0 (hz z0)) (fun _ => nm_e h1))
      · have hic : i < c := by omega
        have vi : vp_in (nI i) 32 := vp_in_nI (by omega) (by decide)
        have cl : (nI i).toNatClampNeg = i := nI_clamp (by omega)
        have ek : im_fl dk nk i i = dk i := im_fl_ge (by omega)
        have ev : im_fl dv nv i i = dv i := im_fl_ge (by omega)
        have s125 : ∀ w : Int32, (w = 0 → ∀ j, j < i + 1 → nk j = dk j ∧ nv j = dv j) → wY_computeDen_125 post J (wY_computeDen_85 post J x1 cap (nI c) scr yp lo le lv sp rk rv tk tv n) x1 w (nI i) cap (nI c) scr yp lo le lv sp rk rv tk tv K A B C st sv act fN fP fB fK fV (im_fl dk nk i) (im_fl dv nv i) nk nv := by
          intro w hw
          unfold wY_computeDen_125
          exact ⟨vi, vi, nm_r (show _ = im_fl dk nk (i + 1) by rw [cl]; exact im_flU dk nk i) ⟨vi, vi, nm_r (show _ = im_fl dv nv (i + 1) by rw [cl]; exact im_flU dv nv i) (nm_r (nI_1 i) (ih (i + 1) w (by omega) (by omega) hw))⟩⟩
        have s123 : wY_computeDen_123 post J (wY_computeDen_85 post J x1 cap (nI c) scr yp lo le lv sp rk rv tk tv n) x1 (nI i) cap (nI c) scr yp lo le lv sp rk rv tk tv K A B C st sv act fN fP fB fK fV (im_fl dk nk i) (im_fl dv nv i) nk nv := by
          unfold wY_computeDen_123
          exact s125 1 (fun w => absurd w (by decide))
        refine br_f (nI_ge hic (by omega)) ⟨vi, vi, br_c (fun wk => ⟨vi, vi, br_c (fun wv => s125 z (fun z0 j hj => ?_)) (fun _ => s123)⟩) (fun _ => s123)⟩
        rw [cl, ek] at wk
        rw [cl, ev] at wv
        by_cases ej : j = i
        · subst ej; exact ⟨wk, wv⟩
        · exact hz z0 j (by omega)
  have q := key (c + 1) 0 0 (by omega) (by omega) (fun _ j hj => absurd hj (Nat.not_lt_zero _))
  rw [im_fl0, im_fl0, nI_0] at q
  exact ⟨_, q⟩
theorem yl_42 {post : SY → Prop} {J : _} (hc : c ≤ 32) (hp : im_Pr c K A B C) {d : Nat → Int32 × Int32} (hd : ∀ j, j < c → d j = (dk j, dv j)) (hw : ∀ j, j < c → im_wf c K (d j)) (x1 : Int32)
    (h : ∀ tk' tv' : Int32, ∃ n, wY_computeDen_85 post J x1 cap (nI c) scr yp lo le lv sp rk rv tk' tv' n 0 0 K A B C st sv act fN fP fB fK fV dk dv (im_fl nk (fun j => (im_dq c K A B C d j).1) c) (im_fl nv (fun j => (im_dq c K A B C d j).2) c)) : ∃ n, wY_computeDen_42 post J x1 n 0 cap (nI c) scr yp lo le lv sp rk rv tk tv K A B C st sv act fN fP fB fK fV dk dv nk nv := by
  have key : ∀ (n i : Nat) (tk tv : Int32), i ≤ c → c - i < n → wY_computeDen_42 post J x1 n (nI i) cap (nI c) scr yp lo le lv sp rk rv tk tv K A B C st sv act fN fP fB fK fV dk dv (im_fl nk (fun j => (im_dq c K A B C d j).1) i) (im_fl nv (fun j => (im_dq c K A B C d j).2) i) := by
    intro n
    induction n with
    | zero => intro i tk tv _ hn; omega
    | succ n ih =>
      intro i tk tv hi hn
      rw [wY_computeDen_42]
      by_cases e : i = c
      · subst e
        exact br_t (Int32.le_refl _) (h tk tv)
      · have hic : i < c := by omega
        have vi : vp_in (nI i) 32 := vp_in_nI (by omega) (by decide)
        have cl : (nI i).toNatClampNeg = i := nI_clamp (by omega)
        refine br_f (nI_ge hic (by omega)) (yo_den hc hp hd hw hic ⟨vi, nm_r (show _ = im_fl nk (fun j => (im_dq c K A B C d j).1) (i + 1) by rw [cl]; exact im_flU nk (fun j => (im_dq c K A B C d j).1) i) ⟨vi, nm_r (show _ = im_fl nv (fun j => (im_dq c K A B C d j).2) (i + 1) by rw [cl]; exact im_flU nv (fun j => (im_dq c K A B C d j).2) i) (nm_r (nI_1 i) (ih (i + 1) _ _ (by omega) (by omega)))⟩⟩)
  have q := key (c + 1) 0 tk tv (by omega) (by omega)
  rw [im_fl0, im_fl0, nI_0] at q
  exact ⟨_, q⟩
theorem yl_rounds {post : SY → Prop} (hc : c ≤ 32) (hp : im_Pr c K A B C) (h : ∀ (dk' dv' nk' nv' : Nat → Int32) (tk' tv' : Int32), (∀ j, j < c → im_it c K A B C 1024 j = (dk' j, dv' j)) → post (cap, nI c, scr, yp, lo, le, lv, sp, rk, rv, tk', tv', K, A, B, C, st, sv, act, fN, fP, fB, fK, fV, dk', dv', nk', nv')) :
    ∀ (n r : Nat) (dk dv nk nv : Nat → Int32) (tk tv : Int32), r ≤ 2048 → 2048 - r < n → (∀ j, j < c → im_it c K A B C r j = (dk j, dv j)) → wY_computeDen_33 post n (nI r) cap (nI c) scr yp lo le lv sp rk rv tk tv K A B C st sv act fN fP fB fK fV dk dv nk nv := by
  intro n
  induction n with
  | zero => intro r dk dv nk nv tk tv _ hn; omega
  | succ n ih =>
    intro r dk dv nk nv tk tv hr hn hd
    rw [wY_computeDen_33]
    by_cases e : r = 2048
    · subst e
      refine br_t (Int32.le_refl _) (h dk dv nk nv tk tv (fun j hj => ?_))
      rw [← im_it_fin hc hp (Or.inr (show 1024 ≤ 2048 by omega))]
      exact hd j hj
    · have hnew : ∀ j, j < c → im_it c K A B C (r + 1) j = (im_fl dk (im_fl nk (fun j => (im_dq c K A B C (im_it c K A B C r) j).1) c) c j, im_fl dv (im_fl nv (fun j => (im_dq c K A B C (im_it c K A B C r) j).2) c) c j) := by
        intro j hj
        rw [im_fl_lt hj, im_fl_lt hj, im_fl_lt hj, im_fl_lt hj]
        show im_J c K A B C (im_it c K A B C r) j = _
        unfold im_J
        rw [if_pos hj]
      refine br_f (nI_ge (b := 2048) (by omega) (by decide)) (yl_42 hc hp hd (fun j _ => im_it_wf (by omega) hp r j) (nI r) (fun tk' tv' => yl_85 hc (nI r) (fun hs => ?_) ?_))
      · refine h _ _ _ _ _ _ (fun j hj => ?_)
        have e2 : im_it c K A B C (r + 1) = im_it c K A B C r := by
          funext j
          by_cases hj : j < c
          · rw [hnew j hj, hd j hj]
            exact Prod.ext ((im_fl_lt hj).trans (hs j hj).1) ((im_fl_lt hj).trans (hs j hj).2)
          · rw [im_it_out _ _ hj, im_it_out _ _ hj]
        rw [← hnew j hj, e2, im_it_fin hc hp (Or.inl e2)]
      · rw [nI_1]
        exact ih (r + 1) _ _ _ _ _ _ (by omega) (by omega) hnew
theorem yl_den {post : SY → Prop} (hc : c ≤ 32) (hp : im_Pr c K A B C) (h : ∀ (dk' dv' nk' nv' : Nat → Int32) (tk' tv' : Int32), (∀ j, j < c → im_it c K A B C 1024 j = (dk' j, dv' j)) → post (cap, nI c, scr, yp, lo, le, lv, sp, rk, rv, tk', tv', K, A, B, C, st, sv, act, fN, fP, fB, fK, fV, dk', dv', nk', nv')) : wpY_computeDen post (cap, nI c, scr, yp, lo, le, lv, sp, rk, rv, tk, tv, K, A, B, C, st, sv, act, fN, fP, fB, fK, fV, dk, dv, nk, nv) := by
  have q := im_lp0 (W := fun n i => wY_computeDen_2 post cap (nI c) scr yp lo le lv sp rk rv tk tv n (nI i) K A B C st sv act fN fP fB fK fV (im_fl dk (fun _ => 3) i) (im_fl dv (fun _ => 65534) i) nk nv) c
    (fun n => by
      rw [wY_computeDen_2]
      refine br_t (Int32.le_refl _) ⟨2049, ?_⟩
      have w := yl_rounds (cap := cap) (scr := scr) (lo := lo) (le := le) (lv := lv) (st := st) (sv := sv) (act := act) (yp := yp) (fN := fN) (fP := fP) (fB := fB) (fK := fK) (fV := fV) (sp := sp) (rk := rk) (rv := rv) hc hp h 2049 0 (im_fl dk (fun _ => 3) c) (im_fl dv (fun _ => 65534) c) nk nv tk tv (by omega) (by omega) (fun j hj => by rw [im_fl_lt hj, im_fl_lt hj]; rfl)
      rw [nI_0] at w
      exact w)
    (fun n i hi ih => by
      rw [wY_computeDen_2]
      exact br_f (nI_ge hi (by omega)) ⟨vp_in_nI (by omega) (by decide), nm_r (show _ = im_fl dk (fun _ => 3) (i + 1) by rw [nI_clamp (by omega)]; exact im_flU dk (fun _ => 3) i) ⟨vp_in_nI (by omega) (by decide), nm_r (show _ = im_fl dv (fun _ => 65534) (i + 1) by rw [nI_clamp (by omega)]; exact im_flU dv (fun _ => 65534) i) (nm_r (nI_1 i) ih)⟩⟩)
  rw [im_fl0, im_fl0, nI_0] at q
  exact q
/-! the active marks cleared -/
theorem yl_109 {post : Int32 → SY → Prop} (h3 : rk = 3 → post 3 (cap, nI c, scr, yp, 3, rv, 0, 0, rk, rv, tk, tv, K, A, B, C, st, sv, im_fl act (fun _ => 0) 32, fN, fP, fB, fK, fV, dk, dv, nk, nv)) (hn : ¬ rk = 3 → post rk (cap, nI c, scr, yp, rk, 0, rv, 0, rk, rv, tk, tv, K, A, B, C, st, sv, im_fl act (fun _ => 0) 32, fN, fP, fB, fK, fV, dk, dv, nk, nv)) : ∃ n, wY_run_109 post cap (nI c) scr yp lo le lv sp rk rv tk tv n 0 K A B C st sv act fN fP fB fK fV dk dv nk nv := by
  have q := im_lp0 (W := fun n i => wY_run_109 post cap (nI c) scr yp lo le lv sp rk rv tk tv n (nI i) K A B C st sv (im_fl act (fun _ => 0) i) fN fP fB fK fV dk dv nk nv) 32
    (fun n => by
      rw [wY_run_109]
      exact br_t (Int32.le_refl _) (br_c h3 hn))
    (fun n i hi ih => by
      rw [wY_run_109]
      exact br_f (nI_ge (b := 32) hi (by decide)) ⟨vp_in_nI hi (by decide), nm_r (show _ = im_fl act (fun _ => 0) (i + 1) by rw [nI_clamp (by omega), im_vb0]; exact im_flU act (fun _ => 0) i) (nm_r (nI_1 i) ih)⟩)
  rw [im_fl0, nI_0] at q
  exact q
theorem yl_26 {post : Int32 → SY → Prop} (r : Int32) (h : wpY_demand (fun u => match u with | (cap, cn, scr, yp, lo, le, lv, sp, rk, rv, tk, tv, K, A, B, C, st, sv, act, fN, fP, fB, fK, fV, dk, dv, nk, nv) => ∃ n52 : Nat, wY_run_52 post n52 0 cap cn scr yp lo le lv sp rk rv tk tv K A B C st sv act fN fP fB fK fV dk dv nk nv) (cap, nI c, scr, yp, lo, le, lv, sp, rk, rv, tk, tv, K, A, B, C, st, sv, im_fl act (fun _ => 0) 32, fN, fP, fB, fK, fV, dk, dv, nk, nv) r) : ∃ n, wY_run_26 post r cap (nI c) scr yp lo le lv sp rk rv tk tv n 0 K A B C st sv act fN fP fB fK fV dk dv nk nv := by
  have q := im_lp0 (W := fun n i => wY_run_26 post r cap (nI c) scr yp lo le lv sp rk rv tk tv n (nI i) K A B C st sv (im_fl act (fun _ => 0) i) fN fP fB fK fV dk dv nk nv) 32
    (fun n => by
      rw [wY_run_26]
      exact br_t (Int32.le_refl _) h)
    (fun n i hi ih => by
      rw [wY_run_26]
      exact br_f (nI_ge (b := 32) hi (by decide)) ⟨vp_in_nI hi (by decide), nm_r (show _ = im_fl act (fun _ => 0) (i + 1) by rw [nI_clamp (by omega), im_vb0]; exact im_flU act (fun _ => 0) i) (nm_r (nI_1 i) ih)⟩)
  rw [im_fl0, nI_0] at q
  exact q
end
