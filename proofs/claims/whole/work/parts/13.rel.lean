/-! the relation, and what the calls need of it -/
def i_Rel (_ : Nat) (u : SX) (v : SY) : Prop :=
  ∃ (p c : Nat) (scr la : Int64) (K A B C : Nat → Int32) (dX nX sX : Nat → Int64) (inn : Int32) (dem stg rf : Nat → Int32) (eo : Nat → Int64) (xp : Int32) (ans : Int64) (st sv act : Nat → Int32) (yp : Int32) (fN fP fB fK fV : Nat → Int32) (sp rk rv lo le lv tk tv : Int32) (dk dv nk nv : Nat → Int32),
    u = (nI p, nI c, scr, la, inn, xp, ans, K, A, B, C, sX, dX, nX, dem, stg, rf, eo) ∧ v = (nI p, nI c, scr, yp, lo, le, lv, sp, rk, rv, tk, tv, K, A, B, C, st, sv, act, fN, fP, fB, fK, fV, dk, dv, nk, nv) ∧ im_IV p c la K A B C sX dX stg rf st sv lo le lv
theorem i_up {k : Nat} {u : SX} {v : SY} (h : i_Rel k u v) : i_Rel (k + 5) u v := h
theorem im_IV0 {p : Nat} (h8 : 8 ≤ p) (h32 : p ≤ 32) : im_IV p 0 0 (fun _ => 0) (fun _ => 0) (fun _ => 0) (fun _ => 0) (fun _ => 0) (fun _ => 0) (fun _ => 0) (fun _ => 0) (fun _ => 0) (fun _ => 0) 0 0 0 :=
  ⟨⟨h8, h32, Nat.zero_le _⟩, fun i hi => absurd hi (Nat.not_lt_zero _), fun i hi => absurd hi (Nat.not_lt_zero _), fun i _ => Or.inl rfl, fun i _ => rfl, ⟨0, 0, im_P00.symm, rfl, (if_neg (by decide)).symm, (if_neg (by decide)).symm⟩, fun j hj => absurd hj (Nat.not_lt_zero _)⟩
theorem i_vc0 (k0 : Int32) : wpX_init (fun u => wpY_init (fun v => i_Rel 1 u v) k0) k0 := by
  unfold wpX_init wpY_init
  by_cases h8 : 8 ≤ k0
  · refine br_t h8 ?_
    by_cases h32 : k0 ≤ 32
    · refine br_t h32 (br_t h8 (br_t h32 ?_))
      have h0 : ¬ k0 < 0 := fun z => Int32.lt_irrefl (Int32.lt_of_lt_of_le z (Int32.le_trans (show (0 : Int32) ≤ 8 by decide) h8))
      obtain ⟨j, hj, rfl⟩ := nI_of h0
      have a : 8 ≤ j := (nI_leI (a := 8) (by decide) hj).mp h8
      have b : j ≤ 32 := (nI_leI (b := 32) hj (by decide)).mp h32
      exact ⟨j, 0, 0, 0, _, _, _, _, _, _, _, _, _, _, _, _, _, _, _, _, _, _, _, _, _, _, _, _, _, _, _, _, _, _, _, _, _, _, _, rfl, rfl, im_IV0 a b⟩
    · refine br_f h32 (br_t h8 (br_f h32 ?_))
      exact ⟨32, 0, 0, 0, _, _, _, _, _, _, _, _, _, _, _, _, _, _, _, _, _, _, _, _, _, _, _, _, _, _, _, _, _, _, _, _, _, _, _, rfl, rfl, im_IV0 (by omega) (by omega)⟩
  · refine br_f h8 (br_f h8 ?_)
    exact ⟨8, 0, 0, 0, _, _, _, _, _, _, _, _, _, _, _, _, _, _, _, _, _, _, _, _, _, _, _, _, _, _, _, _, _, _, _, _, _, _, _, rfl, rfl, im_IV0 (by omega) (by omega)⟩
theorem yq_out {c : Nat} {r : Int32} {P Q : Prop} (hr : r < 0 ∨ nI c ≤ r) (h : P) : (r < 0 → P) ∧ (¬ r < 0 → ((r < nI c → Q) ∧ (¬ r < nI c → P))) := by
  by_cases z : r < 0
  · exact br_t z h
  · exact br_f z (br_f (Int32.not_lt.mpr (hr.resolve_left z)) h)
theorem yq_in {c j : Nat} (hc : c ≤ 32) (hj : j < c) {P Q : Prop} (h : Q) : (nI j < 0 → P) ∧ (¬ nI j < 0 → ((nI j < nI c → Q) ∧ (¬ nI j < nI c → P))) := br_f (nI_pos (by omega)) (br_t (nI_lt hj (by omega)) h)
/-! a node is taken or refused -/
def im_us (k : Int32) : Int32 := if k = 0 then 0 else if k = 1 then 0 else if k = 10 then 1 else if k = 11 then 1 else if k = 7 then 3 else 2
def im_rf (p : Nat) (x : Int32) : Prop := ¬ x < 0 ∧ ¬ nI p ≤ x
def im_acc (p c : Nat) (k a b d : Int32) : Prop := c < p ∧ (0 ≤ k ∧ k ≤ 11) ∧ (k = 1 → 5 ≤ a ∧ a ≤ 15) ∧ (im_us k < 1 ∨ im_rf p a) ∧ (im_us k < 2 ∨ im_rf p b) ∧ (im_us k < 3 ∨ im_rf p d)
theorem im_rf_ne {p : Nat} {x : Int32} (h : im_rf p x) : x ≠ -1 := fun z => h.1 (by rw [z]; decide)
theorem im_acc_ok {p c : Nat} {k a b d : Int32} (h : im_acc p c k a b d) : im_ok k a b d := by
  obtain ⟨_, h1, h2, h3, h4, h5⟩ := h
  refine ⟨h1, h2, fun k0 k1 => ?_, fun k0 k1 k10 k11 => ?_, fun k7 => ?_⟩
  · refine im_rf_ne (h3.resolve_left ?_)
    unfold im_us
    rw [if_neg k0, if_neg k1]
    repeat' split
    all_goals decide
  · refine im_rf_ne (h4.resolve_left ?_)
    unfold im_us
    rw [if_neg k0, if_neg k1, if_neg k10, if_neg k11]
    repeat' split
    all_goals decide
  · refine im_rf_ne (h5.resolve_left ?_)
    rw [k7]; decide
section
variable {p c : Nat} {scr la : Int64} {K A B C : Nat → Int32} {dX nX : Nat → Int64} {sX : Nat → Int64} {inn : Int32} {dem stg rf : Nat → Int32} {eo : Nat → Int64} {xp : Int32} {ans : Int64}
theorem xo_isRef {post : Int32 → Prop} {x : Int32} (h1 : im_rf p x → post 1) (h0 : ¬ im_rf p x → post 0) : wpX_isReference post (nI p, nI c, scr, la, inn, xp, ans, K, A, B, C, sX, dX, nX, dem, stg, rf, eo) x := by
  unfold wpX_isReference
  exact br_c (fun z => h0 (fun w => w.1 z)) (fun z => br_c (fun w => h0 (fun q => q.2 w)) (fun w => h1 ⟨z, w⟩))
theorem xo_used {post : Int32 → Prop} {k : Int32} (h0 : 0 ≤ k) (h11 : k ≤ 11) (h : post (im_us k)) : wpX_referencesUsed post k := by
  unfold wpX_referencesUsed
  refine br_f (Int32.not_lt.mpr h0) (br_f (Int32.not_lt.mpr h11) ?_)
  refine br_c (fun e => ?_) (fun _ => br_c (fun e => ?_) (fun _ => br_c (fun e => ?_) (fun _ => br_c (fun e => ?_) (fun _ => br_c (fun e => ?_) (fun _ => br_c (fun e => ?_) (fun _ => br_c (fun e => ?_) (fun _ => br_c (fun e => ?_) (fun _ => br_c (fun e => ?_) (fun _ => br_c (fun e => ?_) (fun _ => br_c (fun e => ?_) (fun _ => br_c (fun e => ?_) (fun _ => trivial))))))))))))
  · rw [e, show im_us 0 = 0 by decide] at h; exact h
  · rw [e, show im_us 1 = 0 by decide] at h; exact h
  · rw [e, show im_us 2 = 2 by decide] at h; exact h
  · rw [e, show im_us 3 = 2 by decide] at h; exact h
  · rw [e, show im_us 4 = 2 by decide] at h; exact h
  · rw [e, show im_us 5 = 2 by decide] at h; exact h
  · rw [e, show im_us 6 = 2 by decide] at h; exact h
  · rw [e, show im_us 7 = 3 by decide] at h; exact h
  · rw [e, show im_us 8 = 2 by decide] at h; exact h
  · rw [e, show im_us 9 = 2 by decide] at h; exact h
  · rw [e, show im_us 10 = 1 by decide] at h; exact h
  · rw [e, show im_us 11 = 1 by decide] at h; exact h
theorem xo_41 {post : Int32 → Prop} {k a b d : Int32} (hk : 0 ≤ k ∧ k ≤ 11) (h1 : ¬ ((im_us k < 1 ∨ im_rf p a) ∧ (im_us k < 2 ∨ im_rf p b) ∧ (im_us k < 3 ∨ im_rf p d)) → post 1) (h0 : ((im_us k < 1 ∨ im_rf p a) ∧ (im_us k < 2 ∨ im_rf p b) ∧ (im_us k < 3 ∨ im_rf p d)) → post 0) : wX_refusesNode_41 post k a b d (nI p) (nI c) scr la inn xp ans K A B C sX dX nX dem stg rf eo := by
  have s3 : (im_us k < 1 ∨ im_rf p a) → (im_us k < 2 ∨ im_rf p b) → wX_refusesNode_75 post d (im_us k) (nI p) (nI c) scr la inn xp ans K A B C sX dX nX dem stg rf eo := by
    intro ha hb
    unfold wX_refusesNode_75
    exact br_c (fun z => h0 ⟨ha, hb, Or.inl z⟩) (fun z => xo_isRef (fun w => br_f (by decide) (h0 ⟨ha, hb, Or.inr w⟩)) (fun w => br_t rfl (h1 (fun q => q.2.2.elim z w))))
  have s2 : (im_us k < 1 ∨ im_rf p a) → wX_refusesNode_61 post b d (im_us k) (nI p) (nI c) scr la inn xp ans K A B C sX dX nX dem stg rf eo := by
    intro ha
    unfold wX_refusesNode_61
    exact br_c (fun z => s3 ha (Or.inl z)) (fun z => xo_isRef (fun w => br_f (by decide) (s3 ha (Or.inr w))) (fun w => br_t rfl (h1 (fun q => q.2.1.elim z w))))
  unfold wX_refusesNode_41
  exact xo_used hk.1 hk.2 (br_c (fun z => s2 (Or.inl z)) (fun z => xo_isRef (fun w => br_f (by decide) (s2 (Or.inr w))) (fun w => br_t rfl (h1 (fun q => q.1.elim z w)))))
theorem xo_refuses {post : Int32 → Prop} (hp : p ≤ 32) (hc : c ≤ p) {k a b d : Int32} (h1 : ¬ im_acc p c k a b d → post 1) (h0 : im_acc p c k a b d → post 0) : wpX_refusesNode post (nI p, nI c, scr, la, inn, xp, ans, K, A, B, C, sX, dX, nX, dem, stg, rf, eo) k a b d := by
  unfold wpX_refusesNode
  refine br_c (fun z => h1 (fun w => nI_ge w.1 (by omega) z)) (fun z => ?_)
  have hcp : c < p := by
    apply Classical.byContradiction
    intro w
    exact z (nI_le (by omega) (by omega))
  refine br_c (fun z => h1 (fun w => Int32.lt_irrefl (Int32.lt_of_lt_of_le z w.2.1.1))) (fun k0 => br_c (fun k11 => ?_) (fun z => h1 (fun w => z w.2.1.2)))
  have k0 : 0 ≤ k := Int32.not_lt.mp k0
  have s41 : (k = 1 → 5 ≤ a ∧ a ≤ 15) → wX_refusesNode_41 post k a b d (nI p) (nI c) scr la inn xp ans K A B C sX dX nX dem stg rf eo := fun hr => xo_41 ⟨k0, k11⟩ (fun z => h1 (fun w => z w.2.2.2)) (fun z => h0 ⟨hcp, ⟨k0, k11⟩, hr, z⟩)
  exact br_c (fun e => br_c (fun z => h1 (fun w => Int32.lt_irrefl (Int32.lt_of_lt_of_le z (w.2.2.1 e).1))) (fun z => br_c (fun z2 => s41 (fun _ => ⟨Int32.not_lt.mp z, z2⟩)) (fun z2 => h1 (fun w => z2 (w.2.2.1 e).2)))) (fun e => s41 (fun w => absurd w e))
end
section
variable {p c : Nat} {scr : Int64} {K A B C : Nat → Int32} {lo le lv tk tv : Int32} {dk dv nk nv : Nat → Int32} {st sv act : Nat → Int32} {yp : Int32} {fN fP fB fK fV : Nat → Int32} {sp rk rv : Int32}
theorem yo_isRef {post : Int32 → Prop} {x : Int32} (h1 : im_rf p x → post 1) (h0 : ¬ im_rf p x → post 0) : wpY_isRef post (nI p, nI c, scr, yp, lo, le, lv, sp, rk, rv, tk, tv, K, A, B, C, st, sv, act, fN, fP, fB, fK, fV, dk, dv, nk, nv) x := by
  unfold wpY_isRef
  exact br_c (fun z => h0 (fun w => w.1 z)) (fun z => br_c (fun w => h0 (fun q => q.2 w)) (fun w => h1 ⟨z, w⟩))
theorem yo_used {post : Int32 → Prop} {cap : Int32} {k : Int32} (h : post (im_us k)) : wpY_refsUsed post (cap, nI c, scr, yp, lo, le, lv, sp, rk, rv, tk, tv, K, A, B, C, st, sv, act, fN, fP, fB, fK, fV, dk, dv, nk, nv) k := by
  unfold wpY_refsUsed
  unfold im_us at h
  refine br_c (fun e => ?_) (fun e0 => br_c (fun e => ?_) (fun e1 => br_c (fun e => ?_) (fun e10 => br_c (fun e => ?_) (fun e11 => br_c (fun e => ?_) (fun e7 => ?_)))))
  · rw [if_pos e] at h; exact h
  · rw [if_neg e0, if_pos e] at h; exact h
  · rw [if_neg e0, if_neg e1, if_pos e] at h; exact h
  · rw [if_neg e0, if_neg e1, if_neg e10, if_pos e] at h; exact h
  · rw [if_neg e0, if_neg e1, if_neg e10, if_neg e11, if_pos e] at h; exact h
  · rw [if_neg e0, if_neg e1, if_neg e10, if_neg e11, if_neg e7] at h; exact h
theorem yo_43 {post : Int32 → SY → Prop} {k a b d : Int32} (h1 : ¬ ((im_us k < 1 ∨ im_rf p a) ∧ (im_us k < 2 ∨ im_rf p b) ∧ (im_us k < 3 ∨ im_rf p d)) → post (-1) (nI p, nI c, scr, yp, lo, le, lv, sp, rk, rv, tk, tv, K, A, B, C, st, sv, act, fN, fP, fB, fK, fV, dk, dv, nk, nv)) (h0 : ((im_us k < 1 ∨ im_rf p a) ∧ (im_us k < 2 ∨ im_rf p b) ∧ (im_us k < 3 ∨ im_rf p d)) → wY_addNode_99 post k a b d (nI p) (nI c) scr yp lo le lv sp rk rv tk tv K A B C st sv act fN fP fB fK fV dk dv nk nv) : wY_addNode_43 post k a b d (nI p) (nI c) scr yp lo le lv sp rk rv tk tv K A B C st sv act fN fP fB fK fV dk dv nk nv := by
  have s3 : (im_us k < 1 ∨ im_rf p a) → (im_us k < 2 ∨ im_rf p b) → wY_addNode_82 post k a b d (im_us k) (nI p) (nI c) scr yp lo le lv sp rk rv tk tv K A B C st sv act fN fP fB fK fV dk dv nk nv := by
    intro ha hb
    unfold wY_addNode_82
    exact br_c (fun z => h0 ⟨ha, hb, Or.inl z⟩) (fun z => yo_isRef (fun w => br_f (by decide) (h0 ⟨ha, hb, Or.inr w⟩)) (fun w => br_t rfl (h1 (fun q => q.2.2.elim z w))))
  have s2 : (im_us k < 1 ∨ im_rf p a) → wY_addNode_66 post k a b d (im_us k) (nI p) (nI c) scr yp lo le lv sp rk rv tk tv K A B C st sv act fN fP fB fK fV dk dv nk nv := by
    intro ha
    unfold wY_addNode_66
    exact br_c (fun z => s3 ha (Or.inl z)) (fun z => yo_isRef (fun w => br_f (by decide) (s3 ha (Or.inr w))) (fun w => br_t rfl (h1 (fun q => q.2.1.elim z w))))
  unfold wY_addNode_43
  exact yo_used (br_c (fun z => s2 (Or.inl z)) (fun z => yo_isRef (fun w => br_f (by decide) (s2 (Or.inr w))) (fun w => br_t rfl (h1 (fun q => q.1.elim z w)))))
theorem yo_add {post : Int32 → SY → Prop} (hp : p ≤ 32) (hc : c ≤ p) {k a b d : Int32} (h1 : ¬ im_acc p c k a b d → post (-1) (nI p, nI c, scr, yp, lo, le, lv, sp, rk, rv, tk, tv, K, A, B, C, st, sv, act, fN, fP, fB, fK, fV, dk, dv, nk, nv)) (h0 : im_acc p c k a b d → wY_addNode_99 post k a b d (nI p) (nI c) scr yp lo le lv sp rk rv tk tv K A B C st sv act fN fP fB fK fV dk dv nk nv) : wpY_addNode post (nI p, nI c, scr, yp, lo, le, lv, sp, rk, rv, tk, tv, K, A, B, C, st, sv, act, fN, fP, fB, fK, fV, dk, dv, nk, nv) k a b d := by
  unfold wpY_addNode
  refine br_c (fun z => h1 (fun w => by have := (nI_eq (by omega) (by omega)).mp z; have := w.1; omega)) (fun z => ?_)
  have hcp : c < p := by
    apply Classical.byContradiction
    intro w
    exact z (by rw [show c = p by omega])
  refine br_c (fun z => h1 (fun w => Int32.lt_irrefl (Int32.lt_of_lt_of_le z w.2.1.1))) (fun k0 => br_c (fun k11 => ?_) (fun z => h1 (fun w => z w.2.1.2)))
  have k0 : 0 ≤ k := Int32.not_lt.mp k0
  have s43 : (k = 1 → 5 ≤ a ∧ a ≤ 15) → wY_addNode_43 post k a b d (nI p) (nI c) scr yp lo le lv sp rk rv tk tv K A B C st sv act fN fP fB fK fV dk dv nk nv := fun hr => yo_43 (fun z => h1 (fun w => z w.2.2.2)) (fun z => h0 ⟨hcp, ⟨k0, k11⟩, hr, z⟩)
  exact br_c (fun e => br_c (fun z => h1 (fun w => Int32.lt_irrefl (Int32.lt_of_lt_of_le z (w.2.2.1 e).1))) (fun z => br_c (fun z2 => s43 (fun _ => ⟨Int32.not_lt.mp z, z2⟩)) (fun z2 => h1 (fun w => z2 (w.2.2.1 e).2)))) (fun e => s43 (fun w => absurd w e))
theorem yo_99 {post : Int32 → SY → Prop} {cap : Int32} (hc : c < 32) {k a b d : Int32} (h : post (nI c) (cap, nI (c + 1), scr, yp, lo, le, lv, sp, rk, rv, tk, tv, upd K c k, upd A c a, upd B c b, upd C c d, upd st c (im_ik k a c).1, upd sv c (im_ik k a c).2, upd act c 0, fN, fP, fB, fK, fV, dk, dv, nk, nv)) : wY_addNode_99 post k a b d cap (nI c) scr yp lo le lv sp rk rv tk tv K A B C st sv act fN fP fB fK fV dk dv nk nv := by
  have cl : (nI c).toNatClampNeg = c := nI_clamp (by omega)
  have vc : vp_in (nI c) 32 := vp_in_nI hc (by decide)
  unfold wY_addNode_99 wY_addNode_211
  rw [cl, im_vb0, nI_1]
  refine ⟨vc, nm_e ⟨vc, nm_e ⟨vc, nm_e ⟨vc, nm_e ⟨vc, nm_e ?_⟩⟩⟩⟩⟩
  unfold im_ik at h
  by_cases h0 : k = 0
  · rw [if_pos h0] at h
    exact br_t h0 ⟨vc, nm_e ⟨vc, nm_e (nm_e h)⟩⟩
  · rw [if_neg h0] at h
    by_cases h9 : k = 9
    · rw [if_pos h9] at h
      exact br_f h0 (br_t h9 ⟨vc, nm_e ⟨vc, nm_e (nm_e h)⟩⟩)
    · rw [if_neg h9] at h
      exact br_f h0 (br_f h9 ⟨vc, nm_e ⟨vc, nm_e (nm_e h)⟩⟩)
theorem yr_87 {post : Int32 → SY → Prop} {cap : Int32} (hE : rk = 3 ∨ sp = nI 0) (h : ∃ n, wY_run_109 post cap (nI c) scr yp lo le lv sp rk rv tk tv n 0 K A B C st sv act fN fP fB fK fV dk dv nk nv) : wY_run_87 post cap (nI c) scr yp lo le lv sp rk rv tk tv K A B C st sv act fN fP fB fK fV dk dv nk nv := by
  unfold wY_run_87
  refine br_c (fun _ => h) (fun z => br_c (fun _ => h) (fun z3 => ?_))
  rcases hE with e | e
  · exact absurd e z3
  · exact absurd (by rw [e, nI_0]; decide) z
end
