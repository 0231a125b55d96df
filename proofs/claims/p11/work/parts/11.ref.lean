/-! a node is taken or refused -/
def im_us (k : Int32) : Int32 := if k = 0 then 0 else if k = 1 then 0 else if k = 10 then 1 else if k = 11 then 1 else if k = 7 then 3 else 2
def im_rf (p : Nat) (x : Int32) : Prop := ¬ x < 0 ∧ ¬ nI p ≤ x
def im_acc (p c : Nat) (k a b d : Int32) : Prop := c < p ∧ (0 ≤ k ∧ k ≤ 11) ∧ (k = 1 → 5 ≤ a ∧ a ≤ 15) ∧ (im_us k < 1 ∨ im_rf p a) ∧ (im_us k < 2 ∨ im_rf p b) ∧ (im_us k < 3 ∨ im_rf p d)
theorem im_rf_ne {p : Nat} {x : Int32} (h : im_rf p x) : x ≠ -1 := fun z => h.1 (by rw [z]; decide)
theorem im_acc_ok {p c : Nat} {k a b d : Int32} (h : im_acc p c k a b d) : im_ok k a b d := by
  obtain ⟨_, h1, h2, h3, h4, h5⟩ := h
  refine ⟨h1, h2, fun k0 k1 => ?_, fun k0 k1 k10 k11 => ?_, fun k7 => ?_⟩
  · refine im_rf_ne (h3.resolve_left ?_)
    unfold im_us
    rw [if_neg k0, if_neg k1]
    repeat' split
    all_goals decide
  · refine im_rf_ne (h4.resolve_left ?_)
    unfold im_us
    rw [if_neg k0, if_neg k1, if_neg k10, if_neg k11]
    repeat' split
    all_goals decide
  · refine im_rf_ne (h5.resolve_left ?_)
    rw [k7]; decide
section
variable {p c : Nat} {scr la : Int64} {K A B C : Nat → Int32} {dX nX : Nat → Int64} {sX : Nat → Int64} {inn : Int32} {dem stg rf : Nat → Int32} {eo : Nat → Int64} {xp : Int32} {ans : Int64}
theorem xo_isRef {post : Int32 → Prop} {x : Int32} (h1 : im_rf p x → post 1) (h0 : ¬ im_rf p x → post 0) : wpX_isReference post (nI p, nI c, scr, la, inn, xp, ans, K, A, B, C, sX, dX, nX, dem, stg, rf, eo) x := by
  unfold wpX_isReference
  exact br_c (fun z => h0 (fun w => w.1 z)) (fun z => br_c (fun w => h0 (fun q => q.2 w)) (fun w => h1 ⟨z, w⟩))
theorem xo_used {post : Int32 → Prop} {k : Int32} (h0 : 0 ≤ k) (h11 : k ≤ 11) (h : post (im_us k)) : wpX_referencesUsed post () k := by
  unfold wpX_referencesUsed
  refine br_f (Int32.not_lt.mpr h0) (br_f (Int32.not_lt.mpr h11) ?_)
  refine br_c (fun e => ?_) (fun _ => br_c (fun e => ?_) (fun _ => br_c (fun e => ?_) (fun _ => br_c (fun e => ?_) (fun _ => br_c (fun e => ?_) (fun _ => br_c (fun e => ?_) (fun _ => br_c (fun e => ?_) (fun _ => br_c (fun e => ?_) (fun _ => br_c (fun e => ?_) (fun _ => br_c (fun e => ?_) (fun _ => br_c (fun e => ?_) (fun _ => br_c (fun e => ?_) (fun _ => trivial))))))))))))
  · rw [e, show im_us 0 = 0 by decide] at h; exact h
  · rw [e, show im_us 1 = 0 by decide] at h; exact h
  · rw [e, show im_us 2 = 2 by decide] at h; exact h
  · rw [e, show im_us 3 = 2 by decide] at h; exact h
  · rw [e, show im_us 4 = 2 by decide] at h; exact h
  · rw [e, show im_us 5 = 2 by decide] at h; exact h
  · rw [e, show im_us 6 = 2 by decide] at h; exact h
  · rw [e, show im_us 7 = 3 by decide] at h; exact h
  · rw [e, show im_us 8 = 2 by decide] at h; exact h
  · rw [e, show im_us 9 = 2 by decide] at h; exact h
  · rw [e, show im_us 10 = 1 by decide] at h; exact h
  · rw [e, show im_us 11 = 1 by decide] at h; exact h
theorem xo_41 {post : Int32 → Prop} {k a b d : Int32} (hk : 0 ≤ k ∧ k ≤ 11) (h1 : ¬ ((im_us k < 1 ∨ im_rf p a) ∧ (im_us k < 2 ∨ im_rf p b) ∧ (im_us k < 3 ∨ im_rf p d)) → post 1) (h0 : ((im_us k < 1 ∨ im_rf p a) ∧ (im_us k < 2 ∨ im_rf p b) ∧ (im_us k < 3 ∨ im_rf p d)) → post 0) : wX_refusesNode_41 post k a b d (nI p) (nI c) scr la inn xp ans K A B C sX dX nX dem stg rf eo := by
  have s3 : (im_us k < 1 ∨ im_rf p a) → (im_us k < 2 ∨ im_rf p b) → wX_refusesNode_75 post d (im_us k) (nI p) (nI c) scr la inn xp ans K A B C sX dX nX dem stg rf eo := by
    intro ha hb
    unfold wX_refusesNode_75
    exact br_c (fun z => h0 ⟨ha, hb, Or.inl z⟩) (fun z => xo_isRef (fun w => br_f (by decide) (h0 ⟨ha, hb, Or.inr w⟩)) (fun w => br_t rfl (h1 (fun q => q.2.2.elim z w))))
  have s2 : (im_us k < 1 ∨ im_rf p a) → wX_refusesNode_61 post b d (im_us k) (nI p) (nI c) scr la inn xp ans K A B C sX dX nX dem stg rf eo := by
    intro ha
    unfold wX_refusesNode_61
    exact br_c (fun z => s3 ha (Or.inl z)) (fun z => xo_isRef (fun w => br_f (by decide) (s3 ha (Or.inr w))) (fun w => br_t rfl (h1 (fun q => q.2.1.elim z w))))
  unfold wX_refusesNode_41
  exact xo_used hk.1 hk.2 (br_c (fun z => s2 (Or.inl z)) (fun z => xo_isRef (fun w => br_f (by decide) (s2 (Or.inr w))) (fun w => br_t rfl (h1 (fun q => q.1.elim z w)))))
theorem xo_refuses {post : Int32 → Prop} (hp : p ≤ 32) (hc : c ≤ p) {k a b d : Int32} (h1 : ¬ im_acc p c k a b d → post 1) (h0 : im_acc p c k a b d → post 0) : wpX_refusesNode post (nI p, nI c, scr, la, inn, xp, ans, K, A, B, C, sX, dX, nX, dem, stg, rf, eo) k a b d := by
  unfold wpX_refusesNode
  refine br_c (fun z => h1 (fun w => nI_ge w.1 (by omega) z)) (fun z => ?_)
  have hcp : c < p := by
    apply Classical.byContradiction
    intro w
    exact z (nI_le (by omega) (by omega))
  refine br_c (fun z => h1 (fun w => Int32.lt_irrefl (Int32.lt_of_lt_of_le z w.2.1.1))) (fun k0 => br_c (fun k11 => ?_) (fun z => h1 (fun w => z w.2.1.2)))
  have k0 : 0 ≤ k := Int32.not_lt.mp k0
  have s41 : (k = 1 → 5 ≤ a ∧ a ≤ 15) → wX_refusesNode_41 post k a b d (nI p) (nI c) scr la inn xp ans K A B C sX dX nX dem stg rf eo := fun hr => xo_41 ⟨k0, k11⟩ (fun z => h1 (fun w => z w.2.2.2)) (fun z => h0 ⟨hcp, ⟨k0, k11⟩, hr, z⟩)
  exact br_c (fun e => br_c (fun z => h1 (fun w => Int32.lt_irrefl (Int32.lt_of_lt_of_le z (w.2.2.1 e).1))) (fun z => br_c (fun z2 => s41 (fun _ => ⟨Int32.not_lt.mp z, z2⟩)) (fun z2 => h1 (fun w => z2 (w.2.2.1 e).2)))) (fun e => s41 (fun w => absurd w e))
end
