/-! both machines in step -/
def im_CB (c : Nat) (K A : Nat → Int32) (sX : Nat → Int64) (inn : Int32) (dem stg rf : Nat → Int32) (eo : Nat → Int64) (xp : Int32) (ans : Int64) (st sv act : Nat → Int32) (yp : Int32) (fN fP fB fK fV : Nat → Int32) (sp rk rv : Int32) (m : Nat) : Prop :=
  im_ST c K A sX st sv ∧ im_RF c K rf ∧ (∀ i, c ≤ i → i < 32 → stg i = 0) ∧ ans = im_P rk rv ∧
  (rk = 3 ∨ (rk ≠ 3 ∧ im_mu c st stg ≤ m ∧ xp = yp ∧ ∃ s g, sp = nI s ∧ im_FL c K st fN fP fB fK fV act stg rf eo dem inn s g ∧ ((0 < s ∧ fP (s - 1) = 0) ∨ (im_vl c K (rk, rv) ∧ ∀ t, t < s → fP t ≠ 0))))
def im_CF (cap : Int32) (c : Nat) (scr la : Int64) (K A B C : Nat → Int32) (dX nX : Nat → Int64) (lo le lv tk tv : Int32) (dk dv nk nv : Nat → Int32) (m : Nat) (u : SX) (v : SY) : Prop :=
  ∃ (sX : Nat → Int64) (inn : Int32) (dem stg rf : Nat → Int32) (eo : Nat → Int64) (xp : Int32) (ans : Int64) (st sv act : Nat → Int32) (yp : Int32) (fN fP fB fK fV : Nat → Int32) (sp rk rv : Int32), u = (cap, nI c, scr, la, inn, xp, ans, K, A, B, C, sX, dX, nX, dem, stg, rf, eo) ∧ v = (cap, nI c, scr, yp, lo, le, lv, sp, rk, rv, tk, tv, K, A, B, C, st, sv, act, fN, fP, fB, fK, fV, dk, dv, nk, nv) ∧ im_CB c K A sX inn dem stg rf eo xp ans st sv act yp fN fP fB fK fV sp rk rv m
section
variable {cap : Int32} {c : Nat} {scr la : Int64} {K A B C : Nat → Int32} {dX nX : Nat → Int64} {lo le lv tk tv : Int32} {dk dv nk nv : Nat → Int32} {sX : Nat → Int64} {inn : Int32} {dem stg rf : Nat → Int32} {eo : Nat → Int64} {xp : Int32} {ans : Int64} {st sv act : Nat → Int32} {yp : Int32} {fN fP fB fK fV : Nat → Int32} {sp rk rv : Int32} {s : Nat} {g : Nat → Nat} {m : Nat}
/-- a demand: one answer for both, or both enter -/
theorem im_dem (hc : c ≤ 32) (hST : im_ST c K A sX st sv) (hRF : im_RF c K rf) (hSG : ∀ i, c ≤ i → i < 32 → stg i = 0) (hm : im_mu c st stg ≤ m)
    (hFL : im_FL c K st fN fP fB fK fV act stg rf eo dem inn s g) (hP : ∀ t, t < s → fP t ≠ 0) (r : Int32) :
    ∃ u v, im_CF cap c scr la K A B C dX nX lo le lv tk tv dk dv nk nv m u v ∧ (∀ post : SX → Prop, post u → wpX_demand post (cap, nI c, scr, la, inn, xp, ans, K, A, B, C, sX, dX, nX, dem, stg, rf, eo) r) ∧ (∀ post : SY → Prop, post v → wpY_demand post (cap, nI c, scr, xp, lo, le, lv, nI s, rk, rv, tk, tv, K, A, B, C, st, sv, act, fN, fP, fB, fK, fV, dk, dv, nk, nv) r) := by
  rcases pk_ix r (show c < 2 ^ 31 by omega) with z | z | ⟨j, hj, rfl⟩
  · exact ⟨_, _, ⟨_, _, _, _, _, _, _, _, _, _, _, _, _, _, _, _, _, _, _, _, rfl, rfl, hST, hRF, hSG, rfl, Or.inl rfl⟩, fun _ hp => xd_miss hc (Or.inl z) hp, fun _ hp => yd_miss hc (Or.inl z) hp⟩
  · exact ⟨_, _, ⟨_, _, _, _, _, _, _, _, _, _, _, _, _, _, _, _, _, _, _, _, rfl, rfl, hST, hRF, hSG, rfl, Or.inl rfl⟩, fun _ hp => xd_miss hc (Or.inr z) hp, fun _ hp => yd_miss hc (Or.inr z) hp⟩
  · obtain ⟨h1, h2, h3, h4, h5⟩ := hST j hj
    rcases h2 with ⟨e3, e0⟩ | hv
    · by_cases k1 : K j = 1
      · exact ⟨_, _, ⟨_, _, _, _, _, _, _, _, _, _, _, _, _, _, _, _, _, _, _, _, rfl, rfl, hST, hRF, hSG, rfl, Or.inl rfl⟩, fun _ hp => xd_raise hc hj (by rw [h1, e3]) k1 hp, fun _ hp => yd_raise hc hj e3 k1 hp⟩
      · have k0 : K j ≠ 0 := fun z => absurd ((h3 z).1.symm.trans e3) (by decide)
        have k9 : K j ≠ 9 := fun z => absurd ((h4 z).1.symm.trans e3) (by decide)
        rcases hFL.2.2.1 j (by omega) with ⟨hs, ha⟩ | ⟨ha, t, ht, et⟩
        · have hroom := im_FL_room hFL (show j < 32 by omega) ha
          have hF2 := im_FL_push hFL hc hj hs ha hP ⟨e3, k0, k1, k9⟩
          refine ⟨_, _, ⟨_, _, _, _, _, _, _, _, _, _, _, _, _, _, _, _, _, _, _, _, rfl, rfl, hST, hRF, ?_, im_P00.symm, Or.inr ⟨by decide, ?_, rfl, s + 1, _, rfl, hF2, Or.inl ⟨by omega, pk_us⟩⟩⟩, fun _ hp => xd_enter hc hj (by rw [h1, e3]) k1 hs hp, fun _ hp => yd_enter hc hj e3 k1 ha hroom hp⟩
          · intro i hi hi2
            rw [pk_un (by omega)]
            exact hSG i hi hi2
          · refine Nat.le_trans (Nat.le_of_lt (im_mu_lt j hj (fun i hi => ⟨rfl, pk_un hi⟩) ?_)) hm
            unfold im_w
            rw [pk_us, hs, e3]
            decide
        · have hs : stg j ≠ 0 := et ▸ im_FR_stg (hFL.1 t ht).2
          exact ⟨_, _, ⟨_, _, _, _, _, _, _, _, _, _, _, _, _, _, _, _, _, _, _, _, rfl, rfl, hST, hRF, hSG, rfl, Or.inl rfl⟩, fun _ hp => xd_loop hc hj (by rw [h1, e3]) k1 hs hp, fun _ hp => yd_loop hc hj e3 k1 (by rw [ha]; decide) hp⟩
    · have hn3 : st j ≠ 3 := im_wf_ne hv
      have hv12 : st j = 1 ∨ st j = 2 := hv.imp id (fun z => z.1)
      exact ⟨_, _, ⟨_, _, _, _, _, _, _, _, _, _, _, _, _, _, _, _, _, _, _, _, rfl, rfl, hST, hRF, hSG, rfl, Or.inr ⟨hn3, hm, rfl, s, g, rfl, hFL, Or.inr ⟨hv, hP⟩⟩⟩, fun _ hp => xd_val hc hj h1 hn3 hp, fun _ hp => yd_val hc hj hv12 hp⟩
end
