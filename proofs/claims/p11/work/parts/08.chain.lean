/-! the active nodes: a chain of demands -/
def px_FL (c : Nat) (K st stg dem : Nat → Int32) (inn : Int32) (s : Nat) (g : Nat → Nat) : Prop :=
  (∀ t, t < s → g t < c ∧ (st (g t) = 3 ∧ K (g t) ≠ 0 ∧ K (g t) ≠ 1 ∧ K (g t) ≠ 9) ∧ (stg (g t) = 1 ∨ stg (g t) = 2 ∨ stg (g t) = 3)) ∧
  (∀ t t', t < s → t' < s → g t = g t' → t = t') ∧ (∀ i, i < 32 → stg i = 0 ∨ ∃ t, t < s ∧ g t = i) ∧
  inn = im_lk g s ∧ (∀ t, t < s → dem (g t) = im_lk g t) ∧ (∀ t, t + 1 < s → stg (g t) ≠ 1)
def px_FS (c : Nat) (K A B C stg rf : Nat → Int32) (eo : Nat → Int64) (n : Nat) (q : Int32) : Prop :=
  (stg n = 2 → q = if rf n = 0 then A n else B n) ∧
  (stg n = 3 → ∃ w : Int32 × Int32, im_vl c K w ∧ im_g c (im_D c K A B C) (if rf n = 0 then A n else B n) = w ∧ eo n = im_P w.1 w.2 ∧ (im_bn (K n) → q = if rf n = 0 then B n else A n) ∧ (¬ im_bn (K n) → im_ct c K A B C n w = some q))
def px_SC (c : Nat) (K A B C stg rf : Nat → Int32) (eo : Nat → Int64) (root : Int32) (s : Nat) (g : Nat → Nat) (ro : Nat → Int32) : Prop :=
  (0 < s → root = nI (g 0)) ∧ (∀ t, t + 1 < s → ro t = nI (g (t + 1))) ∧ (∀ t, t < s → px_FS c K A B C stg rf eo (g t) (ro t))
def px_pe (root : Int32) (s : Nat) (ro : Nat → Int32) (r : Int32) : Prop := (s = 0 → root = r) ∧ (0 < s → ro (s - 1) = r)
section
variable {c : Nat} {K A B C st sv stg rf : Nat → Int32} {eo : Nat → Int64} {dem : Nat → Int32} {inn root : Int32} {s : Nat} {g : Nat → Nat} {ro : Nat → Int32}
theorem px_FL_stg (h : px_FL c K st stg dem inn s g) {t : Nat} (ht : t < s) : stg (g t) ≠ 0 := by
  rcases (h.1 t ht).2.2 with e | e | e <;> rw [e] <;> decide
theorem px_FL_top {t : Nat} (h : px_FL c K st stg dem inn (t + 1) g) {q : Int32} (hq : q = 2 ∨ q = 3) : px_FL c K st (upd stg (g t) q) dem inn (t + 1) g := by
  have h0 := px_FL_stg h (show t < t + 1 by omega)
  obtain ⟨h1, h2, h3, h4, h5, h6⟩ := h
  refine ⟨fun t' ht' => ⟨(h1 t' ht').1, (h1 t' ht').2.1, ?_⟩, h2, fun i hi => ?_, h4, h5, fun t' ht' => ?_⟩
  · by_cases e : g t' = g t
    · rw [e, pk_us]; exact Or.inr hq
    · rw [pk_un e]; exact (h1 t' ht').2.2
  · rcases h3 i hi with z | z
    · have : i ≠ g t := fun w => h0 (w ▸ z)
      exact Or.inl (by rw [pk_un this]; exact z)
    · exact Or.inr z
  · have e : g t' ≠ g t := fun w => by have := h2 t' t (by omega) (by omega) w; omega
    rw [pk_un e]; exact h6 t' ht'
theorem px_FL_push (h : px_FL c K st stg dem inn s g) {j : Nat} (hj : j < c) (hs : stg j = 0) (hp : ∀ t, t < s → stg (g t) ≠ 1) (hst : st j = 3 ∧ K j ≠ 0 ∧ K j ≠ 1 ∧ K j ≠ 9) : px_FL c K st (upd stg j 1) (upd dem j inn) (nI j) (s + 1) (fun t => if t = s then j else g t) := by
  have hne : ∀ t, t < s → g t ≠ j := fun t ht z => px_FL_stg h ht (by rw [z]; exact hs)
  obtain ⟨h1, h2, h3, h4, h5, h6⟩ := h
  have gs : (fun t => if t = s then j else g t) s = j := if_pos rfl
  have gl : ∀ t, t < s → (fun t => if t = s then j else g t) t = g t := fun t ht => if_neg (by omega)
  refine ⟨fun t ht => ?_, fun t t' ht ht' => ?_, fun i hi => ?_, ?_, fun t ht => ?_, fun t ht => ?_⟩
  · by_cases e : t = s
    · rw [e, gs, pk_us]; exact ⟨hj, hst, Or.inl rfl⟩
    · rw [gl t (by omega), pk_un (hne t (by omega))]; exact h1 t (by omega)
  · by_cases e : t = s
    · by_cases e' : t' = s
      · intro _; omega
      · rw [e, gs, gl t' (by omega)]; intro z; exact absurd z.symm (hne t' (by omega))
    · by_cases e' : t' = s
      · rw [e', gs, gl t (by omega)]; intro z; exact absurd z (hne t (by omega))
      · rw [gl t (by omega), gl t' (by omega)]; exact h2 t t' (by omega) (by omega)
  · by_cases e : i = j
    · exact Or.inr ⟨s, by omega, by rw [gs, e]⟩
    · rw [pk_un e]
      rcases h3 i hi with z | ⟨t, ht, z⟩
      · exact Or.inl z
      · exact Or.inr ⟨t, by omega, by rw [gl t ht]; exact z⟩
  · unfold im_lk
    rw [if_neg (by omega), show s + 1 - 1 = s by omega, gs]
  · have hl : ∀ t, t ≤ s → im_lk (fun t => if t = s then j else g t) t = im_lk g t := by
      intro t ht
      unfold im_lk
      by_cases z : t = 0
      · rw [if_pos z, if_pos z]
      · rw [if_neg z, if_neg z, gl (t - 1) (by omega)]
    by_cases e : t = s
    · rw [e, gs, pk_us, hl s (by omega)]; exact h4
    · rw [gl t (by omega), pk_un (hne t (by omega)), hl t (by omega)]; exact h5 t (by omega)
  · rw [gl t (by omega), pk_un (hne t (by omega))]; exact hp t (by omega)
theorem px_FL_pop {t : Nat} (h : px_FL c K st stg dem inn (t + 1) g) (k : Int32) : px_FL c K (upd st (g t) k) (upd stg (g t) 0) dem (dem (g t)) t g := by
  obtain ⟨h1, h2, h3, h4, h5, h6⟩ := h
  have hne : ∀ t', t' < t → g t' ≠ g t := fun t' ht z => by have := h2 t' t (by omega) (by omega) z; omega
  refine ⟨fun t' ht' => ?_, fun a b ha hb => h2 a b (by omega) (by omega), fun i hi => ?_, h5 t (by omega), fun t' ht' => h5 t' (by omega), fun t' ht' => ?_⟩
  · rw [pk_un (hne t' ht'), pk_un (hne t' ht')]; exact h1 t' (by omega)
  · by_cases e : i = g t
    · subst e; exact Or.inl pk_us
    · rw [pk_un e]
      rcases h3 i hi with z | ⟨t', ht', z⟩
      · exact Or.inl z
      · have : t' ≠ t := fun w => e (by rw [← z, w])
        exact Or.inr ⟨t', by omega, z⟩
  · rw [pk_un (hne t' (by omega))]; exact h6 t' (by omega)
theorem px_FL_0 (hs : ∀ i, i < 32 → stg i = 0) (g : Nat → Nat) : px_FL c K st stg dem (-1) 0 g :=
  ⟨fun t ht => absurd ht (Nat.not_lt_zero _), fun t _ ht => absurd ht (Nat.not_lt_zero _), fun i hi => Or.inl (hs i hi), (if_pos rfl).symm, fun t ht => absurd ht (Nat.not_lt_zero _), fun t ht => absurd ht (Nat.not_lt_zero _)⟩
/-! contexts along the chain -/
theorem px_ctx (hc : c ≤ 32) (hRF : im_RF c K rf) (hFL : px_FL c K st stg dem inn s g) (hSC : px_SC c K A B C stg rf eo root s g ro) {d : Nat → Int32 × Int32} (hd : ∀ i, i < c → (im_D c K A B C i).1 ≠ 3 → d i = im_D c K A B C i ∨ d i = (3, 65534))
    {t : Nat} (ht : t < s) (h1 : stg (g t) ≠ 1) {j : Nat} (hj1 : 1 ≤ j) (hj2 : j < 16) (h : im_hs j (im_g c d (ro t))) : im_hs j (im_dq c K A B C d (g t)) := by
  obtain ⟨hgc, ⟨_, hk⟩, h123⟩ := hFL.1 t ht
  have hr : im_bn (K (g t)) ∨ rf (g t) = 0 := (hRF (g t) (by omega)).elim (fun z => Or.inr z) (fun z => Or.inl z.2.2)
  have hFS := hSC.2.2 t ht
  rcases h123 with e | e | e
  · exact absurd e h1
  · rw [hFS.1 e] at h
    exact im_ctx1 hk hr h
  · obtain ⟨w, hw, hg, _, hb, hn⟩ := hFS.2 e
    refine im_ctx2 hk hr hw ?_ hb hn hj1 hj2 h
    rw [← hg]
    rcases pk_ix (if rf (g t) = 0 then A (g t) else B (g t)) (show c < 2 ^ 31 by omega) with z | z | ⟨i, hi, ei⟩
    · left; rw [im_g_out d (Or.inl z), im_g_out _ (Or.inl z)]
    · left; rw [im_g_out d (Or.inr z), im_g_out _ (Or.inr z)]
    · rw [ei] at hg ⊢
      rw [im_g_in hc _ hi] at hg
      rw [im_g_in hc _ hi, im_g_in hc _ hi]
      exact hd i hi (by rw [hg]; exact im_wf_ne hw)
theorem px_dn (hc : c ≤ 32) (hp : im_Pr c K A B C) (hRF : im_RF c K rf) (hFL : px_FL c K st stg dem inn s g) (hSC : px_SC c K A B C stg rf eo root s g ro) {j : Nat} (hj1 : 1 ≤ j) (hj2 : j < 16) : ∀ t, t < s → im_hs j (im_D c K A B C (g t)) → im_hs j (im_g c (im_D c K A B C) root)
  | 0, ht, h => by
    rw [hSC.1 ht, im_g_in hc _ (hFL.1 0 ht).1]; exact h
  | t + 1, ht, h => by
    refine px_dn hc hp hRF hFL hSC hj1 hj2 t (by omega) ?_
    rw [im_D_fix hc hp (hFL.1 t (by omega)).1]
    refine px_ctx hc hRF hFL hSC (fun i _ _ => Or.inl rfl) (by omega) (hFL.2.2.2.2.2 t ht) hj1 hj2 ?_
    rw [hSC.2.1 t ht, im_g_in hc _ (hFL.1 (t + 1) ht).1]; exact h
theorem px_prop (hc : c ≤ 32) (hp : im_Pr c K A B C) (hRF : im_RF c K rf) (hFL : px_FL c K st stg dem inn s g) (hSC : px_SC c K A B C stg rf eo root s g ro) (hP : ∀ t, t < s → stg (g t) ≠ 1) {r e : Int32} (hr : px_pe root s ro r) (h : im_cd e (im_g c (im_D c K A B C) r)) : im_cd e (im_g c (im_D c K A B C) root) := by
  cases s with
  | zero => rw [hr.1 rfl]; exact h
  | succ t =>
    obtain ⟨j, hj1, hj2, ee, hh⟩ := h
    refine ⟨j, hj1, hj2, ee, px_dn hc hp hRF hFL hSC hj1 hj2 t (by omega) ?_⟩
    rw [im_D_fix hc hp (hFL.1 t (by omega)).1]
    refine px_ctx hc hRF hFL hSC (fun i _ _ => Or.inl rfl) (by omega) (hP t (by omega)) hj1 hj2 ?_
    have := hr.2 (by omega)
    rw [show t + 1 - 1 = t by omega] at this
    rw [this]; exact hh
/-- a node demanded again while active: every set on the way holds EXC_LOOP -/
theorem px_loop (hc : c ≤ 32) (hp : im_Pr c K A B C) (hRF : im_RF c K rf) (hFL : px_FL c K st stg dem inn s g) (hSC : px_SC c K A B C stg rf eo root s g ro) (hP : ∀ t, t < s → stg (g t) ≠ 1) {t0 : Nat} (ht0 : t0 < s) (hr : ro (s - 1) = nI (g t0)) : ∀ k, k ≤ 1024 → ∀ t, t0 ≤ t → t < s → im_hs 3 (im_it c K A B C k (g t))
  | 0, _, t, _, _ => im_hs_all (by omega) (by omega)
  | k + 1, hk, t, h0, ht => by
    rw [im_it_s k (hFL.1 t ht).1]
    refine px_ctx hc hRF hFL hSC (fun i _ hv => im_it_v (by omega) hp (1024 - k) k (by omega) i hv) ht (hP t ht) (by omega) (by omega) ?_
    by_cases z : t + 1 < s
    · rw [hSC.2.1 t z, im_g_in hc _ (hFL.1 (t + 1) z).1]
      exact px_loop hc hp hRF hFL hSC hP ht0 hr k (by omega) (t + 1) (by omega) z
    · rw [show t = s - 1 by omega, hr, im_g_in hc _ (hFL.1 t0 ht0).1]
      exact px_loop hc hp hRF hFL hSC hP ht0 hr k (by omega) t0 (by omega) ht0
/-! the chain's facts over a step -/
theorem px_SC_top {t : Nat} (hFL : px_FL c K st stg dem inn (t + 1) g) (h : px_SC c K A B C stg rf eo root (t + 1) g ro) {stg' rf' : Nat → Int32} {eo' : Nat → Int64} (hx : ∀ i, i ≠ g t → stg' i = stg i ∧ rf' i = rf i ∧ eo' i = eo i) {r : Int32} (hf : px_FS c K A B C stg' rf' eo' (g t) r) : px_SC c K A B C stg' rf' eo' root (t + 1) g (fun t' => if t' = t then r else ro t') ∧ px_pe root (t + 1) (fun t' => if t' = t then r else ro t') r := by
  refine ⟨⟨h.1, fun t' ht' => ?_, fun t' ht' => ?_⟩, fun z => absurd z (by omega), fun _ => if_pos (by omega)⟩
  · dsimp only
    rw [if_neg (by omega)]; exact h.2.1 t' ht'
  · dsimp only
    by_cases e : t' = t
    · rw [if_pos e, e]; exact hf
    · rw [if_neg e]
      have hg : g t' ≠ g t := fun w => e (hFL.2.1 t' t ht' (by omega) w)
      have q := h.2.2 t' ht'
      unfold px_FS at q ⊢
      rw [(hx _ hg).1, (hx _ hg).2.1, (hx _ hg).2.2]
      exact q
theorem px_SC_push (hFL : px_FL c K st stg dem inn s g) (h : px_SC c K A B C stg rf eo root s g ro) {j : Nat} (hs : stg j = 0) (hr : px_pe root s ro (nI j)) : px_SC c K A B C (upd stg j 1) rf eo root (s + 1) (fun t => if t = s then j else g t) ro := by
  have hne : ∀ t, t < s → g t ≠ j := fun t ht z => px_FL_stg hFL ht (by rw [z]; exact hs)
  refine ⟨fun _ => ?_, fun t ht => ?_, fun t ht => ?_⟩
  · dsimp only
    by_cases z : s = 0
    · rw [if_pos z.symm]; exact hr.1 z
    · rw [if_neg (by omega)]; exact h.1 (by omega)
  · dsimp only
    by_cases z : t + 1 = s
    · rw [if_pos z]
      have := hr.2 (by omega)
      rw [show s - 1 = t by omega] at this
      exact this
    · rw [if_neg z]; exact h.2.1 t (by omega)
  · dsimp only
    by_cases z : t = s
    · rw [if_pos z]
      unfold px_FS
      rw [pk_us]
      exact ⟨fun w => absurd w (by decide), fun w => absurd w (by decide)⟩
    · rw [if_neg z]
      have q := h.2.2 t (by omega)
      unfold px_FS at q ⊢
      rw [pk_un (hne t (by omega))]
      exact q
theorem px_SC_pop {t : Nat} (hFL : px_FL c K st stg dem inn (t + 1) g) (h : px_SC c K A B C stg rf eo root (t + 1) g ro) (q0 : Int32) : px_SC c K A B C (upd stg (g t) q0) rf eo root t g ro ∧ px_pe root t ro (nI (g t)) := by
  refine ⟨⟨fun z => h.1 (by omega), fun t' ht' => h.2.1 t' (by omega), fun t' ht' => ?_⟩, fun z => ?_, fun z => ?_⟩
  · have hg : g t' ≠ g t := fun w => by have := hFL.2.1 t' t (by omega) (by omega) w; omega
    have q := h.2.2 t' (by omega)
    unfold px_FS at q ⊢
    rw [pk_un hg]
    exact q
  · subst z; exact h.1 (by omega)
  · have := h.2.1 (t - 1) (by omega)
    rw [show t - 1 + 1 = t by omega] at this
    exact this
end
