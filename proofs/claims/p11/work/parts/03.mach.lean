/-! the machine: node states, frames, the two stacks -/
def im_bn (k : Int32) : Prop := 2 ≤ k ∧ k ≤ 6
def im_ST (c : Nat) (K A : Nat → Int32) (sX : Nat → Int64) (st sv : Nat → Int32) : Prop :=
  ∀ i, i < c → sX i = im_P (st i) (sv i) ∧ ((st i = 3 ∧ sv i = 0) ∨ im_vl c K (st i, sv i)) ∧ (K i = 0 → st i = 1 ∧ sv i = A i) ∧ (K i = 9 → st i = 2 ∧ sv i = nI i) ∧ (K i = 1 → st i = 3)
def im_RF (c : Nat) (K rf : Nat → Int32) : Prop := ∀ i, i < 32 → rf i = 0 ∨ (rf i = 1 ∧ i < c ∧ im_bn (K i))
def im_FR (K st fN fP fB fK fV stg rf : Nat → Int32) (eo : Nat → Int64) (t n : Nat) : Prop :=
  fN t = nI n ∧ (st n = 3 ∧ K n ≠ 0 ∧ K n ≠ 1 ∧ K n ≠ 9) ∧
  ((fP t = 0 ∧ stg n = 1) ∨ (fP t = 1 ∧ stg n = 2) ∨ (fP t = 2 ∧ stg n = 3 ∧ (im_bn (K n) → eo n = im_P (fK t) (fV t)))) ∧
  (fP t ≠ 0 → im_bn (K n) → fB t = rf n)
def im_lk (g : Nat → Nat) (t : Nat) : Int32 := if t = 0 then -1 else nI (g (t - 1))
def im_ac (act : Nat → Int32) (i : Nat) : Nat := if act i = 0 then 0 else 1
def im_FL (c : Nat) (K st fN fP fB fK fV act stg rf : Nat → Int32) (eo : Nat → Int64) (dem : Nat → Int32) (inn : Int32) (s : Nat) (g : Nat → Nat) : Prop :=
  (∀ t, t < s → g t < c ∧ im_FR K st fN fP fB fK fV stg rf eo t (g t)) ∧
  (∀ t t', t < s → t' < s → g t = g t' → t = t') ∧
  (∀ i, i < 32 → (stg i = 0 ∧ act i = 0) ∨ (act i = 1 ∧ ∃ t, t < s ∧ g t = i)) ∧
  inn = im_lk g s ∧ (∀ t, t < s → dem (g t) = im_lk g t) ∧ (∀ t, t + 1 < s → fP t ≠ 0) ∧
  im_S (im_ac act) 32 = s
def im_wt (a b : Int32) : Nat := if a = 3 then (if b = 0 then 4 else if b = 1 then 3 else if b = 2 then 2 else 1) else 0
def im_w (st stg : Nat → Int32) (i : Nat) : Nat := im_wt (st i) (stg i)
def im_mu (c : Nat) (st stg : Nat → Int32) : Nat := im_S (im_w st stg) c
theorem im_mu_b (c : Nat) (st stg : Nat → Int32) : im_mu c st stg ≤ c * 4 := by
  apply im_S_b
  intro i _
  unfold im_w im_wt
  repeat' split
  all_goals omega
theorem im_mu_lt {c : Nat} {st stg st' stg' : Nat → Int32} (n : Nat) (hn : n < c) (h : ∀ i, i ≠ n → st' i = st i ∧ stg' i = stg i) (hl : im_w st' stg' n < im_w st stg n) : im_mu c st' stg' < im_mu c st stg := by
  apply im_S_lt
  · intro i _
    by_cases e : i = n
    · subst e; exact Nat.le_of_lt hl
    · unfold im_w; rw [(h i e).1, (h i e).2]; exact Nat.le_refl _
  · exact ⟨n, hn, hl⟩
theorem im_mu_pos {c : Nat} {st stg : Nat → Int32} {n : Nat} (hn : n < c) (h : st n = 3) : 0 < im_mu c st stg := by
  have h1 : im_S (fun _ => 0) c < im_mu c st stg := by
    apply im_S_lt
    · intro i _; exact Nat.zero_le _
    · refine ⟨n, hn, ?_⟩
      unfold im_w im_wt
      rw [if_pos h]
      repeat' split
      all_goals omega
  omega
theorem im_S_up {f g : Nat → Nat} {n : Nat} (j : Nat) (hj : j < n) (h : ∀ i, i ≠ j → g i = f i) (h1 : g j = f j + 1) : im_S g n = im_S f n + 1 := by
  induction n with
  | zero => omega
  | succ n ih =>
    show im_S g n + g n = im_S f n + f n + 1
    by_cases e : j = n
    · subst e
      rw [h1, im_S_eq j (fun i hi => h i (by omega))]
      omega
    · rw [ih (by omega), h n (fun z => e z.symm)]
      omega
section
variable {c : Nat} {K st fN fP fB fK fV act stg rf : Nat → Int32} {eo : Nat → Int64} {dem : Nat → Int32} {inn : Int32} {s : Nat} {g : Nat → Nat}
theorem im_FR_stg {t n : Nat} (h : im_FR K st fN fP fB fK fV stg rf eo t n) : stg n ≠ 0 := by
  rcases h.2.2.1 with ⟨_, e⟩ | ⟨_, e⟩ | ⟨_, e, _⟩ <;> rw [e] <;> decide
/-- a node that isn't active leaves room on the stack -/
theorem im_FL_room (h : im_FL c K st fN fP fB fK fV act stg rf eo dem inn s g) {j : Nat} (hj : j < 32) (hs : act j = 0) : s < 32 := by
  have h1 := h.2.2.2.2.2.2
  have h2 : im_S (im_ac act) 32 < im_S (fun _ => 1) 32 := by
    apply im_S_lt
    · intro i _; unfold im_ac; split <;> omega
    · exact ⟨j, hj, by unfold im_ac; rw [if_pos hs]; omega⟩
  have h3 : im_S (fun _ => 1) 32 = 32 := by decide
  omega
theorem im_FL_le (h : im_FL c K st fN fP fB fK fV act stg rf eo dem inn s g) : s ≤ 32 := by
  have h1 := h.2.2.2.2.2.2
  have h2 : im_S (im_ac act) 32 ≤ 32 * 1 := by
    apply im_S_b
    intro i _; unfold im_ac; split <;> omega
  omega
/-- the top frame goes on -/
theorem im_FL_top {t : Nat} (h : im_FL c K st fN fP fB fK fV act stg rf eo dem inn (t + 1) g) {fP' fB' fK' fV' stg' rf' : Nat → Int32} {eo' : Nat → Int64}
    (hx : ∀ i, i ≠ g t → stg' i = stg i ∧ rf' i = rf i ∧ eo' i = eo i) (hy : ∀ i, i ≠ t → fP' i = fP i ∧ fB' i = fB i ∧ fK' i = fK i ∧ fV' i = fV i)
    (hf : im_FR K st fN fP' fB' fK' fV' stg' rf' eo' t (g t)) : im_FL c K st fN fP' fB' fK' fV' act stg' rf' eo' dem inn (t + 1) g := by
  obtain ⟨h1, h2, h3, h4, h5, h6, h7⟩ := h
  refine ⟨?_, h2, ?_, h4, h5, ?_, h7⟩
  · intro t' ht'
    refine ⟨(h1 t' ht').1, ?_⟩
    by_cases e : t' = t
    · subst e; exact hf
    · have hg : g t' ≠ g t := fun z => e (h2 t' t ht' (by omega) z)
      have hF := (h1 t' ht').2
      unfold im_FR at hF ⊢
      rw [(hx _ hg).1, (hx _ hg).2.1, (hx _ hg).2.2, (hy _ e).1, (hy _ e).2.1, (hy _ e).2.2.1, (hy _ e).2.2.2]
      exact hF
  · intro i hi
    rcases h3 i hi with ⟨a, b⟩ | h
    · have : i ≠ g t := fun z => im_FR_stg (h1 t (by omega)).2 (z ▸ a)
      exact Or.inl ⟨by rw [(hx i this).1]; exact a, b⟩
    · exact Or.inr h
  · intro t' ht'
    rw [(hy t' (by omega)).1]
    exact h6 t' ht'
/-- a node is entered -/
theorem im_FL_push (h : im_FL c K st fN fP fB fK fV act stg rf eo dem inn s g) (hc : c ≤ 32) {j : Nat} (hj : j < c) (hs : stg j = 0) (ha : act j = 0) (hp : ∀ t, t < s → fP t ≠ 0) (hst : st j = 3 ∧ K j ≠ 0 ∧ K j ≠ 1 ∧ K j ≠ 9) :
    im_FL c K st (upd fN s (nI j)) (upd fP s 0) (upd fB s 0) (upd fK s 0) (upd fV s 0) (upd act j 1) (upd stg j 1) rf eo (upd dem j inn) (nI j) (s + 1) (fun t => if t = s then j else g t) := by
  obtain ⟨h1, h2, h3, h4, h5, h6, h7⟩ := h
  have hne : ∀ t, t < s → g t ≠ j := fun t ht z => im_FR_stg (h1 t ht).2 (by rw [z]; exact hs)
  refine ⟨?_, ?_, ?_, ?_, ?_, ?_, ?_⟩
  · intro t ht
    by_cases e : t = s
    · subst e
      dsimp only
      rw [if_pos rfl]
      refine ⟨hj, pk_us, hst, Or.inl ⟨pk_us, pk_us⟩, fun z => absurd pk_us z⟩
    · dsimp only
      rw [if_neg e]
      have hF := h1 t (by omega)
      refine ⟨hF.1, ?_⟩
      have hg := hne t (by omega)
      have hF := hF.2
      unfold im_FR at hF ⊢
      rw [pk_un e, pk_un e, pk_un e, pk_un e, pk_un e, pk_un hg]
      exact hF
  · intro t t' ht ht'
    dsimp only
    by_cases e : t = s
    · by_cases e' : t' = s
      · intro _; omega
      · rw [if_pos e, if_neg e']; intro z; exact absurd z.symm (hne t' (by omega))
    · by_cases e' : t' = s
      · rw [if_neg e, if_pos e']; intro z; exact absurd z (hne t (by omega))
      · rw [if_neg e, if_neg e']; exact h2 t t' (by omega) (by omega)
  · intro i hi
    by_cases e : i = j
    · subst e
      exact Or.inr ⟨pk_us, s, by omega, if_pos rfl⟩
    · rw [pk_un e, pk_un e]
      rcases h3 i hi with h | ⟨h, t, ht, e2⟩
      · exact Or.inl h
      · exact Or.inr ⟨h, t, by omega, by dsimp only; rw [if_neg (by omega)]; exact e2⟩
  · unfold im_lk
    rw [if_neg (by omega)]
    dsimp only
    rw [if_pos (by omega)]
  · intro t ht
    by_cases e : t = s
    · subst e
      dsimp only
      rw [if_pos rfl, pk_us, h4]
      unfold im_lk
      by_cases z : t = 0
      · rw [if_pos z, if_pos z]
      · rw [if_neg z, if_neg z]; dsimp only; rw [if_neg (by omega)]
    · dsimp only
      rw [if_neg e, pk_un (hne t (by omega)), h5 t (by omega)]
      unfold im_lk
      by_cases z : t = 0
      · rw [if_pos z, if_pos z]
      · rw [if_neg z, if_neg z]; dsimp only; rw [if_neg (by omega)]
  · intro t ht
    rw [pk_un (by omega)]
    exact hp t (by omega)
  · rw [im_S_up (f := im_ac act) (g := im_ac (upd act j 1)) j (by omega), h7]
    · intro i hi; unfold im_ac; rw [pk_un hi]
    · unfold im_ac; rw [pk_us, ha]; decide
/-- a node is done -/
theorem im_FL_pop {t : Nat} (h : im_FL c K st fN fP fB fK fV act stg rf eo dem inn (t + 1) g) (hc : c ≤ 32) (k : Int32) :
    im_FL c K (upd st (g t) k) fN fP fB fK fV (upd act (g t) 0) (upd stg (g t) 0) rf eo dem (dem (g t)) t g := by
  obtain ⟨h1, h2, h3, h4, h5, h6, h7⟩ := h
  have hne : ∀ t', t' < t → g t' ≠ g t := fun t' ht z => by have := h2 t' t (by omega) (by omega) z; omega
  have hgc := (h1 t (by omega)).1
  have hact : act (g t) = 1 := by
    rcases h3 (g t) (by omega) with ⟨a, _⟩ | ⟨a, _⟩
    · exact absurd a (im_FR_stg (h1 t (by omega)).2)
    · exact a
  refine ⟨?_, fun a b ha hb => h2 a b (by omega) (by omega), ?_, ?_, fun t' ht' => h5 t' (by omega), fun t' ht' => h6 t' (by omega), ?_⟩
  · intro t' ht'
    have hF := h1 t' (by omega)
    refine ⟨hF.1, ?_⟩
    have hF := hF.2
    have hg := hne t' ht'
    unfold im_FR at hF ⊢
    rw [pk_un hg, pk_un hg]
    exact hF
  · intro i hi
    by_cases e : i = g t
    · subst e; exact Or.inl ⟨pk_us, pk_us⟩
    · rw [pk_un e, pk_un e]
      rcases h3 i hi with h | ⟨h, t', ht', e2⟩
      · exact Or.inl h
      · refine Or.inr ⟨h, t', ?_, e2⟩
        have : t' ≠ t := fun z => e (by rw [← e2, z])
        omega
  · exact h5 t (by omega)
  · have h8 := im_S_up (f := im_ac (upd act (g t) 0)) (g := im_ac act) (n := 32) (g t) (by omega) (fun i hi => by unfold im_ac; rw [pk_un hi]) (by unfold im_ac; rw [pk_us, hact]; decide)
    omega
/-- the start: nothing active -/
theorem im_FL_0 (hs : ∀ i, i < 32 → stg i = 0) (ha : ∀ i, i < 32 → act i = 0) (g : Nat → Nat) : im_FL c K st fN fP fB fK fV act stg rf eo dem (-1) 0 g := by
  refine ⟨fun t ht => absurd ht (Nat.not_lt_zero _), fun t _ ht => absurd ht (Nat.not_lt_zero _), fun i hi => Or.inl ⟨hs i hi, ha i hi⟩, (if_pos rfl).symm, fun t ht => absurd ht (Nat.not_lt_zero _), fun t ht => absurd ht (Nat.not_lt_zero _), ?_⟩
  have h : im_S (im_ac act) 32 ≤ 32 * 0 := by
    apply im_S_b
    intro i hi; unfold im_ac; rw [if_pos (ha i hi)]; omega
  omega
end
/-- a state stored at a node whose evaluation is done -/
theorem im_ST_up {c : Nat} {K A : Nat → Int32} {sX : Nat → Int64} {st sv : Nat → Int32} (h : im_ST c K A sX st sv) {n : Nat} {k v : Int32} (hv : im_vl c K (k, v)) (hk : K n ≠ 0 ∧ K n ≠ 1 ∧ K n ≠ 9) : im_ST c K A (vp_updL sX n (im_P k v)) (upd st n k) (upd sv n v) := by
  intro i hi
  by_cases e : i = n
  · subst e
    rw [pk_uLs, pk_us, pk_us]
    exact ⟨rfl, Or.inr hv, fun z => absurd z hk.1, fun z => absurd z hk.2.2, fun z => absurd z hk.2.1⟩
  · rw [pk_uLn e, pk_un e, pk_un e]; exact h i hi
/-! a node's first state; the relation's parts -/
def im_ik (k a : Int32) (i : Nat) : Int32 × Int32 := if k = 0 then (1, a) else if k = 9 then (2, nI i) else (3, 0)
def im_is (K A : Nat → Int32) (i : Nat) : Int64 := im_P (im_ik (K i) (A i) i).1 (im_ik (K i) (A i) i).2
def im_LA (la : Int64) (lo le lv : Int32) : Prop := ∃ k v : Int32, la = im_P k v ∧ lo = k ∧ le = (if k = 3 then v else 0) ∧ lv = (if k = 3 then 0 else v)
def im_DX (c : Nat) (K A B C : Nat → Int32) (dX : Nat → Int64) : Prop := ∀ j, j < c → dX j = im_P (im_it c K A B C 1024 j).1 (im_it c K A B C 1024 j).2
def im_IV (p c : Nat) (la : Int64) (K A B C : Nat → Int32) (sX dX : Nat → Int64) (stg rf st sv : Nat → Int32) (lo le lv : Int32) : Prop :=
  (8 ≤ p ∧ p ≤ 32 ∧ c ≤ p) ∧ im_Pr c K A B C ∧ im_ST c K A sX st sv ∧ im_RF c K rf ∧ (∀ i, i < 32 → stg i = 0) ∧ im_LA la lo le lv ∧ im_DX c K A B C dX
def im_ok (k a b d : Int32) : Prop := (0 ≤ k ∧ k ≤ 11) ∧ (k = 1 → 5 ≤ a ∧ a ≤ 15) ∧ (k ≠ 0 → k ≠ 1 → a ≠ -1) ∧ (k ≠ 0 → k ≠ 1 → k ≠ 10 → k ≠ 11 → b ≠ -1) ∧ (k = 7 → d ≠ -1)
theorem im_Pr_add {c : Nat} {K A B C : Nat → Int32} (h : im_Pr c K A B C) {k a b d : Int32} (hk : im_ok k a b d) : im_Pr (c + 1) (upd K c k) (upd A c a) (upd B c b) (upd C c d) := by
  intro i hi
  by_cases e : i = c
  · subst e; rw [pk_us, pk_us, pk_us, pk_us]; exact hk
  · rw [pk_un e, pk_un e, pk_un e, pk_un e]; exact h i (by omega)
theorem im_vl_add {c : Nat} {K : Nat → Int32} {a : Int32 × Int32} (h : im_vl c K a) (k : Int32) : im_vl (c + 1) (upd K c k) a := by
  rcases h with h | ⟨h, j, hj, e, h9⟩
  · exact Or.inl h
  · exact Or.inr ⟨h, j, by omega, e, by rw [pk_un (by omega)]; exact h9⟩
theorem im_ik_st (k a : Int32) (i : Nat) (c : Nat) (K : Nat → Int32) (hi : i < c) (hK : K i = k) : (((im_ik k a i).1 = 3 ∧ (im_ik k a i).2 = 0) ∨ im_vl c K (im_ik k a i)) ∧ (k = 0 → (im_ik k a i).1 = 1 ∧ (im_ik k a i).2 = a) ∧ (k = 9 → (im_ik k a i).1 = 2 ∧ (im_ik k a i).2 = nI i) ∧ (k = 1 → (im_ik k a i).1 = 3) := by
  unfold im_ik
  by_cases h0 : k = 0
  · rw [if_pos h0]
    exact ⟨Or.inr (Or.inl rfl), fun _ => ⟨rfl, rfl⟩, fun z => absurd (h0.symm.trans z) (by decide), fun z => absurd (h0.symm.trans z) (by decide)⟩
  · rw [if_neg h0]
    by_cases h9 : k = 9
    · rw [if_pos h9]
      exact ⟨Or.inr (Or.inr ⟨rfl, i, hi, rfl, hK.trans h9⟩), fun z => absurd z h0, fun _ => ⟨rfl, rfl⟩, fun z => absurd (h9.symm.trans z) (by decide)⟩
    · rw [if_neg h9]
      exact ⟨Or.inl ⟨rfl, rfl⟩, fun z => absurd z h0, fun z => absurd z h9, fun _ => rfl⟩
theorem im_ST_add {c : Nat} {K A : Nat → Int32} {sX : Nat → Int64} {st sv : Nat → Int32} (h : im_ST c K A sX st sv) (k a : Int32) : im_ST (c + 1) (upd K c k) (upd A c a) (vp_updL sX c (im_P (im_ik k a c).1 (im_ik k a c).2)) (upd st c (im_ik k a c).1) (upd sv c (im_ik k a c).2) := by
  intro i hi
  by_cases e : i = c
  · subst e
    rw [pk_us, pk_us, pk_us, pk_us, pk_uLs]
    exact ⟨rfl, im_ik_st k a i (i + 1) (upd K i k) (by omega) pk_us⟩
  · rw [pk_un e, pk_un e, pk_un e, pk_un e, pk_uLn e]
    obtain ⟨h1, h2, h3⟩ := h i (by omega)
    exact ⟨h1, h2.imp id (fun z => im_vl_add z k), h3⟩
theorem im_RF_add {c : Nat} {K rf : Nat → Int32} (h : im_RF c K rf) (k : Int32) : im_RF (c + 1) (upd K c k) rf := by
  intro i hi
  rcases h i hi with z | ⟨z, hc, hb⟩
  · exact Or.inl z
  · exact Or.inr ⟨z, by omega, by rw [pk_un (by omega)]; exact hb⟩
/-- all thunks reset -/
theorem im_ST_reset {c : Nat} {K A : Nat → Int32} {sX : Nat → Int64} {st sv : Nat → Int32} (h : im_ST c K A sX st sv) {sX' : Nat → Int64} {st' sv' : Nat → Int32} (h1 : ∀ i, i < c → sX' i = im_is K A i)
    (h2 : ∀ i, i < c → (K i = 0 ∨ K i = 1 ∨ K i = 9) → st' i = st i ∧ sv' i = sv i) (h3 : ∀ i, i < c → ¬ (K i = 0 ∨ K i = 1 ∨ K i = 9) → st' i = 3 ∧ sv' i = 0) : im_ST c K A sX' st' sv' := by
  intro i hi
  have e : (st' i, sv' i) = im_ik (K i) (A i) i := by
    obtain ⟨_, q2, q3, q4, q5⟩ := h i hi
    unfold im_ik
    by_cases k0 : K i = 0
    · rw [if_pos k0, (h2 i hi (Or.inl k0)).1, (h2 i hi (Or.inl k0)).2, (q3 k0).1, (q3 k0).2]
    · rw [if_neg k0]
      by_cases k9 : K i = 9
      · rw [if_pos k9, (h2 i hi (Or.inr (Or.inr k9))).1, (h2 i hi (Or.inr (Or.inr k9))).2, (q4 k9).1, (q4 k9).2]
      · rw [if_neg k9]
        by_cases k1 : K i = 1
        · rw [(h2 i hi (Or.inr (Or.inl k1))).1, (h2 i hi (Or.inr (Or.inl k1))).2, q5 k1]
          rcases q2 with q2 | q2
          · rw [q2.2]
          · exact absurd (q5 k1) (im_wf_ne q2)
        · have hn : ¬ (K i = 0 ∨ K i = 1 ∨ K i = 9) := fun z => z.elim k0 (fun z => z.elim k1 k9)
          rw [(h3 i hi hn).1, (h3 i hi hn).2]
  have e1 : st' i = (im_ik (K i) (A i) i).1 := by rw [← e]
  have e2 : sv' i = (im_ik (K i) (A i) i).2 := by rw [← e]
  rw [e1, e2, h1 i hi]
  exact ⟨rfl, im_ik_st (K i) (A i) i c K hi rfl⟩
theorem im_ct_ne {c : Nat} {K A B C : Nat → Int32} (hp : im_Pr c K A B C) {n : Nat} (hn : n < c) (k0 : K n ≠ 0) (k1 : K n ≠ 1) (hb : ¬ im_bn (K n)) {a : Int32 × Int32} (ha : im_vl c K a) (hc : c ≤ 32) {r : Int32} (h : im_ct c K A B C n a = some r) : r ≠ -1 := by
  obtain ⟨p1, p2, p3, p4, p5⟩ := hp n hn
  unfold im_ct at h
  by_cases h7 : K n = 7
  · rw [if_pos h7] at h
    by_cases z : a.1 = 2
    · rw [if_pos z] at h; exact absurd h (by simp)
    · rw [if_neg z] at h
      by_cases z2 : a.2 = 0
      · rw [if_pos z2] at h; cases h; exact p5 h7
      · rw [if_neg z2] at h; cases h; exact p4 k0 k1 (by rw [h7]; decide) (by rw [h7]; decide)
  · rw [if_neg h7] at h
    by_cases h8 : K n = 8
    · rw [if_pos h8] at h; cases h; exact p4 k0 k1 (by rw [h8]; decide) (by rw [h8]; decide)
    · rw [if_neg h8] at h
      by_cases z : a.1 = 2
      · rw [if_pos z] at h
        rcases ha with ha | ⟨_, j, hj, e, k9⟩
        · exact absurd (ha.symm.trans z) (by decide)
        · rw [e, nI_clamp (by omega)] at h
          obtain ⟨_, _, q3, q4, _⟩ := hp j hj
          by_cases h10 : K n = 10
          · rw [if_pos h10] at h; cases h; exact q3 (by rw [k9]; decide) (by rw [k9]; decide)
          · rw [if_neg h10] at h; cases h; exact q4 (by rw [k9]; decide) (by rw [k9]; decide) (by rw [k9]; decide) (by rw [k9]; decide)
      · rw [if_neg z] at h; exact absurd h (by simp)
