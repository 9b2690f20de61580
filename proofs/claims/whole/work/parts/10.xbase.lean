/-! the component's inner methods: each with a general post -/
/-- a valid input part, as both classes ask it -/
def tw_vi (n : Nat) (p : Int32) : Prop := ¬ p < 0 ∧ (p >>> ((2 * nI n) &&& 31)) = 0 ∧ ∀ j, j < n → ¬ ((p >>> ((2 * nI j) &&& 31)) &&& 3) = 0
def tw_vm (q : Nat) (p : Int32) : Prop := ∃ a, 1 ≤ a ∧ a < 2 ^ q ∧ p = nI a
theorem tw_pow4 {q : Nat} (h : q ≤ 4) : 2 ^ q ≤ 16 := Nat.pow_le_pow_right (by decide) h
theorem tw_ne1 {a : Nat} (h : a < 2 ^ 31) : ¬ nI a = -1 := by
  intro e
  have h2 : ¬ nI a < 0 := nI_pos h
  rw [e] at h2
  exact h2 (by decide)
section
variable {n q oc dc cc : Nat} {xc xp xs : Int32} {oI oO dI dO cI cO sI sO : Nat → Int32}
theorem xv_19 {post : Int32 → Prop} {p : Int32} (hn : n ≤ 8) : ∀ (f i : Nat), n < f + i → i ≤ n → ((∀ j, i ≤ j → j < n → ¬ ((p >>> ((2 * nI j) &&& 31)) &&& 3) = 0) → post 1) → ((∃ j, j < n ∧ ((p >>> ((2 * nI j) &&& 31)) &&& 3) = 0) → post 0) → wX_isInputPart_19 post p (nI n) (nI q) xc xp (nI oc) (nI dc) (nI cc) xs oI oO dI dO cI cO sI sO f (nI i) := by
  intro f
  induction f with
  | zero => intro i h1 h2; omega
  | succ f ih =>
    intro i h1 h2 k1 k0
    refine pk_le n i (fun h => k1 (fun j a b => absurd b (by omega))) (fun h => br_c (fun z => k0 ⟨i, h, z⟩) (fun z y ey => ?_))
    subst ey
    rw [nI_1]
    refine ih (i + 1) (by omega) (by omega) (fun hj => k1 (fun j a b => ?_)) k0
    by_cases e : j = i
    · rw [e]; exact z
    · exact hj j (by omega) b
theorem xv_isInputPart {post : Int32 → Prop} {p : Int32} (hn : n ≤ 8) (k1 : tw_vi n p → post 1) (k0 : ¬ tw_vi n p → post 0) : wpX_isInputPart post (nI n, nI q, xc, xp, nI oc, nI dc, nI cc, xs, oI, oO, dI, dO, cI, cO, sI, sO) p :=
  br_c (fun h => k0 (fun z => z.1 h)) (fun h => br_c (fun h2 => ⟨n + 1, xv_19 hn (n + 1) 0 (by omega) (by omega) (fun hj => k1 ⟨h, h2, fun j b => hj j (by omega) b⟩) (fun ⟨j, hj, z⟩ => k0 (fun v => v.2.2 j hj z))⟩) (fun h2 => k0 (fun z => h2 z.2.1)))
theorem xv_isOutputMask {post : Int32 → Prop} {p : Int32} (hq : q ≤ 4) (k1 : tw_vm q p → post 1) (k0 : ¬ tw_vm q p → post 0) : wpX_isOutputMask post (nI n, nI q, xc, xp, nI oc, nI dc, nI cc, xs, oI, oO, dI, dO, cI, cO, sI, sO) p := by
  have e : (1 : Int32) <<< (nI q &&& 31) = nI (2 ^ q) := tw_p2 q (by omega)
  have hp := tw_pow4 hq
  refine br_c (fun h => k0 ?_) (fun h => br_c (fun h2 => k0 ?_) (fun h2 => k1 ?_))
  · rintro ⟨a, h1, h2, rfl⟩
    exact absurd h (nI_nlt (b := 1) h1 (by omega))
  · rintro ⟨a, h1, h3, rfl⟩
    rw [e, nI_leI (by omega) (by omega)] at h2
    omega
  · have h0 : ¬ p < 0 := fun z => h (Int32.lt_trans z (by decide))
    obtain ⟨a, ha, rfl⟩ := nI_of h0
    have h3 : ¬ nI a < nI 1 := h
    rw [nI_ltI ha (by omega)] at h3
    rw [e, nI_leI (by omega) ha] at h2
    exact ⟨a, by omega, by omega, rfl⟩
theorem xv_placeFor {post : Int32 → Prop} {p0 p1 p2 : Int32} (hn : n ≤ 8) (hq : q ≤ 4) (ka : xp = 1 → post (-1)) (kb : ¬ xp = 1 → ¬ tw_vi n p0 → post (-2)) (kc : ¬ xp = 1 → tw_vi n p0 → ¬ tw_vm q p1 → post (-3)) (kd : ¬ xp = 1 → tw_vi n p0 → tw_vm q p1 → p2 < xc → post p2) (ke : ¬ xp = 1 → tw_vi n p0 → tw_vm q p1 → ¬ p2 < xc → post (-4)) : wpX_placeFor post (nI n, nI q, xc, xp, nI oc, nI dc, nI cc, xs, oI, oO, dI, dO, cI, cO, sI, sO) p0 p1 p2 :=
  br_c ka (fun h => xv_isInputPart hn (fun hv => br_f (by decide) (xv_isOutputMask hq (fun hm => br_f (by decide) (br_c (kd h hv hm) (ke h hv hm))) (fun hm => br_t rfl (kc h hv hm)))) (fun hv => br_t rfl (kb h hv)))
theorem xv_cl_oI_cI {post : SX → Prop} {c : Nat} (hc : c ≤ 16) (k : ∀ t : Nat → Int32, (∀ j, j < c → t j = oI j) → post (nI n, nI q, xc, xp, nI oc, nI dc, nI cc, xs, oI, oO, dI, dO, t, cO, sI, sO)) : ∀ (f i : Nat) (cI : Nat → Int32), c < f + i → i ≤ c → (∀ j, j < i → cI j = oI j) → wX_copyFirst__onInputs_coverInputs_2 post (nI c) (nI n) (nI q) xc xp (nI oc) (nI dc) (nI cc) xs f (nI i) oI oO dI dO cI cO sI sO := by
  intro f
  induction f with
  | zero => intro i D h1 h2; omega
  | succ f ih =>
    intro i D h1 h2 h3
    refine pk_le c i (fun h => k D (fun j hj => h3 j (by omega))) (fun h => ⟨vp_in_nI (by omega) (by decide), vp_in_nI (by omega) (by decide), fun y ey z ez => ?_⟩)
    subst ey ez
    rw [nI_1, nI_clamp (n := i) (by omega)]
    refine ih (i + 1) _ (by omega) (by omega) (fun j hj => ?_)
    by_cases e : j = i
    · subst e; exact pk_us
    · rw [pk_un e]; exact h3 j (by omega)
theorem xv_cp_oI_cI {post : SX → Prop} {c : Nat} (hc : c ≤ 16) (k : ∀ t : Nat → Int32, (∀ j, j < c → t j = oI j) → post (nI n, nI q, xc, xp, nI oc, nI dc, nI cc, xs, oI, oO, dI, dO, t, cO, sI, sO)) : wpX_copyFirst__onInputs_coverInputs post (nI n, nI q, xc, xp, nI oc, nI dc, nI cc, xs, oI, oO, dI, dO, cI, cO, sI, sO) (nI c) :=
  ⟨c + 1, xv_cl_oI_cI hc k (c + 1) 0 _ (by omega) (by omega) (fun j hj => absurd hj (by omega))⟩
theorem xv_cl_oO_cO {post : SX → Prop} {c : Nat} (hc : c ≤ 16) (k : ∀ t : Nat → Int32, (∀ j, j < c → t j = oO j) → post (nI n, nI q, xc, xp, nI oc, nI dc, nI cc, xs, oI, oO, dI, dO, cI, t, sI, sO)) : ∀ (f i : Nat) (cO : Nat → Int32), c < f + i → i ≤ c → (∀ j, j < i → cO j = oO j) → wX_copyFirst__onOutputs_coverOutputs_2 post (nI c) (nI n) (nI q) xc xp (nI oc) (nI dc) (nI cc) xs f (nI i) oI oO dI dO cI cO sI sO := by
  intro f
  induction f with
  | zero => intro i D h1 h2; omega
  | succ f ih =>
    intro i D h1 h2 h3
    refine pk_le c i (fun h => k D (fun j hj => h3 j (by omega))) (fun h => ⟨vp_in_nI (by omega) (by decide), vp_in_nI (by omega) (by decide), fun y ey z ez => ?_⟩)
    subst ey ez
    rw [nI_1, nI_clamp (n := i) (by omega)]
    refine ih (i + 1) _ (by omega) (by omega) (fun j hj => ?_)
    by_cases e : j = i
    · subst e; exact pk_us
    · rw [pk_un e]; exact h3 j (by omega)
theorem xv_cp_oO_cO {post : SX → Prop} {c : Nat} (hc : c ≤ 16) (k : ∀ t : Nat → Int32, (∀ j, j < c → t j = oO j) → post (nI n, nI q, xc, xp, nI oc, nI dc, nI cc, xs, oI, oO, dI, dO, cI, t, sI, sO)) : wpX_copyFirst__onOutputs_coverOutputs post (nI n, nI q, xc, xp, nI oc, nI dc, nI cc, xs, oI, oO, dI, dO, cI, cO, sI, sO) (nI c) :=
  ⟨c + 1, xv_cl_oO_cO hc k (c + 1) 0 _ (by omega) (by omega) (fun j hj => absurd hj (by omega))⟩
theorem xv_cl_cI_sI {post : SX → Prop} {c : Nat} (hc : c ≤ 16) (k : ∀ t : Nat → Int32, (∀ j, j < c → t j = cI j) → post (nI n, nI q, xc, xp, nI oc, nI dc, nI cc, xs, oI, oO, dI, dO, cI, cO, t, sO)) : ∀ (f i : Nat) (sI : Nat → Int32), c < f + i → i ≤ c → (∀ j, j < i → sI j = cI j) → wX_copyFirst__coverInputs_savedInputs_2 post (nI c) (nI n) (nI q) xc xp (nI oc) (nI dc) (nI cc) xs f (nI i) oI oO dI dO cI cO sI sO := by
  intro f
  induction f with
  | zero => intro i D h1 h2; omega
  | succ f ih =>
    intro i D h1 h2 h3
    refine pk_le c i (fun h => k D (fun j hj => h3 j (by omega))) (fun h => ⟨vp_in_nI (by omega) (by decide), vp_in_nI (by omega) (by decide), fun y ey z ez => ?_⟩)
    subst ey ez
    rw [nI_1, nI_clamp (n := i) (by omega)]
    refine ih (i + 1) _ (by omega) (by omega) (fun j hj => ?_)
    by_cases e : j = i
    · subst e; exact pk_us
    · rw [pk_un e]; exact h3 j (by omega)
theorem xv_cp_cI_sI {post : SX → Prop} {c : Nat} (hc : c ≤ 16) (k : ∀ t : Nat → Int32, (∀ j, j < c → t j = cI j) → post (nI n, nI q, xc, xp, nI oc, nI dc, nI cc, xs, oI, oO, dI, dO, cI, cO, t, sO)) : wpX_copyFirst__coverInputs_savedInputs post (nI n, nI q, xc, xp, nI oc, nI dc, nI cc, xs, oI, oO, dI, dO, cI, cO, sI, sO) (nI c) :=
  ⟨c + 1, xv_cl_cI_sI hc k (c + 1) 0 _ (by omega) (by omega) (fun j hj => absurd hj (by omega))⟩
theorem xv_cl_cO_sO {post : SX → Prop} {c : Nat} (hc : c ≤ 16) (k : ∀ t : Nat → Int32, (∀ j, j < c → t j = cO j) → post (nI n, nI q, xc, xp, nI oc, nI dc, nI cc, xs, oI, oO, dI, dO, cI, cO, sI, t)) : ∀ (f i : Nat) (sO : Nat → Int32), c < f + i → i ≤ c → (∀ j, j < i → sO j = cO j) → wX_copyFirst__coverOutputs_savedOutputs_2 post (nI c) (nI n) (nI q) xc xp (nI oc) (nI dc) (nI cc) xs f (nI i) oI oO dI dO cI cO sI sO := by
  intro f
  induction f with
  | zero => intro i D h1 h2; omega
  | succ f ih =>
    intro i D h1 h2 h3
    refine pk_le c i (fun h => k D (fun j hj => h3 j (by omega))) (fun h => ⟨vp_in_nI (by omega) (by decide), vp_in_nI (by omega) (by decide), fun y ey z ez => ?_⟩)
    subst ey ez
    rw [nI_1, nI_clamp (n := i) (by omega)]
    refine ih (i + 1) _ (by omega) (by omega) (fun j hj => ?_)
    by_cases e : j = i
    · subst e; exact pk_us
    · rw [pk_un e]; exact h3 j (by omega)
theorem xv_cp_cO_sO {post : SX → Prop} {c : Nat} (hc : c ≤ 16) (k : ∀ t : Nat → Int32, (∀ j, j < c → t j = cO j) → post (nI n, nI q, xc, xp, nI oc, nI dc, nI cc, xs, oI, oO, dI, dO, cI, cO, sI, t)) : wpX_copyFirst__coverOutputs_savedOutputs post (nI n, nI q, xc, xp, nI oc, nI dc, nI cc, xs, oI, oO, dI, dO, cI, cO, sI, sO) (nI c) :=
  ⟨c + 1, xv_cl_cO_sO hc k (c + 1) 0 _ (by omega) (by omega) (fun j hj => absurd hj (by omega))⟩
theorem xv_cl_sI_cI {post : SX → Prop} {c : Nat} (hc : c ≤ 16) (k : ∀ t : Nat → Int32, (∀ j, j < c → t j = sI j) → post (nI n, nI q, xc, xp, nI oc, nI dc, nI cc, xs, oI, oO, dI, dO, t, cO, sI, sO)) : ∀ (f i : Nat) (cI : Nat → Int32), c < f + i → i ≤ c → (∀ j, j < i → cI j = sI j) → wX_copyFirst__savedInputs_coverInputs_2 post (nI c) (nI n) (nI q) xc xp (nI oc) (nI dc) (nI cc) xs f (nI i) oI oO dI dO cI cO sI sO := by
  intro f
  induction f with
  | zero => intro i D h1 h2; omega
  | succ f ih =>
    intro i D h1 h2 h3
    refine pk_le c i (fun h => k D (fun j hj => h3 j (by omega))) (fun h => ⟨vp_in_nI (by omega) (by decide), vp_in_nI (by omega) (by decide), fun y ey z ez => ?_⟩)
    subst ey ez
    rw [nI_1, nI_clamp (n := i) (by omega)]
    refine ih (i + 1) _ (by omega) (by omega) (fun j hj => ?_)
    by_cases e : j = i
    · subst e; exact pk_us
    · rw [pk_un e]; exact h3 j (by omega)
theorem xv_cp_sI_cI {post : SX → Prop} {c : Nat} (hc : c ≤ 16) (k : ∀ t : Nat → Int32, (∀ j, j < c → t j = sI j) → post (nI n, nI q, xc, xp, nI oc, nI dc, nI cc, xs, oI, oO, dI, dO, t, cO, sI, sO)) : wpX_copyFirst__savedInputs_coverInputs post (nI n, nI q, xc, xp, nI oc, nI dc, nI cc, xs, oI, oO, dI, dO, cI, cO, sI, sO) (nI c) :=
  ⟨c + 1, xv_cl_sI_cI hc k (c + 1) 0 _ (by omega) (by omega) (fun j hj => absurd hj (by omega))⟩
theorem xv_cl_sO_cO {post : SX → Prop} {c : Nat} (hc : c ≤ 16) (k : ∀ t : Nat → Int32, (∀ j, j < c → t j = sO j) → post (nI n, nI q, xc, xp, nI oc, nI dc, nI cc, xs, oI, oO, dI, dO, cI, t, sI, sO)) : ∀ (f i : Nat) (cO : Nat → Int32), c < f + i → i ≤ c → (∀ j, j < i → cO j = sO j) → wX_copyFirst__savedOutputs_coverOutputs_2 post (nI c) (nI n) (nI q) xc xp (nI oc) (nI dc) (nI cc) xs f (nI i) oI oO dI dO cI cO sI sO := by
  intro f
  induction f with
  | zero => intro i D h1 h2; omega
  | succ f ih =>
    intro i D h1 h2 h3
    refine pk_le c i (fun h => k D (fun j hj => h3 j (by omega))) (fun h => ⟨vp_in_nI (by omega) (by decide), vp_in_nI (by omega) (by decide), fun y ey z ez => ?_⟩)
    subst ey ez
    rw [nI_1, nI_clamp (n := i) (by omega)]
    refine ih (i + 1) _ (by omega) (by omega) (fun j hj => ?_)
    by_cases e : j = i
    · subst e; exact pk_us
    · rw [pk_un e]; exact h3 j (by omega)
theorem xv_cp_sO_cO {post : SX → Prop} {c : Nat} (hc : c ≤ 16) (k : ∀ t : Nat → Int32, (∀ j, j < c → t j = sO j) → post (nI n, nI q, xc, xp, nI oc, nI dc, nI cc, xs, oI, oO, dI, dO, cI, t, sI, sO)) : wpX_copyFirst__savedOutputs_coverOutputs post (nI n, nI q, xc, xp, nI oc, nI dc, nI cc, xs, oI, oO, dI, dO, cI, cO, sI, sO) (nI c) :=
  ⟨c + 1, xv_cl_sO_cO hc k (c + 1) 0 _ (by omega) (by omega) (fun j hj => absurd hj (by omega))⟩
theorem xv_begin {post : Int32 → SX → Prop} (hoc : oc ≤ 16) (k : ∀ a b : Nat → Int32, tw_ls a b 0 oc = tw_ls oI oO 0 oc → post (nI oc) (nI n, nI q, xc, 1, nI oc, nI dc, nI oc, xs, oI, oO, dI, dO, a, b, sI, sO)) : wpX_begin post (nI n, nI q, xc, xp, nI oc, nI dc, nI cc, xs, oI, oO, dI, dO, cI, cO, sI, sO) := by
  unfold wpX_begin
  refine xv_cp_oI_cI hoc (fun a ha => ?_)
  refine xv_cp_oO_cO hoc (fun b hb => ?_)
  exact k a b (tw_ls_eq (fun j _ hj => ⟨ha j (by omega), hb j (by omega)⟩))
theorem xv_pm4 {post : Int32 → Prop} {m : Nat} (hn : n ≤ 8) (hm : m < 2 ^ 31) (k : post (tw_pm m n)) : ∀ (f i : Nat), n < f + i → i ≤ n → wX_partOfMinterm_4 post (nI m) (nI n) (nI q) xc xp (nI oc) (nI dc) (nI cc) xs oI oO dI dO cI cO sI sO f (tw_pm m i) (nI i) := by
  intro f
  induction f with
  | zero => intro i h1 h2; omega
  | succ f ih =>
    intro i h1 h2
    refine pk_le n i (fun h => ?_) (fun h y ey z ez w ew => ?_)
    · have e : i = n := by omega
      rw [e]; exact k
    · subst ew ez ey
      rw [nI_1, tw_mbit hm (by omega), tw_2x, nI_add]
      exact ih (i + 1) (by omega) (by omega)
theorem xv_pm {post : Int32 → Prop} {m : Nat} (hn : n ≤ 8) (hm : m < 2 ^ 31) (k : post (tw_pm m n)) : wpX_partOfMinterm post (nI n, nI q, xc, xp, nI oc, nI dc, nI cc, xs, oI, oO, dI, dO, cI, cO, sI, sO) (nI m) :=
  ⟨n + 1, xv_pm4 hn hm k (n + 1) 0 (by omega) (by omega)⟩
theorem xv_ol_oI {post : Int32 → Prop} {c : Nat} {M lo : Int32} (hc : c ≤ 16) (k : ∀ r : Int32, (∀ o, o < 32 → (bt r o = true ↔ ∃ j, j < c ∧ ¬ nI j = lo ∧ (oI j &&& M) = M ∧ bt (oO j) o = true)) → post r) : ∀ (f i : Nat) (r : Int32), c < f + i → i ≤ c → (∀ o, o < 32 → (bt r o = true ↔ ∃ j, j < i ∧ ¬ nI j = lo ∧ (oI j &&& M) = M ∧ bt (oO j) o = true)) → wX_outputsAt__onInputs_onOutputs_6 post M (nI c) lo (nI n) (nI q) xc xp (nI oc) (nI dc) (nI cc) xs oI oO dI dO cI cO sI sO f r (nI i) := by
  intro f
  induction f with
  | zero => intro i r h1 h2; omega
  | succ f ih =>
    intro i r h1 h2 h3
    refine pk_le c i (fun h => ?_) (fun h => br_c (fun e y ey => ?_) (fun e => ⟨vp_in_nI (by omega) (by decide), br_c (fun e2 => ⟨vp_in_nI (by omega) (by decide), fun y ey z ez => ?_⟩) (fun e2 y ey => ?_)⟩))
    · have e : i = c := by omega
      subst e
      exact k r h3
    · subst ey
      rw [nI_1]
      refine ih (i + 1) r (by omega) (by omega) (fun o ho => ?_)
      rw [h3 o ho]
      constructor
      · intro ⟨j, a, b⟩; exact ⟨j, by omega, b⟩
      · intro ⟨j, a, b⟩
        by_cases ej : j = i
        · subst ej; exact absurd e b.1
        · exact ⟨j, by omega, b⟩
    · rw [nI_clamp (n := i) (by omega)] at e2 ey
      subst ey ez
      rw [nI_1]
      refine ih (i + 1) _ (by omega) (by omega) (fun o ho => ?_)
      rw [b_or, Bool.or_eq_true, h3 o ho]
      constructor
      · rintro (⟨j, a, b⟩ | b)
        · exact ⟨j, by omega, b⟩
        · exact ⟨i, by omega, e, e2, b⟩
      · intro ⟨j, a, b⟩
        by_cases ej : j = i
        · subst ej; exact Or.inr b.2.2
        · exact Or.inl ⟨j, by omega, b⟩
    · rw [nI_clamp (n := i) (by omega)] at e2
      subst ey
      rw [nI_1]
      refine ih (i + 1) r (by omega) (by omega) (fun o ho => ?_)
      rw [h3 o ho]
      constructor
      · intro ⟨j, a, b⟩; exact ⟨j, by omega, b⟩
      · intro ⟨j, a, b⟩
        by_cases ej : j = i
        · subst ej; exact absurd b.2.1 e2
        · exact ⟨j, by omega, b⟩
theorem xv_oa_oI {post : Int32 → Prop} {c m : Nat} (hn : n ≤ 8) (hc : c ≤ 16) (k : ∀ r : Int32, (∀ o, o < 32 → (bt r o = true ↔ tw_hit n (tw_ls oI oO 0 c) m o)) → post r) : wpX_outputsAt__onInputs_onOutputs post (nI n, nI q, xc, xp, nI oc, nI dc, nI cc, xs, oI, oO, dI, dO, cI, cO, sI, sO) (tw_pm m n) (nI c) (-1) := by
  refine ⟨c + 1, xv_ol_oI hc (fun r hr => k r (fun o ho => ?_)) (c + 1) 0 0 (by omega) (by omega) (fun o ho => ?_)⟩
  · rw [hr o ho, tw_hit_ls]
    constructor
    · intro ⟨j, a, b, c2, d⟩; exact ⟨j, by omega, by omega, (tw_pm_ct (by omega)).mp c2, d⟩
    · intro ⟨j, a, b, c2, d⟩; exact ⟨j, by omega, tw_ne1 (by omega), (tw_pm_ct (by omega)).mpr c2, d⟩
  · rw [b_0]
    constructor
    · intro h; exact Bool.noConfusion h
    · intro ⟨j, a, b⟩; omega
theorem xv_ol_dI {post : Int32 → Prop} {c : Nat} {M lo : Int32} (hc : c ≤ 16) (k : ∀ r : Int32, (∀ o, o < 32 → (bt r o = true ↔ ∃ j, j < c ∧ ¬ nI j = lo ∧ (dI j &&& M) = M ∧ bt (dO j) o = true)) → post r) : ∀ (f i : Nat) (r : Int32), c < f + i → i ≤ c → (∀ o, o < 32 → (bt r o = true ↔ ∃ j, j < i ∧ ¬ nI j = lo ∧ (dI j &&& M) = M ∧ bt (dO j) o = true)) → wX_outputsAt__dcInputs_dcOutputs_6 post M (nI c) lo (nI n) (nI q) xc xp (nI oc) (nI dc) (nI cc) xs oI oO dI dO cI cO sI sO f r (nI i) := by
  intro f
  induction f with
  | zero => intro i r h1 h2; omega
  | succ f ih =>
    intro i r h1 h2 h3
    refine pk_le c i (fun h => ?_) (fun h => br_c (fun e y ey => ?_) (fun e => ⟨vp_in_nI (by omega) (by decide), br_c (fun e2 => ⟨vp_in_nI (by omega) (by decide), fun y ey z ez => ?_⟩) (fun e2 y ey => ?_)⟩))
    · have e : i = c := by omega
      subst e
      exact k r h3
    · subst ey
      rw [nI_1]
      refine ih (i + 1) r (by omega) (by omega) (fun o ho => ?_)
      rw [h3 o ho]
      constructor
      · intro ⟨j, a, b⟩; exact ⟨j, by omega, b⟩
      · intro ⟨j, a, b⟩
        by_cases ej : j = i
        · subst ej; exact absurd e b.1
        · exact ⟨j, by omega, b⟩
    · rw [nI_clamp (n := i) (by omega)] at e2 ey
      subst ey ez
      rw [nI_1]
      refine ih (i + 1) _ (by omega) (by omega) (fun o ho => ?_)
      rw [b_or, Bool.or_eq_true, h3 o ho]
      constructor
      · rintro (⟨j, a, b⟩ | b)
        · exact ⟨j, by omega, b⟩
        · exact ⟨i, by omega, e, e2, b⟩
      · intro ⟨j, a, b⟩
        by_cases ej : j = i
        · subst ej; exact Or.inr b.2.2
        · exact Or.inl ⟨j, by omega, b⟩
    · rw [nI_clamp (n := i) (by omega)] at e2
      subst ey
      rw [nI_1]
      refine ih (i + 1) r (by omega) (by omega) (fun o ho => ?_)
      rw [h3 o ho]
      constructor
      · intro ⟨j, a, b⟩; exact ⟨j, by omega, b⟩
      · intro ⟨j, a, b⟩
        by_cases ej : j = i
        · subst ej; exact absurd b.2.1 e2
        · exact ⟨j, by omega, b⟩
theorem xv_oa_dI {post : Int32 → Prop} {c m : Nat} (hn : n ≤ 8) (hc : c ≤ 16) (k : ∀ r : Int32, (∀ o, o < 32 → (bt r o = true ↔ tw_hit n (tw_ls dI dO 0 c) m o)) → post r) : wpX_outputsAt__dcInputs_dcOutputs post (nI n, nI q, xc, xp, nI oc, nI dc, nI cc, xs, oI, oO, dI, dO, cI, cO, sI, sO) (tw_pm m n) (nI c) (-1) := by
  refine ⟨c + 1, xv_ol_dI hc (fun r hr => k r (fun o ho => ?_)) (c + 1) 0 0 (by omega) (by omega) (fun o ho => ?_)⟩
  · rw [hr o ho, tw_hit_ls]
    constructor
    · intro ⟨j, a, b, c2, d⟩; exact ⟨j, by omega, by omega, (tw_pm_ct (by omega)).mp c2, d⟩
    · intro ⟨j, a, b, c2, d⟩; exact ⟨j, by omega, tw_ne1 (by omega), (tw_pm_ct (by omega)).mpr c2, d⟩
  · rw [b_0]
    constructor
    · intro h; exact Bool.noConfusion h
    · intro ⟨j, a, b⟩; omega
theorem xv_ol_cI {post : Int32 → Prop} {c : Nat} {M lo : Int32} (hc : c ≤ 16) (k : ∀ r : Int32, (∀ o, o < 32 → (bt r o = true ↔ ∃ j, j < c ∧ ¬ nI j = lo ∧ (cI j &&& M) = M ∧ bt (cO j) o = true)) → post r) : ∀ (f i : Nat) (r : Int32), c < f + i → i ≤ c → (∀ o, o < 32 → (bt r o = true ↔ ∃ j, j < i ∧ ¬ nI j = lo ∧ (cI j &&& M) = M ∧ bt (cO j) o = true)) → wX_outputsAt__coverInputs_coverOutputs_6 post M (nI c) lo (nI n) (nI q) xc xp (nI oc) (nI dc) (nI cc) xs oI oO dI dO cI cO sI sO f r (nI i) := by
  intro f
  induction f with
  | zero => intro i r h1 h2; omega
  | succ f ih =>
    intro i r h1 h2 h3
    refine pk_le c i (fun h => ?_) (fun h => br_c (fun e y ey => ?_) (fun e => ⟨vp_in_nI (by omega) (by decide), br_c (fun e2 => ⟨vp_in_nI (by omega) (by decide), fun y ey z ez => ?_⟩) (fun e2 y ey => ?_)⟩))
    · have e : i = c := by omega
      subst e
      exact k r h3
    · subst ey
      rw [nI_1]
      refine ih (i + 1) r (by omega) (by omega) (fun o ho => ?_)
      rw [h3 o ho]
      constructor
      · intro ⟨j, a, b⟩; exact ⟨j, by omega, b⟩
      · intro ⟨j, a, b⟩
        by_cases ej : j = i
        · subst ej; exact absurd e b.1
        · exact ⟨j, by omega, b⟩
    · rw [nI_clamp (n := i) (by omega)] at e2 ey
      subst ey ez
      rw [nI_1]
      refine ih (i + 1) _ (by omega) (by omega) (fun o ho => ?_)
      rw [b_or, Bool.or_eq_true, h3 o ho]
      constructor
      · rintro (⟨j, a, b⟩ | b)
        · exact ⟨j, by omega, b⟩
        · exact ⟨i, by omega, e, e2, b⟩
      · intro ⟨j, a, b⟩
        by_cases ej : j = i
        · subst ej; exact Or.inr b.2.2
        · exact Or.inl ⟨j, by omega, b⟩
    · rw [nI_clamp (n := i) (by omega)] at e2
      subst ey
      rw [nI_1]
      refine ih (i + 1) r (by omega) (by omega) (fun o ho => ?_)
      rw [h3 o ho]
      constructor
      · intro ⟨j, a, b⟩; exact ⟨j, by omega, b⟩
      · intro ⟨j, a, b⟩
        by_cases ej : j = i
        · subst ej; exact absurd b.2.1 e2
        · exact ⟨j, by omega, b⟩
theorem xv_oa_cI {post : Int32 → Prop} {c m : Nat} (hn : n ≤ 8) (hc : c ≤ 16) (k : ∀ r : Int32, (∀ o, o < 32 → (bt r o = true ↔ tw_hit n (tw_ls cI cO 0 c) m o)) → post r) : wpX_outputsAt__coverInputs_coverOutputs post (nI n, nI q, xc, xp, nI oc, nI dc, nI cc, xs, oI, oO, dI, dO, cI, cO, sI, sO) (tw_pm m n) (nI c) (-1) := by
  refine ⟨c + 1, xv_ol_cI hc (fun r hr => k r (fun o ho => ?_)) (c + 1) 0 0 (by omega) (by omega) (fun o ho => ?_)⟩
  · rw [hr o ho, tw_hit_ls]
    constructor
    · intro ⟨j, a, b, c2, d⟩; exact ⟨j, by omega, by omega, (tw_pm_ct (by omega)).mp c2, d⟩
    · intro ⟨j, a, b, c2, d⟩; exact ⟨j, by omega, tw_ne1 (by omega), (tw_pm_ct (by omega)).mpr c2, d⟩
  · rw [b_0]
    constructor
    · intro h; exact Bool.noConfusion h
    · intro ⟨j, a, b⟩; omega
theorem xv_ob {post : Int32 → Prop} {p m : Nat} (hn : n ≤ 8) (hc : cc ≤ 16) (hp : p < cc) (k : ∀ r : Int32, (∀ o, o < 32 → (bt r o = true ↔ tw_hit n (tw_ls cI cO 0 p ++ tw_ls cI cO (p + 1) (cc - p - 1)) m o)) → post r) : wpX_outputsAt__coverInputs_coverOutputs post (nI n, nI q, xc, xp, nI oc, nI dc, nI cc, xs, oI, oO, dI, dO, cI, cO, sI, sO) (tw_pm m n) (nI cc) (nI p) := by
  refine ⟨cc + 1, xv_ol_cI hc (fun r hr => k r (fun o ho => ?_)) (cc + 1) 0 0 (by omega) (by omega) (fun o ho => ?_)⟩
  · rw [hr o ho, tw_hit_but hp]
    constructor
    · intro ⟨j, a, b, c2, d⟩
      rw [nI_eq (by omega) (by omega)] at b
      exact ⟨j, a, b, (tw_pm_ct (by omega)).mp c2, d⟩
    · intro ⟨j, a, b, c2, d⟩
      refine ⟨j, a, ?_, (tw_pm_ct (by omega)).mpr c2, d⟩
      rw [nI_eq (by omega) (by omega)]
      exact b
  · rw [b_0]
    constructor
    · intro h; exact Bool.noConfusion h
    · intro ⟨j, a, b⟩; omega
end
