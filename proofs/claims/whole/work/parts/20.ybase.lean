/-! the reference's inner methods: each with a general post -/
section
variable {n q oc dc cc : Nat} {xc xp : Int32} {oI oO dI dO cI cO sI sO : Nat → Int32}
theorem yv_21 {post : Int32 → Prop} {p : Int32} (hn : n ≤ 8) : ∀ (f i : Nat), n < f + i → i ≤ n → ((∀ j, i ≤ j → j < n → ¬ ((p >>> ((2 * nI j) &&& 31)) &&& 3) = 0) → post 1) → ((∃ j, j < n ∧ ((p >>> ((2 * nI j) &&& 31)) &&& 3) = 0) → post 0) → wY_validInput_21 post p (nI n) (nI q) xc (nI oc) (nI dc) (nI cc) xp oI oO dI dO cI cO sI sO f (nI i) := by
  intro f
  induction f with
  | zero => intro i h1 h2; omega
  | succ f ih =>
    intro i h1 h2 k1 k0
    refine pk_le n i (fun h => k1 (fun j a b => absurd b (by omega))) (fun h => br_c (fun z => k0 ⟨i, h, z⟩) (fun z y ey => ?_))
    subst ey
    rw [nI_1]
    refine ih (i + 1) (by omega) (by omega) (fun hj => k1 (fun j a b => ?_)) k0
    by_cases e : j = i
    · rw [e]; exact z
    · exact hj j (by omega) b
theorem yv_validInput {post : Int32 → Prop} {p : Int32} (hn : n ≤ 8) (k1 : tw_vi n p → post 1) (k0 : ¬ tw_vi n p → post 0) : wpY_validInput post (nI n, nI q, xc, nI oc, nI dc, nI cc, xp, oI, oO, dI, dO, cI, cO, sI, sO) p :=
  br_c (fun h => br_c (fun h2 => ⟨n + 1, yv_21 hn (n + 1) 0 (by omega) (by omega) (fun hj => k1 ⟨Int32.not_lt.mpr h, h2, fun j b => hj j (by omega) b⟩) (fun ⟨j, hj, z⟩ => k0 (fun v => v.2.2 j hj z))⟩) (fun h2 => k0 (fun z => h2 z.2.1))) (fun h => k0 (fun z => h (Int32.not_lt.mp z.1)))
theorem yv_validMask {post : Int32 → Prop} {p : Int32} (hq : q ≤ 4) (k1 : tw_vm q p → post 1) (k0 : ¬ tw_vm q p → post 0) : wpY_validMask post (nI n, nI q, xc, nI oc, nI dc, nI cc, xp, oI, oO, dI, dO, cI, cO, sI, sO) p := by
  have hp := tw_pow4 hq
  have hp0 : 0 < 2 ^ q := Nat.two_pow_pos q
  have e : (1 : Int32) <<< (nI q &&& 31) - 1 = nI (2 ^ q - 1) := by
    rw [tw_p2 q (by omega)]
    exact pk_sub (b := 1) hp0
  refine br_c (fun h => k0 ?_) (fun h => br_c (fun h2 => k0 ?_) (fun h2 => k1 ?_))
  · rintro ⟨a, h1, h2, rfl⟩
    exact absurd h (nI_nlt (b := 1) h1 (by omega))
  · rintro ⟨a, h1, h3, rfl⟩
    rw [e, nI_ltI (by omega) (by omega)] at h2
    omega
  · have h0 : ¬ p < 0 := fun z => h (Int32.lt_trans z (by decide))
    obtain ⟨a, ha, rfl⟩ := nI_of h0
    have h3 : ¬ nI a < nI 1 := h
    rw [nI_ltI ha (by omega)] at h3
    rw [e, nI_ltI (by omega) ha] at h2
    exact ⟨a, by omega, by omega, rfl⟩
theorem tw_bitz {x : Int32} {k : Nat} (hk : k < 32) : ((x >>> (nI k &&& 31)) &&& 1) = 0 ↔ ¬ bt x k = true := by
  rw [tw_bit1 x k hk]
  cases bt x k <;> decide
theorem yv_ct14 {post : Int32 → Prop} {I : Int32} {m : Nat} (hn : n ≤ 8) (hm : m < 2 ^ 31) (k1 : tw_ct n I m → post 1) (k0 : ¬ tw_ct n I m → post 0) : ∀ (f i : Nat), n < f + i → i ≤ n → (∀ j, j < i → bt I (tw_at m j) = true) → wY_contains_14 post I (nI m) (nI n) (nI q) xc (nI oc) (nI dc) (nI cc) xp oI oO dI dO cI cO sI sO f (nI i) := by
  intro f
  induction f with
  | zero => intro i h1 h2; omega
  | succ f ih =>
    intro i h1 h2 h3
    refine pk_le n i (fun h => k1 (fun j hj => h3 j (by omega))) (fun h x ex => ?_)
    have hl : tw_at m i < 32 := by have := tw_at_lt (m := m) h; omega
    rw [tw_mbit hm (by omega)] at ex
    subst ex
    rw [tw_2x, nI_add]
    refine br_c (fun z => k0 (fun hc => ?_)) (fun z y ey => ?_)
    · exact (tw_bitz hl).mp z (hc i h)
    · subst ey
      rw [nI_1]
      refine ih (i + 1) (by omega) (by omega) (fun j hj => ?_)
      by_cases e : j = i
      · subst e
        exact Classical.byContradiction (fun g => z ((tw_bitz hl).mpr g))
      · exact h3 j (by omega)
theorem yv_contains {post : Int32 → Prop} {I O : Int32} {m o : Nat} (hn : n ≤ 8) (hm : m < 2 ^ 31) (ho : o < 32) (k1 : tw_ct n I m → bt O o = true → post 1) (k0 : ¬ (tw_ct n I m ∧ bt O o = true) → post 0) : wpY_contains post (nI n, nI q, xc, nI oc, nI dc, nI cc, xp, oI, oO, dI, dO, cI, cO, sI, sO) I O (nI m) (nI o) := by
  refine br_c (fun z => k0 (fun h => (tw_bitz ho).mp z h.2)) (fun z => ⟨n + 1, ?_⟩)
  have hb : bt O o = true := Classical.byContradiction (fun g => z ((tw_bitz ho).mpr g))
  exact yv_ct14 hn hm (fun h => k1 h hb) (fun h => k0 (fun g => h g.1)) (n + 1) 0 (by omega) (by omega) (fun j hj => absurd hj (by omega))
theorem yv_f47 {post : Int32 → Prop} {m o : Nat} (hn : n ≤ 8) (hm : m < 2 ^ 31) (ho : o < 32) (hc : oc ≤ 16) (k1 : tw_hit n (tw_ls oI oO 0 oc) m o → post 1) (k0 : ¬ tw_hit n (tw_ls oI oO 0 oc) m o → post 0) : ∀ (f i : Nat), oc < f + i → i ≤ oc → (∀ j, j < i → ¬ (tw_ct n (oI j) m ∧ bt (oO j) o = true)) → wY_func_47 post (nI m) (nI o) (nI n) (nI q) xc (nI oc) (nI dc) (nI cc) xp oI oO dI dO cI cO sI sO f (nI i) := by
  intro f
  induction f with
  | zero => intro i h1 h2; omega
  | succ f ih =>
    intro i h1 h2 h3
    refine pk_le oc i (fun h => k0 ?_) (fun h => pk_le 16 i (fun g => absurd g (by omega)) (fun _ => ⟨vp_in_nI (by omega) (by decide), vp_in_nI (by omega) (by decide), ?_⟩))
    · rw [tw_hit_ls]
      rintro ⟨j, g1, g2, g3⟩
      exact h3 j (by omega) g3
    · rw [nI_clamp (n := i) (by omega)]
      refine yv_contains hn hm ho (fun g1 g2 => br_f (by decide) (k1 (tw_hit_ls.mpr ⟨i, by omega, by omega, g1, g2⟩))) (fun g => br_t rfl (fun y ey => ?_))
      subst ey
      rw [nI_1]
      refine ih (i + 1) (by omega) (by omega) (fun j hj => ?_)
      by_cases e : j = i
      · subst e; exact g
      · exact h3 j (by omega)
theorem yv_f2 {post : Int32 → Prop} {m o : Nat} (hn : n ≤ 8) (hm : m < 2 ^ 31) (ho : o < 32) (hc : oc ≤ 16) (hd : dc ≤ 16) (kd : tw_hit n (tw_ls dI dO 0 dc) m o → post 2) (k1 : ¬ tw_hit n (tw_ls dI dO 0 dc) m o → tw_hit n (tw_ls oI oO 0 oc) m o → post 1) (k0 : ¬ tw_hit n (tw_ls dI dO 0 dc) m o → ¬ tw_hit n (tw_ls oI oO 0 oc) m o → post 0) : ∀ (f i : Nat), dc < f + i → i ≤ dc → (∀ j, j < i → ¬ (tw_ct n (dI j) m ∧ bt (dO j) o = true)) → wY_func_2 post (nI m) (nI o) (nI n) (nI q) xc (nI oc) (nI dc) (nI cc) xp oI oO dI dO cI cO sI sO f (nI i) := by
  intro f
  induction f with
  | zero => intro i h1 h2; omega
  | succ f ih =>
    intro i h1 h2 h3
    refine pk_le dc i (fun h => ?_) (fun h => pk_le 16 i (fun g => absurd g (by omega)) (fun _ => ⟨vp_in_nI (by omega) (by decide), vp_in_nI (by omega) (by decide), ?_⟩))
    · have hn2 : ¬ tw_hit n (tw_ls dI dO 0 dc) m o := by
        rw [tw_hit_ls]
        rintro ⟨j, g1, g2, g3⟩
        exact h3 j (by omega) g3
      exact ⟨oc + 1, yv_f47 hn hm ho hc (k1 hn2) (k0 hn2) (oc + 1) 0 (by omega) (by omega) (fun j hj => absurd hj (by omega))⟩
    · rw [nI_clamp (n := i) (by omega)]
      refine yv_contains hn hm ho (fun g1 g2 => br_f (by decide) (kd (tw_hit_ls.mpr ⟨i, by omega, by omega, g1, g2⟩))) (fun g => br_t rfl (fun y ey => ?_))
      subst ey
      rw [nI_1]
      refine ih (i + 1) (by omega) (by omega) (fun j hj => ?_)
      by_cases e : j = i
      · subst e; exact g
      · exact h3 j (by omega)
theorem yv_func {post : Int32 → Prop} {m o : Nat} (hn : n ≤ 8) (hm : m < 2 ^ 31) (ho : o < 32) (hc : oc ≤ 16) (hd : dc ≤ 16) (kd : tw_hit n (tw_ls dI dO 0 dc) m o → post 2) (k1 : ¬ tw_hit n (tw_ls dI dO 0 dc) m o → tw_hit n (tw_ls oI oO 0 oc) m o → post 1) (k0 : ¬ tw_hit n (tw_ls dI dO 0 dc) m o → ¬ tw_hit n (tw_ls oI oO 0 oc) m o → post 0) : wpY_func post (nI n, nI q, xc, nI oc, nI dc, nI cc, xp, oI, oO, dI, dO, cI, cO, sI, sO) (nI m) (nI o) :=
  ⟨dc + 1, yv_f2 hn hm ho hc hd kd k1 k0 (dc + 1) 0 (by omega) (by omega) (fun j hj => absurd hj (by omega))⟩
theorem yv_ev31 {post : Int32 → Prop} {m o : Nat} (hn : n ≤ 8) (hm : m < 2 ^ 31) (ho : o < 32) (hc : cc ≤ 16) (k1 : tw_hit n (tw_ls cI cO 0 cc) m o → post 1) (k0 : ¬ tw_hit n (tw_ls cI cO 0 cc) m o → post 0) : ∀ (f i : Nat), cc < f + i → i ≤ cc → (∀ j, j < i → ¬ (tw_ct n (cI j) m ∧ bt (cO j) o = true)) → wY_evaluate_31 post (nI m) (nI o) (nI n) (nI q) xc (nI oc) (nI dc) (nI cc) xp oI oO dI dO cI cO sI sO f (nI i) := by
  intro f
  induction f with
  | zero => intro i h1 h2; omega
  | succ f ih =>
    intro i h1 h2 h3
    refine pk_le cc i (fun h => k0 ?_) (fun h => pk_le 16 i (fun g => absurd g (by omega)) (fun _ => ⟨vp_in_nI (by omega) (by decide), vp_in_nI (by omega) (by decide), ?_⟩))
    · rw [tw_hit_ls]
      rintro ⟨j, g1, g2, g3⟩
      exact h3 j (by omega) g3
    · rw [nI_clamp (n := i) (by omega)]
      refine yv_contains hn hm ho (fun g1 g2 => br_f (by decide) (k1 (tw_hit_ls.mpr ⟨i, by omega, by omega, g1, g2⟩))) (fun g => br_t rfl (fun y ey => ?_))
      subst ey
      rw [nI_1]
      refine ih (i + 1) (by omega) (by omega) (fun j hj => ?_)
      by_cases e : j = i
      · subst e; exact g
      · exact h3 j (by omega)
theorem yv_im19 {post : Int32 → Prop} {J10 : Int32 → Prop} {I O x3 : Int32} {m : Nat} (hn : n ≤ 8) (hq : q ≤ 4) (hm : m < 2 ^ 30) (hc : oc ≤ 16) (hd : dc ≤ 16)
    (kJ : (∀ o, o < q → tw_ct n I m → bt O o = true → tw_hit n (tw_ls oI oO 0 oc) m o ∨ tw_hit n (tw_ls dI dO 0 dc) m o) → J10 (nI (m + 1)))
    (k0 : (∃ o, o < q ∧ ¬ (tw_ct n I m → bt O o = true → tw_hit n (tw_ls oI oO 0 oc) m o ∨ tw_hit n (tw_ls dI dO 0 dc) m o)) → post 0) :
    ∀ (f i : Nat), q < f + i → i ≤ q → (∀ o, o < i → tw_ct n I m → bt O o = true → tw_hit n (tw_ls oI oO 0 oc) m o ∨ tw_hit n (tw_ls dI dO 0 dc) m o) → wY_implicant_19 post J10 I O x3 (nI m) (nI n) (nI q) xc (nI oc) (nI dc) (nI cc) xp oI oO dI dO cI cO sI sO f (nI i) := by
  intro f
  induction f with
  | zero => intro i h1 h2; omega
  | succ f ih =>
    intro i h1 h2 h3
    have nx : (tw_ct n I m → bt O i = true → tw_hit n (tw_ls oI oO 0 oc) m i ∨ tw_hit n (tw_ls dI dO 0 dc) m i) → i < q → ∀ y : Int32, y = nI i + 1 → wY_implicant_19 post J10 I O x3 (nI m) (nI n) (nI q) xc (nI oc) (nI dc) (nI cc) xp oI oO dI dO cI cO sI sO f y := by
      intro g hi y ey
      subst ey
      rw [nI_1]
      refine ih (i + 1) (by omega) (by omega) (fun o ho => ?_)
      by_cases e : o = i
      · subst e; exact g
      · exact h3 o (by omega)
    refine pk_le q i (fun h y ey => ?_) (fun h => yv_contains hn (by omega) (by omega) (fun g1 g2 => br_f (by decide) (yv_func hn (by omega) (by omega) hc hd (fun a => br_f (by decide) (nx (fun _ _ => Or.inr a) h)) (fun _ a => br_f (by decide) (nx (fun _ _ => Or.inl a) h)) (fun a b => br_t rfl (k0 ⟨i, h, fun g => ?_⟩)))) (fun g => br_t rfl (nx (fun g1 g2 => absurd ⟨g1, g2⟩ g) h)))
    · subst ey
      rw [nI_1]
      exact kJ (fun o ho => h3 o (by omega))
    · rcases g g1 g2 with c | c
      · exact b c
      · exact a c
theorem yv_im10 {post : Int32 → Prop} {I O : Int32} (hn : n ≤ 8) (hq : q ≤ 4) (hc : oc ≤ 16) (hd : dc ≤ 16)
    (k1 : tw_imp n q (tw_ls oI oO 0 oc) (tw_ls dI dO 0 dc) I O → post 1) (k0 : ¬ tw_imp n q (tw_ls oI oO 0 oc) (tw_ls dI dO 0 dc) I O → post 0) :
    ∀ (f i : Nat), 2 ^ n < f + i → i ≤ 2 ^ n → (∀ m, m < i → ∀ o, o < q → tw_ct n I m → bt O o = true → tw_hit n (tw_ls oI oO 0 oc) m o ∨ tw_hit n (tw_ls dI dO 0 dc) m o) → wY_implicant_10 post I O (nI (2 ^ n)) (nI n) (nI q) xc (nI oc) (nI dc) (nI cc) xp oI oO dI dO cI cO sI sO f (nI i) := by
  have hp := tw_pow8 hn
  intro f
  induction f with
  | zero => intro i h1 h2; omega
  | succ f ih =>
    intro i h1 h2 h3
    refine pk_le (2 ^ n) i (fun h => k1 (fun m hm => h3 m (by omega))) (fun h => ⟨q + 1, yv_im19 hn hq (by omega) hc hd (fun g => ?_) (fun ⟨o, ho, g⟩ => k0 (fun z => g (z i h o ho))) (q + 1) 0 (by omega) (by omega) (fun o ho => absurd ho (by omega))⟩)
    refine ih (i + 1) (by omega) (by omega) (fun m hm => ?_)
    by_cases e : m = i
    · subst e; exact g
    · exact h3 m (by omega)
theorem yv_implicant {post : Int32 → Prop} {I O : Int32} (hn : n ≤ 8) (hq : q ≤ 4) (hc : oc ≤ 16) (hd : dc ≤ 16)
    (k1 : tw_imp n q (tw_ls oI oO 0 oc) (tw_ls dI dO 0 dc) I O → post 1) (k0 : ¬ tw_imp n q (tw_ls oI oO 0 oc) (tw_ls dI dO 0 dc) I O → post 0) : wpY_implicant post (nI n, nI q, xc, nI oc, nI dc, nI cc, xp, oI, oO, dI, dO, cI, cO, sI, sO) I O := by
  intro y ey
  rw [tw_p2 n (by omega)] at ey
  subst ey
  exact ⟨2 ^ n + 1, yv_im10 hn hq hc hd k1 k0 (2 ^ n + 1) 0 (by omega) (Nat.zero_le _) (fun m hm => absurd hm (by omega))⟩
theorem yv_co3 {post : Int32 → Prop} {m o p : Nat} (hn : n ≤ 8) (hm : m < 2 ^ 31) (ho : o < 32) (hc : cc ≤ 16) (hp : p < cc) (k1 : tw_hit n (tw_ls cI cO 0 p ++ tw_ls cI cO (p + 1) (cc - p - 1)) m o → post 1) (k0 : ¬ tw_hit n (tw_ls cI cO 0 p ++ tw_ls cI cO (p + 1) (cc - p - 1)) m o → post 0) : ∀ (f i : Nat), cc < f + i → i ≤ cc → (∀ j, j < i → ¬ j = p → ¬ (tw_ct n (cI j) m ∧ bt (cO j) o = true)) → wY_coveredByOther_3 post (nI m) (nI o) (nI p) (nI n) (nI q) xc (nI oc) (nI dc) (nI cc) xp oI oO dI dO cI cO sI sO f (nI i) := by
  intro f
  induction f with
  | zero => intro i h1 h2; omega
  | succ f ih =>
    intro i h1 h2 h3
    refine pk_le cc i (fun h => k0 ?_) (fun h => pk_le 16 i (fun g => absurd g (by omega)) (fun _ => pk_eq i p (fun e y ey => ?_) (fun e => ⟨vp_in_nI (by omega) (by decide), vp_in_nI (by omega) (by decide), ?_⟩)))
    · rw [tw_hit_but hp]
      rintro ⟨j, g1, g2, g3⟩
      exact h3 j (by omega) g2 g3
    · subst ey
      rw [nI_1]
      refine ih (i + 1) (by omega) (by omega) (fun j hj hjp => h3 j (by omega) hjp)
    · rw [nI_clamp (n := i) (by omega)]
      refine yv_contains hn hm ho (fun g1 g2 => br_f (by decide) (k1 ((tw_hit_but hp).mpr ⟨i, h, e, g1, g2⟩))) (fun g => br_t rfl (fun y ey => ?_))
      subst ey
      rw [nI_1]
      refine ih (i + 1) (by omega) (by omega) (fun j hj hjp => ?_)
      by_cases e2 : j = i
      · subst e2; exact g
      · exact h3 j (by omega) hjp
theorem yv_covered {post : Int32 → Prop} {m o p : Nat} (hn : n ≤ 8) (hm : m < 2 ^ 31) (ho : o < 32) (hc : cc ≤ 16) (hp : p < cc) (k1 : tw_hit n (tw_ls cI cO 0 p ++ tw_ls cI cO (p + 1) (cc - p - 1)) m o → post 1) (k0 : ¬ tw_hit n (tw_ls cI cO 0 p ++ tw_ls cI cO (p + 1) (cc - p - 1)) m o → post 0) : wpY_coveredByOther post (nI n, nI q, xc, nI oc, nI dc, nI cc, xp, oI, oO, dI, dO, cI, cO, sI, sO) (nI m) (nI o) (nI p) :=
  ⟨cc + 1, yv_co3 hn hm ho hc hp k1 k0 (cc + 1) 0 (by omega) (by omega) (fun j hj => absurd hj (by omega))⟩
/-- the threefold question of hasPrivate and doReduce -/
theorem yv_chk {A1 A2 A3 B : Prop} {m o p : Nat} (hn : n ≤ 8) (hm : m < 2 ^ 31) (ho : o < 32) (hoc : oc ≤ 16) (hdc : dc ≤ 16) (hc : cc ≤ 16) (hp : p < cc)
    (kb : tw_own n (tw_ls oI oO 0 oc) (tw_ls dI dO 0 dc) (cI p, cO p) (tw_ls cI cO 0 p ++ tw_ls cI cO (p + 1) (cc - p - 1)) m o → B)
    (ka : ¬ tw_own n (tw_ls oI oO 0 oc) (tw_ls dI dO 0 dc) (cI p, cO p) (tw_ls cI cO 0 p ++ tw_ls cI cO (p + 1) (cc - p - 1)) m o → A1 ∧ A2 ∧ A3) :
    wpY_contains (fun r => (r = 0 → A1) ∧ (¬ r = 0 → wpY_func (fun r2 => (r2 = 1 → wpY_coveredByOther (fun r3 => (r3 = 0 → B) ∧ (¬ r3 = 0 → A3)) (nI n, nI q, xc, nI oc, nI dc, nI cc, xp, oI, oO, dI, dO, cI, cO, sI, sO) (nI m) (nI o) (nI p)) ∧ (¬ r2 = 1 → A2)) (nI n, nI q, xc, nI oc, nI dc, nI cc, xp, oI, oO, dI, dO, cI, cO, sI, sO) (nI m) (nI o))) (nI n, nI q, xc, nI oc, nI dc, nI cc, xp, oI, oO, dI, dO, cI, cO, sI, sO) (cI p) (cO p) (nI m) (nI o) :=
  yv_contains hn hm ho (fun g1 g2 => br_f (by decide) (yv_func hn hm ho hoc hdc (fun a => br_f (by decide) (ka (fun z => z.2.2.1.2 a)).2.1) (fun a b => br_t rfl (yv_covered hn hm ho hc hp (fun g3 => br_f (by decide) (ka (fun z => z.2.2.2 g3)).2.2) (fun g3 => br_t rfl (kb ⟨g1, g2, ⟨b, a⟩, g3⟩)))) (fun a b => br_f (by decide) (ka (fun z => b z.2.2.1.1)).2.1))) (fun g => br_t rfl (ka (fun z => g ⟨z.1, z.2.1⟩)).1)
theorem yv_rm2 {post : SY → Prop} {p : Nat} {a0 b0 : Nat → Int32} (hc : cc ≤ 16) (hp : p < cc)
    (k : ∀ a b : Nat → Int32, tw_ls a b 0 (cc - 1) = tw_ls a0 b0 0 p ++ tw_ls a0 b0 (p + 1) (cc - p - 1) → post (nI n, nI q, xc, nI oc, nI dc, nI (cc - 1), xp, oI, oO, dI, dO, a, b, sI, sO)) :
    ∀ (f i : Nat) (cI cO : Nat → Int32), cc ≤ f + i → p ≤ i → i < cc → (∀ j, j < p → cI j = a0 j ∧ cO j = b0 j) → (∀ j, p ≤ j → j < i → cI j = a0 (j + 1) ∧ cO j = b0 (j + 1)) → (∀ j, i < j → cI j = a0 j ∧ cO j = b0 j) → wY_removeAt_2 post (nI n) (nI q) xc (nI oc) (nI dc) (nI cc) xp f (nI i) oI oO dI dO cI cO sI sO := by
  obtain ⟨c, rfl⟩ : ∃ c, cc = c + 1 := ⟨cc - 1, by omega⟩
  rw [Nat.add_sub_cancel] at k
  intro f
  induction f with
  | zero => intro i a b h1 h2 h3; omega
  | succ f ih =>
    intro i a b h1 h2 h3 g1 g2 g3
    have fin : c ≤ i → ∀ y : Int32, y = nI (c + 1) - 1 → post (nI n, nI q, xc, nI oc, nI dc, y, xp, oI, oO, dI, dO, a, b, sI, sO) := by
      intro h y ey
      rw [nI_pred] at ey
      subst ey
      have e : i = c := by omega
      subst e
      refine k a b ?_
      have h5 := tw_ls_rm (a := a0) (b := b0) (a' := a) (b' := b) hp g1 (fun j b1 b2 => g2 j b1 (by omega))
      rw [Nat.add_sub_cancel] at h5
      exact h5
    refine pk_le c i (fun h => fin h) (fun h => pk_le 15 i (fun g => absurd g (by omega)) (fun _ => ?_)) (hx := nI_pred c)
    rw [nI_1, nI_clamp (n := i) (by omega), nI_clamp (n := i + 1) (by omega)]
    refine ⟨vp_in_nI (by omega) (by decide), vp_in_nI (by omega) (by decide), fun y ey => ⟨vp_in_nI (by omega) (by decide), vp_in_nI (by omega) (by decide), fun z ez w ew => ?_⟩⟩
    subst ey ez ew
    have h5 := g3 (i + 1) (by omega)
    refine ih (i + 1) _ _ (by omega) (by omega) (by omega) (fun j hj => ?_) (fun j b1 b2 => ?_) (fun j hj => ?_)
    · rw [pk_un (by omega), pk_un (by omega)]; exact g1 j hj
    · by_cases ej : j = i
      · subst ej; rw [pk_us, pk_us]; exact h5
      · rw [pk_un ej, pk_un ej]; exact g2 j b1 (by omega)
    · rw [pk_un (by omega), pk_un (by omega)]; exact g3 j (by omega)
theorem yv_removeAt {post : SY → Prop} {p : Nat} (hc : cc ≤ 16) (hp : p < cc)
    (k : ∀ a b : Nat → Int32, tw_ls a b 0 (cc - 1) = tw_ls cI cO 0 p ++ tw_ls cI cO (p + 1) (cc - p - 1) → post (nI n, nI q, xc, nI oc, nI dc, nI (cc - 1), xp, oI, oO, dI, dO, a, b, sI, sO)) : wpY_removeAt post (nI n, nI q, xc, nI oc, nI dc, nI cc, xp, oI, oO, dI, dO, cI, cO, sI, sO) (nI p) :=
  ⟨cc, yv_rm2 hc hp k cc p cI cO (by omega) (by omega) (by omega) (fun j _ => ⟨rfl, rfl⟩) (fun j h1 h2 => absurd h2 (by omega)) (fun j _ => ⟨rfl, rfl⟩)⟩
theorem yv_pp4 {post : Int32 → Prop} {m : Nat} (hn : n ≤ 8) (hm : m < 2 ^ 31) (k : post (tw_pm m n)) : ∀ (f i : Nat), n < f + i → i ≤ n → wY_pointPart_4 post (nI m) (nI n) (nI q) xc (nI oc) (nI dc) (nI cc) xp oI oO dI dO cI cO sI sO f (tw_pm m i) (nI i) := by
  intro f
  induction f with
  | zero => intro i h1 h2; omega
  | succ f ih =>
    intro i h1 h2
    refine pk_le n i (fun h => ?_) (fun h y ey z ez => ?_)
    · have e : i = n := by omega
      rw [e]; exact k
    · rw [tw_mbit hm (by omega), tw_2x, nI_add] at ey
      subst ez ey
      rw [nI_1]
      exact ih (i + 1) (by omega) (by omega)
theorem yv_pointPart {post : Int32 → Prop} {m : Nat} (hn : n ≤ 8) (hm : m < 2 ^ 31) (k : post (tw_pm m n)) : wpY_pointPart post (nI n, nI q, xc, nI oc, nI dc, nI cc, xp, oI, oO, dI, dO, cI, cO, sI, sO) (nI m) :=
  ⟨n + 1, yv_pp4 hn hm k (n + 1) 0 (by omega) (by omega)⟩
theorem yv_li20 {post : Int32 → Prop} {J4 : Int32 → Int32 → Prop} {s t : Nat} (hn : n ≤ 8) (ht : t < 16) (k : J4 (nI (s + tw_lc (cI t) n)) (nI (t + 1))) : ∀ (f i : Nat), n < f + i → i ≤ n → wY_literals_20 post J4 (nI t) (nI n) (nI q) xc (nI oc) (nI dc) (nI cc) xp oI oO dI dO cI cO sI sO f (nI (s + tw_lc (cI t) i)) (nI i) := by
  intro f
  induction f with
  | zero => intro i h1 h2; omega
  | succ f ih =>
    intro i h1 h2
    refine pk_le n i (fun h y ey => ?_) (fun h => ⟨vp_in_nI ht (by decide), fun x ex => ?_⟩)
    · have e : i = n := by omega
      subst e ey
      rw [nI_1]; exact k
    · rw [tw_2x, nI_clamp (n := t) (by omega)] at ex
      subst ex
      have hf := tw_lcf (cI t) i (by omega)
      have hs : ∀ y z : Int32, (bt (cI t) (2 * i) = bt (cI t) (2 * i + 1) → y = nI (s + tw_lc (cI t) i)) → (¬ bt (cI t) (2 * i) = bt (cI t) (2 * i + 1) → y = nI (s + tw_lc (cI t) i) + 1) → z = nI i + 1 → wY_literals_20 post J4 (nI t) (nI n) (nI q) xc (nI oc) (nI dc) (nI cc) xp oI oO dI dO cI cO sI sO f y z := by
        intro y z g1 g2 ez
        have ey : y = nI (s + tw_lc (cI t) (i + 1)) := by
          show y = nI (s + (tw_lc (cI t) i + (if bt (cI t) (2 * i) = bt (cI t) (2 * i + 1) then 0 else 1)))
          by_cases g : bt (cI t) (2 * i) = bt (cI t) (2 * i + 1)
          · rw [if_pos g, g1 g]; rfl
          · rw [if_neg g, g2 g, nI_1, Nat.add_assoc]
        subst ey ez
        rw [nI_1]
        exact ih (i + 1) (by omega) (by omega)
      refine br_c (fun g y ey z ez => hs y z (fun e => absurd e (hf.mp (Or.inl g))) (fun _ => ey) ez) (fun g => br_c (fun g2 y ey z ez => hs y z (fun e => absurd e (hf.mp (Or.inr g2))) (fun _ => ey) ez) (fun g2 z ez => hs _ z (fun _ => rfl) (fun e => ?_) ez))
      rcases hf.mpr e with g3 | g3
      · exact absurd g3 g
      · exact absurd g3 g2
theorem yv_li4 {post : Int32 → Prop} (hn : n ≤ 8) (hc : cc ≤ 16) (k : post (nI (tw_li n (tw_ls cI cO 0 cc)))) : ∀ (f i : Nat), cc < f + i → i ≤ cc → wY_literals_4 post (nI n) (nI q) xc (nI oc) (nI dc) (nI cc) xp oI oO dI dO cI cO sI sO f (nI (tw_li n (tw_ls cI cO 0 i))) (nI i) := by
  intro f
  induction f with
  | zero => intro i h1 h2; omega
  | succ f ih =>
    intro i h1 h2
    refine pk_le cc i (fun h => ?_) (fun h => pk_le 16 i (fun g => absurd g (by omega)) (fun _ => ⟨n + 1, ?_⟩))
    · have e : i = cc := by omega
      subst e; exact k
    · have e2 : tw_li n (tw_ls cI cO 0 (i + 1)) = tw_li n (tw_ls cI cO 0 i) + tw_lc (cI i) n := by
        rw [tw_ls_snoc, tw_li_app, Nat.zero_add]
        rfl
      refine yv_li20 (s := tw_li n (tw_ls cI cO 0 i)) hn (by omega) ?_ (n + 1) 0 (by omega) (by omega)
      rw [← e2]
      exact ih (i + 1) (by omega) (by omega)
theorem yv_literals {post : Int32 → Prop} (hn : n ≤ 8) (hc : cc ≤ 16) (k : post (nI (tw_li n (tw_ls cI cO 0 cc)))) : wpY_literals post (nI n, nI q, xc, nI oc, nI dc, nI cc, xp, oI, oO, dI, dO, cI, cO, sI, sO) :=
  ⟨cc + 1, yv_li4 hn hc k (cc + 1) 0 (by omega) (by omega)⟩
end
