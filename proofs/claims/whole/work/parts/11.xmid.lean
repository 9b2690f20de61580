/-! the component: implicants, own points, removal, raising, dropping, literals -/
section
variable {n q oc dc cc : Nat} {xc xp xs : Int32} {oI oO dI dO cI cO sI sO : Nat → Int32}
theorem xv_av10 {post : Int32 → Prop} {I O : Int32} (hn : n ≤ 8) (ho : oc ≤ 16) (hd : dc ≤ 16)
    (k1 : (∀ m, m < 2 ^ n → tw_ct n I m → ∀ o, o < 32 → bt O o = true → tw_hit n (tw_ls oI oO 0 oc) m o ∨ tw_hit n (tw_ls dI dO 0 dc) m o) → post 1)
    (k0 : ¬ (∀ m, m < 2 ^ n → tw_ct n I m → ∀ o, o < 32 → bt O o = true → tw_hit n (tw_ls oI oO 0 oc) m o ∨ tw_hit n (tw_ls dI dO 0 dc) m o) → post 0) :
    ∀ (f i : Nat), 2 ^ n < f + i → i ≤ 2 ^ n → (∀ m, m < i → tw_ct n I m → ∀ o, o < 32 → bt O o = true → tw_hit n (tw_ls oI oO 0 oc) m o ∨ tw_hit n (tw_ls dI dO 0 dc) m o) → wX_avoidsOff_10 post I O (nI (2 ^ n)) (nI n) (nI q) xc xp (nI oc) (nI dc) (nI cc) xs oI oO dI dO cI cO sI sO f (nI i) := by
  have hp := tw_pow8 hn
  intro f
  induction f with
  | zero => intro i h1 h2; omega
  | succ f ih =>
    intro i h1 h2 h3
    refine pk_le (2 ^ n) i (fun h => k1 (fun m hm => h3 m (by omega))) (fun h => xv_pm hn (by omega) (br_c (fun e => xv_oa_oI hn ho (fun r1 e1 => xv_oa_dI hn hd (fun r2 e2 => br_c (fun z y ey => ?_) (fun z => k0 ?_)))) (fun e y ey => ?_)))
    · subst ey
      rw [nI_1]
      refine ih (i + 1) (by omega) (by omega) (fun m hm => ?_)
      by_cases em : m = i
      · subst em
        intro _
        exact (tw_offx e1 e2).mp z
      · exact h3 m (by omega)
    · intro hall
      exact z ((tw_offx e1 e2).mpr (hall i h ((tw_pm_ct (by omega)).mp e)))
    · subst ey
      rw [nI_1]
      refine ih (i + 1) (by omega) (by omega) (fun m hm => ?_)
      by_cases em : m = i
      · subst em
        intro hc
        exact absurd ((tw_pm_ct (by omega)).mpr hc) e
      · exact h3 m (by omega)
theorem xv_avoidsOff {post : Int32 → Prop} {I O : Int32} (hn : n ≤ 8) (hq : q ≤ 4) (ho : oc ≤ 16) (hd : dc ≤ 16) (hO : ∀ o, bt O o = true → o < q)
    (k1 : tw_imp n q (tw_ls oI oO 0 oc) (tw_ls dI dO 0 dc) I O → post 1) (k0 : ¬ tw_imp n q (tw_ls oI oO 0 oc) (tw_ls dI dO 0 dc) I O → post 0) : wpX_avoidsOff post (nI n, nI q, xc, xp, nI oc, nI dc, nI cc, xs, oI, oO, dI, dO, cI, cO, sI, sO) I O := by
  intro y ey
  rw [tw_p2 n (by omega)] at ey
  subst ey
  refine ⟨2 ^ n + 1, xv_av10 hn ho hd (fun h => k1 ((tw_impx hq hO).mpr h)) (fun h => k0 (fun z => h ((tw_impx hq hO).mp z))) (2 ^ n + 1) 0 (by omega) (Nat.zero_le _) (fun m hm => absurd hm (by omega))⟩
theorem xv_own {post : Int32 → Prop} {p m : Nat} (hn : n ≤ 8) (ho : oc ≤ 16) (hd : dc ≤ 16) (hc : cc ≤ 16) (hp : p < cc)
    (k : ∀ w : Int32, (∀ o, o < 32 → (bt w o = true ↔ tw_own n (tw_ls oI oO 0 oc) (tw_ls dI dO 0 dc) (cI p, cO p) (tw_ls cI cO 0 p ++ tw_ls cI cO (p + 1) (cc - p - 1)) m o)) → post w) : wpX_ownOutputs post (nI n, nI q, xc, xp, nI oc, nI dc, nI cc, xs, oI, oO, dI, dO, cI, cO, sI, sO) (nI p) (tw_pm m n) := by
  have hcl : (nI p).toNatClampNeg = p := nI_clamp (by omega)
  refine ⟨vp_in_nI (by omega) (by decide), br_c (fun e => xv_oa_oI hn ho (fun r1 e1 => xv_oa_dI hn hd (fun r2 e2 => xv_ob hn hc hp (fun r3 e3 => ⟨vp_in_nI (by omega) (by decide), ?_⟩)))) (fun e => ?_)⟩
  · rw [hcl] at e ⊢
    exact k _ (tw_ownx (c := (cI p, cO p)) ((tw_pm_ct (by omega)).mp e) e1 e2 e3)
  · rw [hcl] at e
    refine k 0 (fun o ho => ?_)
    rw [b_0]
    constructor
    · intro h; exact Bool.noConfusion h
    · intro h; exact absurd ((tw_pm_ct (by omega)).mpr h.1) e
theorem xv_has9 {post : Int32 → Prop} {p : Nat} (hn : n ≤ 8) (hq : q ≤ 4) (ho : oc ≤ 16) (hd : dc ≤ 16) (hc : cc ≤ 16) (hp : p < cc) (hO : ∀ o, bt (cO p) o = true → o < q)
    (k1 : tw_has n q (tw_ls oI oO 0 oc) (tw_ls dI dO 0 dc) (cI p, cO p) (tw_ls cI cO 0 p ++ tw_ls cI cO (p + 1) (cc - p - 1)) → post 1)
    (k0 : ¬ tw_has n q (tw_ls oI oO 0 oc) (tw_ls dI dO 0 dc) (cI p, cO p) (tw_ls cI cO 0 p ++ tw_ls cI cO (p + 1) (cc - p - 1)) → post 0) :
    ∀ (f i : Nat), 2 ^ n < f + i → i ≤ 2 ^ n → (∀ m, m < i → ∀ o, o < 32 → ¬ tw_own n (tw_ls oI oO 0 oc) (tw_ls dI dO 0 dc) (cI p, cO p) (tw_ls cI cO 0 p ++ tw_ls cI cO (p + 1) (cc - p - 1)) m o) → wX_hasOwnPoint_9 post (nI p) (nI (2 ^ n)) (nI n) (nI q) xc xp (nI oc) (nI dc) (nI cc) xs oI oO dI dO cI cO sI sO f (nI i) := by
  have hpw := tw_pow8 hn
  intro f
  induction f with
  | zero => intro i h1 h2; omega
  | succ f ih =>
    intro i h1 h2 h3
    refine pk_le (2 ^ n) i (fun h => k0 ?_) (fun h => xv_pm hn (by omega) (xv_own hn ho hd hc hp (fun w hw => br_c (fun z y ey => ?_) (fun z => k1 ?_))))
    · intro hh
      obtain ⟨m, hm, o, ho2, hw⟩ := (tw_hasx hq hO).mp hh
      exact h3 m (by omega) o ho2 hw
    · subst ey
      rw [nI_1]
      refine ih (i + 1) (by omega) (by omega) (fun m hm => ?_)
      by_cases em : m = i
      · subst em
        intro o ho2 hh
        have h4 := (hw o ho2).mpr hh
        rw [z, b_0] at h4
        exact Bool.noConfusion h4
      · exact h3 m (by omega)
    · obtain ⟨o, ho2, hb⟩ := tw_nz.mp z
      exact (tw_hasx hq hO).mpr ⟨i, h, o, ho2, (hw o ho2).mp hb⟩
theorem xv_has {post : Int32 → Prop} {p : Nat} (hn : n ≤ 8) (hq : q ≤ 4) (ho : oc ≤ 16) (hd : dc ≤ 16) (hc : cc ≤ 16) (hp : p < cc) (hO : ∀ o, bt (cO p) o = true → o < q)
    (k1 : tw_has n q (tw_ls oI oO 0 oc) (tw_ls dI dO 0 dc) (cI p, cO p) (tw_ls cI cO 0 p ++ tw_ls cI cO (p + 1) (cc - p - 1)) → post 1)
    (k0 : ¬ tw_has n q (tw_ls oI oO 0 oc) (tw_ls dI dO 0 dc) (cI p, cO p) (tw_ls cI cO 0 p ++ tw_ls cI cO (p + 1) (cc - p - 1)) → post 0) : wpX_hasOwnPoint post (nI n, nI q, xc, xp, nI oc, nI dc, nI cc, xs, oI, oO, dI, dO, cI, cO, sI, sO) (nI p) := by
  intro y ey
  rw [tw_p2 n (by omega)] at ey
  subst ey
  exact ⟨2 ^ n + 1, xv_has9 hn hq ho hd hc hp hO k1 k0 (2 ^ n + 1) 0 (by omega) (Nat.zero_le _) (fun m hm => absurd hm (by omega))⟩
theorem xv_sh15 {post : Int32 → SX → Prop} {p : Nat} (hn : n ≤ 8) (hq : q ≤ 4) (ho : oc ≤ 16) (hd : dc ≤ 16) (hc : cc ≤ 16) (hp : p < cc) (hO : ∀ o, bt (cO p) o = true → o < q)
    (k1 : tw_has n q (tw_ls oI oO 0 oc) (tw_ls dI dO 0 dc) (cI p, cO p) (tw_ls cI cO 0 p ++ tw_ls cI cO (p + 1) (cc - p - 1)) → ∀ I O : Int32, (I, O) = tw_rc n q (tw_ls oI oO 0 oc) (tw_ls dI dO 0 dc) (cI p, cO p) (tw_ls cI cO 0 p ++ tw_ls cI cO (p + 1) (cc - p - 1)) → post 1 (nI n, nI q, xc, xp, nI oc, nI dc, nI cc, xs, oI, oO, dI, dO, upd cI p I, upd cO p O, sI, sO))
    (k0 : ¬ tw_has n q (tw_ls oI oO 0 oc) (tw_ls dI dO 0 dc) (cI p, cO p) (tw_ls cI cO 0 p ++ tw_ls cI cO (p + 1) (cc - p - 1)) → post 0 (nI n, nI q, xc, xp, nI oc, nI dc, nI cc, xs, oI, oO, dI, dO, cI, cO, sI, sO)) :
    ∀ (f i : Nat) (I O : Int32), 2 ^ n < f + i → i ≤ 2 ^ n →
    (∀ j, j < 32 → (bt I j = true ↔ ∃ m, m < i ∧ (∃ o, o < 32 ∧ tw_own n (tw_ls oI oO 0 oc) (tw_ls dI dO 0 dc) (cI p, cO p) (tw_ls cI cO 0 p ++ tw_ls cI cO (p + 1) (cc - p - 1)) m o) ∧ ∃ i, i < n ∧ j = tw_at m i)) →
    (∀ o, o < 32 → (bt O o = true ↔ ∃ m, m < i ∧ tw_own n (tw_ls oI oO 0 oc) (tw_ls dI dO 0 dc) (cI p, cO p) (tw_ls cI cO 0 p ++ tw_ls cI cO (p + 1) (cc - p - 1)) m o)) →
    wX_shrinkToOwnPoints_15 post (nI p) (nI (2 ^ n)) (nI n) (nI q) xc xp (nI oc) (nI dc) (nI cc) xs oI oO dI dO cI cO sI sO f I O (nI i) := by
  have hpw := tw_pow8 hn
  have hcl : (nI p).toNatClampNeg = p := nI_clamp (by omega)
  intro f
  induction f with
  | zero => intro i I O h1 h2; omega
  | succ f ih =>
    intro i I O h1 h2 h3 h4
    refine pk_le (2 ^ n) i (fun h => br_c (fun z => k0 ?_) (fun z => ⟨vp_in_nI (by omega) (by decide), fun a ea => ⟨vp_in_nI (by omega) (by decide), fun b eb => ?_⟩⟩)) (fun h => xv_pm hn (by omega) (xv_own hn ho hd hc hp (fun w hw => br_c (fun z y ey => ?_) (fun z y ey y2 ey2 y3 ey3 => ?_))))
    · intro hh
      obtain ⟨m, hm, o, ho2, hw⟩ := (tw_hasx hq hO).mp hh
      have h5 := (h4 o ho2).mpr ⟨m, by omega, hw⟩
      rw [z, b_0] at h5
      exact Bool.noConfusion h5
    · have ei : i = 2 ^ n := by omega
      subst ei
      rw [hcl] at ea eb
      subst ea eb
      obtain ⟨o, ho2, hb⟩ := tw_nz.mp z
      obtain ⟨m, hm, hw⟩ := (h4 o ho2).mp hb
      exact k1 ((tw_hasx hq hO).mpr ⟨m, hm, o, ho2, hw⟩) I O (tw_rcx hq hO h3 h4)
    · subst ey
      rw [nI_1]
      have hno : ∀ o, o < 32 → ¬ tw_own n (tw_ls oI oO 0 oc) (tw_ls dI dO 0 dc) (cI p, cO p) (tw_ls cI cO 0 p ++ tw_ls cI cO (p + 1) (cc - p - 1)) i o := by
        intro o ho2 hh
        have h5 := (hw o ho2).mpr hh
        rw [z, b_0] at h5
        exact Bool.noConfusion h5
      refine ih (i + 1) I O (by omega) (by omega) (fun j hj => ?_) (fun o ho2 => ?_)
      · rw [h3 j hj]
        constructor
        · intro ⟨m, hm, r⟩; exact ⟨m, by omega, r⟩
        · intro ⟨m, hm, ⟨o, ho2, hw2⟩, r⟩
          by_cases em : m = i
          · subst em; exact absurd hw2 (hno o ho2)
          · exact ⟨m, by omega, ⟨o, ho2, hw2⟩, r⟩
      · rw [h4 o ho2]
        constructor
        · intro ⟨m, hm, r⟩; exact ⟨m, by omega, r⟩
        · intro ⟨m, hm, hw2⟩
          by_cases em : m = i
          · subst em; exact absurd hw2 (hno o ho2)
          · exact ⟨m, by omega, hw2⟩
    · subst ey ey2 ey3
      rw [nI_1]
      obtain ⟨o1, ho1, hb1⟩ := tw_nz.mp z
      refine ih (i + 1) _ _ (by omega) (by omega) (fun j hj => ?_) (fun o ho2 => ?_)
      · rw [b_or, Bool.or_eq_true, h3 j hj, tw_pm_b i n (by omega) j hj]
        constructor
        · rintro (⟨m, hm, r⟩ | r)
          · exact ⟨m, by omega, r⟩
          · exact ⟨i, by omega, ⟨o1, ho1, (hw o1 ho1).mp hb1⟩, r⟩
        · intro ⟨m, hm, hw2, r⟩
          by_cases em : m = i
          · subst em; exact Or.inr r
          · exact Or.inl ⟨m, by omega, hw2, r⟩
      · rw [b_or, Bool.or_eq_true, h4 o ho2, hw o ho2]
        constructor
        · rintro (⟨m, hm, r⟩ | r)
          · exact ⟨m, by omega, r⟩
          · exact ⟨i, by omega, r⟩
        · intro ⟨m, hm, hw2⟩
          by_cases em : m = i
          · subst em; exact Or.inr hw2
          · exact Or.inl ⟨m, by omega, hw2⟩
theorem xv_shrink {post : Int32 → SX → Prop} {p : Nat} (hn : n ≤ 8) (hq : q ≤ 4) (ho : oc ≤ 16) (hd : dc ≤ 16) (hc : cc ≤ 16) (hp : p < cc) (hO : ∀ o, bt (cO p) o = true → o < q)
    (k1 : tw_has n q (tw_ls oI oO 0 oc) (tw_ls dI dO 0 dc) (cI p, cO p) (tw_ls cI cO 0 p ++ tw_ls cI cO (p + 1) (cc - p - 1)) → ∀ I O : Int32, (I, O) = tw_rc n q (tw_ls oI oO 0 oc) (tw_ls dI dO 0 dc) (cI p, cO p) (tw_ls cI cO 0 p ++ tw_ls cI cO (p + 1) (cc - p - 1)) → post 1 (nI n, nI q, xc, xp, nI oc, nI dc, nI cc, xs, oI, oO, dI, dO, upd cI p I, upd cO p O, sI, sO))
    (k0 : ¬ tw_has n q (tw_ls oI oO 0 oc) (tw_ls dI dO 0 dc) (cI p, cO p) (tw_ls cI cO 0 p ++ tw_ls cI cO (p + 1) (cc - p - 1)) → post 0 (nI n, nI q, xc, xp, nI oc, nI dc, nI cc, xs, oI, oO, dI, dO, cI, cO, sI, sO)) : wpX_shrinkToOwnPoints post (nI n, nI q, xc, xp, nI oc, nI dc, nI cc, xs, oI, oO, dI, dO, cI, cO, sI, sO) (nI p) := by
  intro y ey
  rw [tw_p2 n (by omega)] at ey
  subst ey
  refine ⟨2 ^ n + 1, xv_sh15 hn hq ho hd hc hp hO k1 k0 (2 ^ n + 1) 0 0 0 (by omega) (Nat.zero_le _) (fun j hj => ?_) (fun o ho => ?_)⟩
  · rw [b_0]
    constructor
    · intro h; exact Bool.noConfusion h
    · intro ⟨m, hm, _⟩; omega
  · rw [b_0]
    constructor
    · intro h; exact Bool.noConfusion h
    · intro ⟨m, hm, _⟩; omega
theorem xv_rm4 {post : SX → Prop} {p : Nat} {a0 b0 : Nat → Int32} (hc : cc ≤ 16) (hp : p < cc)
    (k : ∀ a b : Nat → Int32, tw_ls a b 0 (cc - 1) = tw_ls a0 b0 0 p ++ tw_ls a0 b0 (p + 1) (cc - p - 1) → post (nI n, nI q, xc, xp, nI oc, nI dc, nI (cc - 1), xs, oI, oO, dI, dO, a, b, sI, sO)) :
    ∀ (f i : Nat) (cI cO : Nat → Int32), cc < f + i → p < i → i ≤ cc → (∀ j, j < p → cI j = a0 j ∧ cO j = b0 j) → (∀ j, p ≤ j → j < i - 1 → cI j = a0 (j + 1) ∧ cO j = b0 (j + 1)) → (∀ j, i ≤ j → cI j = a0 j ∧ cO j = b0 j) → wX_removeAt_4 post (nI n) (nI q) xc xp (nI oc) (nI dc) (nI cc) xs f (nI i) oI oO dI dO cI cO sI sO := by
  intro f
  induction f with
  | zero => intro i a b h1 h2 h3; omega
  | succ f ih =>
    intro i a b h1 h2 h3 g1 g2 g3
    refine pk_le cc i (fun h y ey => ?_) (fun h => ⟨vp_in_nI (by omega) (by decide), ?_⟩)
    · have e : i = cc := by omega
      subst e
      obtain ⟨r, rfl⟩ : ∃ r, i = r + 1 := ⟨i - 1, by omega⟩
      rw [nI_pred] at ey
      subst ey
      exact k a b (tw_ls_rm hp g1 (fun j b1 b2 => g2 j b1 b2))
    · obtain ⟨r, rfl⟩ : ∃ r, i = r + 1 := ⟨i - 1, by omega⟩
      rw [nI_pred, nI_clamp (n := r) (by omega), nI_clamp (n := r + 1) (by omega)]
      refine ⟨vp_in_nI (by omega) (by decide), fun y ey => ⟨vp_in_nI (by omega) (by decide), vp_in_nI (by omega) (by decide), fun z ez w ew => ?_⟩⟩
      subst ey ez ew
      rw [nI_1]
      have h5 := g3 (r + 1) (by omega)
      refine ih (r + 1 + 1) _ _ (by omega) (by omega) (by omega) (fun j hj => ?_) (fun j b1 b2 => ?_) (fun j hj => ?_)
      · rw [pk_un (by omega), pk_un (by omega)]; exact g1 j hj
      · by_cases ej : j = r
        · subst ej; rw [pk_us, pk_us]; exact h5
        · rw [pk_un ej, pk_un ej]; exact g2 j b1 (by omega)
      · rw [pk_un (by omega), pk_un (by omega)]; exact g3 j (by omega)
theorem xv_removeAt {post : SX → Prop} {p : Nat} (hc : cc ≤ 16) (hp : p < cc)
    (k : ∀ a b : Nat → Int32, tw_ls a b 0 (cc - 1) = tw_ls cI cO 0 p ++ tw_ls cI cO (p + 1) (cc - p - 1) → post (nI n, nI q, xc, xp, nI oc, nI dc, nI (cc - 1), xs, oI, oO, dI, dO, a, b, sI, sO)) : wpX_removeAt post (nI n, nI q, xc, xp, nI oc, nI dc, nI cc, xs, oI, oO, dI, dO, cI, cO, sI, sO) (nI p) := by
  intro y ey
  rw [nI_1] at ey
  subst ey
  exact ⟨cc + 1, xv_rm4 hc hp k (cc + 1) (p + 1) cI cO (by omega) (by omega) (by omega) (fun j _ => ⟨rfl, rfl⟩) (fun j h1 h2 => absurd h2 (by omega)) (fun j _ => ⟨rfl, rfl⟩)⟩
end
