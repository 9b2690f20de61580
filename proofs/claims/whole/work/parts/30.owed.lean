/-! the relation and what is owed -/
section
variable {n q cap oc dc cc : Nat} {xc xp xs : Int32} {oI oO dI dO cI cO sI sO : Nat → Int32}
theorem xv_addOn {post : Int32 → SX → Prop} {p0 p1 : Int32} (hn : n ≤ 8) (hq : q ≤ 4) (hc : cap ≤ 16) (ho : oc ≤ cap) (ka : xp = 1 → post (-1) (nI n, nI q, nI cap, xp, nI oc, nI dc, nI cc, xs, oI, oO, dI, dO, cI, cO, sI, sO)) (kb : ¬ xp = 1 → ¬ tw_vi n p0 → post (-2) (nI n, nI q, nI cap, xp, nI oc, nI dc, nI cc, xs, oI, oO, dI, dO, cI, cO, sI, sO)) (kc : ¬ xp = 1 → tw_vi n p0 → ¬ tw_vm q p1 → post (-3) (nI n, nI q, nI cap, xp, nI oc, nI dc, nI cc, xs, oI, oO, dI, dO, cI, cO, sI, sO))
    (kd : ¬ xp = 1 → tw_vi n p0 → tw_vm q p1 → oc < cap → post (nI oc) (nI n, nI q, nI cap, xp, nI (oc + 1), nI dc, nI cc, xs, upd oI oc p0, upd oO oc p1, dI, dO, cI, cO, sI, sO)) (ke : ¬ xp = 1 → tw_vi n p0 → tw_vm q p1 → ¬ oc < cap → post (-4) (nI n, nI q, nI cap, xp, nI oc, nI dc, nI cc, xs, oI, oO, dI, dO, cI, cO, sI, sO)) : wpX_addOn post (nI n, nI q, nI cap, xp, nI oc, nI dc, nI cc, xs, oI, oO, dI, dO, cI, cO, sI, sO) p0 p1 := by
  unfold wpX_addOn
  refine xv_placeFor hn hq (fun a => br_t (by decide) (ka a)) (fun a b => br_t (by decide) (kb a b)) (fun a b c => br_t (by decide) (kc a b c)) (fun a b c d => br_f (nI_pos (by omega)) ?_) (fun a b c d => br_t (by decide) (ke a b c ?_))
  · rw [nI_ltI (by omega) (by omega)] at d
    rw [nI_clamp (n := oc) (by omega)]
    refine ⟨vp_in_nI (by omega) (by decide), fun y ey => ⟨vp_in_nI (by omega) (by decide), fun z ez w ew => ?_⟩⟩
    rw [nI_1] at ew
    subst ey ez ew
    exact kd a b c d
  · rw [nI_ltI (by omega) (by omega)] at d
    exact d
theorem yv_addOn {post : Int32 → SY → Prop} {p0 p1 : Int32} (hn : n ≤ 8) (hq : q ≤ 4) (hc : cap ≤ 16) (ho : oc ≤ cap) (ka : xp = 1 → post (-1) (nI n, nI q, nI cap, nI oc, nI dc, nI cc, xp, oI, oO, dI, dO, cI, cO, sI, sO)) (kb : ¬ xp = 1 → ¬ tw_vi n p0 → post (-2) (nI n, nI q, nI cap, nI oc, nI dc, nI cc, xp, oI, oO, dI, dO, cI, cO, sI, sO)) (kc : ¬ xp = 1 → tw_vi n p0 → ¬ tw_vm q p1 → post (-3) (nI n, nI q, nI cap, nI oc, nI dc, nI cc, xp, oI, oO, dI, dO, cI, cO, sI, sO))
    (kd : ¬ xp = 1 → tw_vi n p0 → tw_vm q p1 → oc < cap → post (nI oc) (nI n, nI q, nI cap, nI (oc + 1), nI dc, nI cc, xp, upd oI oc p0, upd oO oc p1, dI, dO, cI, cO, sI, sO)) (ke : ¬ xp = 1 → tw_vi n p0 → tw_vm q p1 → ¬ oc < cap → post (-4) (nI n, nI q, nI cap, nI oc, nI dc, nI cc, xp, oI, oO, dI, dO, cI, cO, sI, sO)) : wpY_addOn post (nI n, nI q, nI cap, nI oc, nI dc, nI cc, xp, oI, oO, dI, dO, cI, cO, sI, sO) p0 p1 := by
  refine br_c ka (fun a => yv_validInput hn (fun b => br_f (by decide) (yv_validMask hq (fun c => br_f (by decide) (pk_le cap oc (fun d => ke a b c (by omega)) (fun d => pk_lt oc 16 (fun _ => ?_) (fun g => absurd g (by omega))))) (fun c => br_t rfl (kc a b c)))) (fun b => br_t rfl (kb a b)))
  rw [nI_clamp (n := oc) (by omega)]
  refine ⟨vp_in_nI (by omega) (by decide), fun y ey => ⟨vp_in_nI (by omega) (by decide), fun z ez w ew => ?_⟩⟩
  rw [nI_1] at ew
  subst ey ez ew
  rw [nI_pred]
  exact kd a b c d
theorem xv_addDc {post : Int32 → SX → Prop} {p0 p1 : Int32} (hn : n ≤ 8) (hq : q ≤ 4) (hc : cap ≤ 16) (ho : dc ≤ cap) (ka : xp = 1 → post (-1) (nI n, nI q, nI cap, xp, nI oc, nI dc, nI cc, xs, oI, oO, dI, dO, cI, cO, sI, sO)) (kb : ¬ xp = 1 → ¬ tw_vi n p0 → post (-2) (nI n, nI q, nI cap, xp, nI oc, nI dc, nI cc, xs, oI, oO, dI, dO, cI, cO, sI, sO)) (kc : ¬ xp = 1 → tw_vi n p0 → ¬ tw_vm q p1 → post (-3) (nI n, nI q, nI cap, xp, nI oc, nI dc, nI cc, xs, oI, oO, dI, dO, cI, cO, sI, sO))
    (kd : ¬ xp = 1 → tw_vi n p0 → tw_vm q p1 → dc < cap → post (nI dc) (nI n, nI q, nI cap, xp, nI oc, nI (dc + 1), nI cc, xs, oI, oO, upd dI dc p0, upd dO dc p1, cI, cO, sI, sO)) (ke : ¬ xp = 1 → tw_vi n p0 → tw_vm q p1 → ¬ dc < cap → post (-4) (nI n, nI q, nI cap, xp, nI oc, nI dc, nI cc, xs, oI, oO, dI, dO, cI, cO, sI, sO)) : wpX_addDc post (nI n, nI q, nI cap, xp, nI oc, nI dc, nI cc, xs, oI, oO, dI, dO, cI, cO, sI, sO) p0 p1 := by
  unfold wpX_addDc
  refine xv_placeFor hn hq (fun a => br_t (by decide) (ka a)) (fun a b => br_t (by decide) (kb a b)) (fun a b c => br_t (by decide) (kc a b c)) (fun a b c d => br_f (nI_pos (by omega)) ?_) (fun a b c d => br_t (by decide) (ke a b c ?_))
  · rw [nI_ltI (by omega) (by omega)] at d
    rw [nI_clamp (n := dc) (by omega)]
    refine ⟨vp_in_nI (by omega) (by decide), fun y ey => ⟨vp_in_nI (by omega) (by decide), fun z ez w ew => ?_⟩⟩
    rw [nI_1] at ew
    subst ey ez ew
    exact kd a b c d
  · rw [nI_ltI (by omega) (by omega)] at d
    exact d
theorem yv_addDc {post : Int32 → SY → Prop} {p0 p1 : Int32} (hn : n ≤ 8) (hq : q ≤ 4) (hc : cap ≤ 16) (ho : dc ≤ cap) (ka : xp = 1 → post (-1) (nI n, nI q, nI cap, nI oc, nI dc, nI cc, xp, oI, oO, dI, dO, cI, cO, sI, sO)) (kb : ¬ xp = 1 → ¬ tw_vi n p0 → post (-2) (nI n, nI q, nI cap, nI oc, nI dc, nI cc, xp, oI, oO, dI, dO, cI, cO, sI, sO)) (kc : ¬ xp = 1 → tw_vi n p0 → ¬ tw_vm q p1 → post (-3) (nI n, nI q, nI cap, nI oc, nI dc, nI cc, xp, oI, oO, dI, dO, cI, cO, sI, sO))
    (kd : ¬ xp = 1 → tw_vi n p0 → tw_vm q p1 → dc < cap → post (nI dc) (nI n, nI q, nI cap, nI oc, nI (dc + 1), nI cc, xp, oI, oO, upd dI dc p0, upd dO dc p1, cI, cO, sI, sO)) (ke : ¬ xp = 1 → tw_vi n p0 → tw_vm q p1 → ¬ dc < cap → post (-4) (nI n, nI q, nI cap, nI oc, nI dc, nI cc, xp, oI, oO, dI, dO, cI, cO, sI, sO)) : wpY_addDc post (nI n, nI q, nI cap, nI oc, nI dc, nI cc, xp, oI, oO, dI, dO, cI, cO, sI, sO) p0 p1 := by
  refine br_c ka (fun a => yv_validInput hn (fun b => br_f (by decide) (yv_validMask hq (fun c => br_f (by decide) (pk_le cap dc (fun d => ke a b c (by omega)) (fun d => pk_lt dc 16 (fun _ => ?_) (fun g => absurd g (by omega))))) (fun c => br_t rfl (kc a b c)))) (fun b => br_t rfl (kb a b)))
  rw [nI_clamp (n := dc) (by omega)]
  refine ⟨vp_in_nI (by omega) (by decide), fun y ey => ⟨vp_in_nI (by omega) (by decide), fun z ez w ew => ?_⟩⟩
  rw [nI_1] at ew
  subst ey ez ew
  rw [nI_pred]
  exact kd a b c d
end
theorem tw_cmp (v : Int32) (lo hi : Nat) (h : lo ≤ hi) (hh : hi < 2 ^ 31) : ∃ r, lo ≤ r ∧ r ≤ hi ∧ ∀ P : Int32 → Prop, P (nI r) → ((nI lo ≤ v → ((v ≤ nI hi → P v) ∧ (¬ v ≤ nI hi → P (nI hi)))) ∧ (¬ nI lo ≤ v → P (nI lo))) := by
  by_cases h1 : nI lo ≤ v
  · by_cases h2 : v ≤ nI hi
    · have h0 : ¬ v < 0 := by
        intro z
        have h3 : nI lo < 0 := Int32.lt_of_le_of_lt h1 z
        exact nI_pos (by omega) h3
      obtain ⟨j, hj, rfl⟩ := nI_of h0
      refine ⟨j, (nI_leI (by omega) hj).mp h1, (nI_leI hj hh).mp h2, fun P k => br_t h1 (br_t h2 k)⟩
    · exact ⟨hi, h, Nat.le_refl _, fun P k => br_t h1 (br_f h2 k)⟩
  · exact ⟨lo, Nat.le_refl _, h, fun P k => br_f h1 k⟩
/-- the relation: on-cubes and dc-cubes are the same arrays, the covers are the same lists below the count -/
def i_Rel (_ : Nat) (u : SX) (v : SY) : Prop :=
  ∃ (n q cap oc dc cc : Nat) (xp xs : Int32) (oI oO dI dO cI cO sI sO cJ cP sJ sP : Nat → Int32),
    n ≤ 8 ∧ q ≤ 4 ∧ cap ≤ 16 ∧ oc ≤ cap ∧ dc ≤ cap ∧ cc ≤ 16 ∧ tw_val q (tw_ls oI oO 0 oc) ∧ tw_val q (tw_ls cI cO 0 cc) ∧ tw_ls cJ cP 0 cc = tw_ls cI cO 0 cc ∧
    u = (nI n, nI q, nI cap, xp, nI oc, nI dc, nI cc, xs, oI, oO, dI, dO, cI, cO, sI, sO) ∧ v = (nI n, nI q, nI cap, nI oc, nI dc, nI cc, xp, oI, oO, dI, dO, cJ, cP, sJ, sP)
theorem tw_rel {k n q cap oc dc cc : Nat} {xp xs : Int32} {oI oO dI dO cI cO sI sO cJ cP sJ sP : Nat → Int32} (h1 : n ≤ 8) (h2 : q ≤ 4) (h3 : cap ≤ 16) (h4 : oc ≤ cap) (h5 : dc ≤ cap) (h6 : cc ≤ 16) (h7 : tw_val q (tw_ls oI oO 0 oc)) (h8 : tw_val q (tw_ls cI cO 0 cc)) (h9 : tw_ls cJ cP 0 cc = tw_ls cI cO 0 cc) :
    i_Rel k (nI n, nI q, nI cap, xp, nI oc, nI dc, nI cc, xs, oI, oO, dI, dO, cI, cO, sI, sO) (nI n, nI q, nI cap, nI oc, nI dc, nI cc, xp, oI, oO, dI, dO, cJ, cP, sJ, sP) :=
  ⟨n, q, cap, oc, dc, cc, xp, xs, oI, oO, dI, dO, cI, cO, sI, sO, cJ, cP, sJ, sP, h1, h2, h3, h4, h5, h6, h7, h8, h9, rfl, rfl⟩
theorem i_up {k : Nat} {u : SX} {v : SY} (h : i_Rel k u v) : i_Rel (k + 3) u v := h
theorem tw_xclamp {post : Int32 → Prop} {v : Int32} {lo hi r : Nat} (h : ∀ P : Int32 → Prop, P (nI r) → ((nI lo ≤ v → ((v ≤ nI hi → P v) ∧ (¬ v ≤ nI hi → P (nI hi)))) ∧ (¬ nI lo ≤ v → P (nI lo)))) (k : post (nI r)) : wpX_clamp post v (nI lo) (nI hi) := h post k
theorem i_vc0 (k0 : Int32) (k1 : Int32) (k2 : Int32) : wpX_init (fun u => wpY_init (fun v => i_Rel 3 u v) k0 k1 k2) k0 k1 k2 := by
  obtain ⟨a, a1, a2, ha⟩ := tw_cmp k0 1 8 (by omega) (by omega)
  obtain ⟨b, b1, b2, hb⟩ := tw_cmp k1 1 4 (by omega) (by omega)
  obtain ⟨c, c1, c2, hc⟩ := tw_cmp k2 4 16 (by omega) (by omega)
  unfold wpX_init
  refine tw_xclamp ha ?_
  refine tw_xclamp hb ?_
  refine tw_xclamp hc ?_
  refine ha (fun z => wY_init_90 (fun v => i_Rel 3 (nI a, nI b, nI c, 0, 0, 0, 0, 0, (fun _ => 0), (fun _ => 0), (fun _ => 0), (fun _ => 0), (fun _ => 0), (fun _ => 0), (fun _ => 0), (fun _ => 0)) v) k1 k2 z 0 0 0 0 0 0 0 (fun _ => 0) (fun _ => 0) (fun _ => 0) (fun _ => 0) (fun _ => 0) (fun _ => 0) (fun _ => 0) (fun _ => 0)) ?_
  refine hb (fun z => wY_init_113 (fun v => i_Rel 3 (nI a, nI b, nI c, 0, 0, 0, 0, 0, (fun _ => 0), (fun _ => 0), (fun _ => 0), (fun _ => 0), (fun _ => 0), (fun _ => 0), (fun _ => 0), (fun _ => 0)) v) k2 z (nI a) 0 0 0 0 0 0 (fun _ => 0) (fun _ => 0) (fun _ => 0) (fun _ => 0) (fun _ => 0) (fun _ => 0) (fun _ => 0) (fun _ => 0)) ?_
  refine hc (fun z => i_Rel 3 (nI a, nI b, nI c, 0, 0, 0, 0, 0, (fun _ => 0), (fun _ => 0), (fun _ => 0), (fun _ => 0), (fun _ => 0), (fun _ => 0), (fun _ => 0), (fun _ => 0)) (nI a, nI b, z, 0, 0, 0, 0, (fun _ => 0), (fun _ => 0), (fun _ => 0), (fun _ => 0), (fun _ => 0), (fun _ => 0), (fun _ => 0), (fun _ => 0))) ?_
  exact tw_rel (oc := 0) (dc := 0) (cc := 0) a2 b2 c2 (by omega) (by omega) (by omega) tw_val_nil tw_val_nil rfl
theorem tw_val_add {q c : Nat} {a b : Nat → Int32} {p0 p1 : Int32} (hq : q ≤ 4) (h : tw_val q (tw_ls a b 0 c)) (hm : tw_vm q p1) : tw_val q (tw_ls (upd a c p0) (upd b c p1) 0 (c + 1)) := by
  rw [tw_ls_put]
  exact tw_val_app h (tw_val_1 (tw_vm_ok hq hm))
theorem i_vc_addOn {k : Nat} {u : SX} {v : SY} (I : i_Rel k u v) (hk : k + 3 ≤ 1539) (v1 : Int32) (v2 : Int32) : wpX_addOn (fun r u' => wpY_addOn (fun r' v' => r' = r ∧ i_Rel (k + 3) u' v') v v1 v2) u v1 v2 := by
  obtain ⟨n, q, cap, oc, dc, cc, xp, xs, oI, oO, dI, dO, cI, cO, sI, sO, cJ, cP, sJ, sP, h1, h2, h3, h4, h5, h6, h7, h8, h9, rfl, rfl⟩ := I
  refine xv_addOn h1 h2 h3 h4 (fun a => ?_) (fun a b => ?_) (fun a b c => ?_) (fun a b c d => ?_) (fun a b c d => ?_)
  · exact yv_addOn h1 h2 h3 h4 (fun _ => ⟨rfl, tw_rel h1 h2 h3 h4 h5 h6 h7 h8 h9⟩) (fun z => absurd a z) (fun z => absurd a z) (fun z => absurd a z) (fun z => absurd a z)
  · exact yv_addOn h1 h2 h3 h4 (fun z => absurd z a) (fun _ _ => ⟨rfl, tw_rel h1 h2 h3 h4 h5 h6 h7 h8 h9⟩) (fun _ z => absurd z b) (fun _ z => absurd z b) (fun _ z => absurd z b)
  · exact yv_addOn h1 h2 h3 h4 (fun z => absurd z a) (fun _ z => absurd b z) (fun _ _ _ => ⟨rfl, tw_rel h1 h2 h3 h4 h5 h6 h7 h8 h9⟩) (fun _ _ z => absurd z c) (fun _ _ z => absurd z c)
  · exact yv_addOn h1 h2 h3 h4 (fun z => absurd z a) (fun _ z => absurd b z) (fun _ _ z => absurd c z) (fun _ _ _ _ => ⟨rfl, tw_rel h1 h2 h3 d h5 h6 (tw_val_add h2 h7 c) h8 h9⟩) (fun _ _ _ z => absurd d z)
  · exact yv_addOn h1 h2 h3 h4 (fun z => absurd z a) (fun _ z => absurd b z) (fun _ _ z => absurd c z) (fun _ _ _ z => absurd z d) (fun _ _ _ _ => ⟨rfl, tw_rel h1 h2 h3 h4 h5 h6 h7 h8 h9⟩)
theorem i_vc_addDc {k : Nat} {u : SX} {v : SY} (I : i_Rel k u v) (hk : k + 3 ≤ 1539) (v1 : Int32) (v2 : Int32) : wpX_addDc (fun r u' => wpY_addDc (fun r' v' => r' = r ∧ i_Rel (k + 3) u' v') v v1 v2) u v1 v2 := by
  obtain ⟨n, q, cap, oc, dc, cc, xp, xs, oI, oO, dI, dO, cI, cO, sI, sO, cJ, cP, sJ, sP, h1, h2, h3, h4, h5, h6, h7, h8, h9, rfl, rfl⟩ := I
  refine xv_addDc h1 h2 h3 h5 (fun a => ?_) (fun a b => ?_) (fun a b c => ?_) (fun a b c d => ?_) (fun a b c d => ?_)
  · exact yv_addDc h1 h2 h3 h5 (fun _ => ⟨rfl, tw_rel h1 h2 h3 h4 h5 h6 h7 h8 h9⟩) (fun z => absurd a z) (fun z => absurd a z) (fun z => absurd a z) (fun z => absurd a z)
  · exact yv_addDc h1 h2 h3 h5 (fun z => absurd z a) (fun _ _ => ⟨rfl, tw_rel h1 h2 h3 h4 h5 h6 h7 h8 h9⟩) (fun _ z => absurd z b) (fun _ z => absurd z b) (fun _ z => absurd z b)
  · exact yv_addDc h1 h2 h3 h5 (fun z => absurd z a) (fun _ z => absurd b z) (fun _ _ _ => ⟨rfl, tw_rel h1 h2 h3 h4 h5 h6 h7 h8 h9⟩) (fun _ _ z => absurd z c) (fun _ _ z => absurd z c)
  · exact yv_addDc h1 h2 h3 h5 (fun z => absurd z a) (fun _ z => absurd b z) (fun _ _ z => absurd c z) (fun _ _ _ _ => ⟨rfl, tw_rel h1 h2 h3 h4 d h6 h7 h8 h9⟩) (fun _ _ _ z => absurd d z)
  · exact yv_addDc h1 h2 h3 h5 (fun z => absurd z a) (fun _ z => absurd b z) (fun _ _ z => absurd c z) (fun _ _ _ z => absurd z d) (fun _ _ _ _ => ⟨rfl, tw_rel h1 h2 h3 h4 h5 h6 h7 h8 h9⟩)
theorem i_vc_begin {k : Nat} {u : SX} {v : SY} (I : i_Rel k u v) (hk : k + 3 ≤ 1539) : wpX_begin (fun r u' => wpY_begin (fun r' v' => r' = r ∧ i_Rel (k + 3) u' v') v) u := by
  obtain ⟨n, q, cap, oc, dc, cc, xp, xs, oI, oO, dI, dO, cI, cO, sI, sO, cJ, cP, sJ, sP, h1, h2, h3, h4, h5, h6, h7, h8, h9, rfl, rfl⟩ := I
  refine xv_begin (by omega) (fun a b hab => ?_)
  refine yv_begin (by omega) (fun a' b' hab' => ?_)
  exact ⟨rfl, tw_rel h1 h2 h3 h4 h5 (by omega) h7 (by rw [hab]; exact h7) (by rw [hab, hab'])⟩
theorem tw_len {a b a' b' : Nat → Int32} {L L' : Nat} {U : List (Int32 × Int32)} (h : tw_ls a b 0 L = U) (h' : tw_ls a' b' 0 L' = U) : L' = L ∧ tw_ls a' b' 0 L = tw_ls a b 0 L := by
  have e : L' = L := by
    have h2 : (tw_ls a' b' 0 L').length = (tw_ls a b 0 L).length := by rw [h, h']
    rw [tw_ls_len, tw_ls_len] at h2
    exact h2
  subst e
  exact ⟨rfl, by rw [h, h']⟩
theorem i_vc_expand {k : Nat} {u : SX} {v : SY} (I : i_Rel k u v) (hk : k + 3 ≤ 1539) : wpX_expand (fun r u' => wpY_expand (fun r' v' => r' = r ∧ i_Rel (k + 3) u' v') v) u := by
  obtain ⟨n, q, cap, oc, dc, cc, xp, xs, oI, oO, dI, dO, cI, cO, sI, sO, cJ, cP, sJ, sP, h1, h2, h3, h4, h5, h6, h7, h8, h9, rfl, rfl⟩ := I
  have h8' : tw_val q (tw_ls cJ cP 0 cc) := by rw [h9]; exact h8
  refine xv_expand h1 h2 (by omega) (by omega) h6 h8 (fun z => br_t z ⟨rfl, tw_rel h1 h2 h3 h4 h5 h6 h7 h8 h9⟩) (fun z L a b hL hab => br_f z (yv_doExpand h1 h2 (by omega) (by omega) h6 h8' (fun L' a' b' hL' hab' => ?_)))
  rw [h9] at hab'
  obtain ⟨e1, e2⟩ := tw_len hab hab'
  subst e1
  exact ⟨rfl, tw_rel h1 h2 h3 h4 h5 hL h7 (by rw [hab]; exact (tw_ex_keep h2 _ _ _ tw_val_nil h8).1) e2⟩
theorem i_vc_irredundant {k : Nat} {u : SX} {v : SY} (I : i_Rel k u v) (hk : k + 3 ≤ 1539) : wpX_irredundant (fun r u' => wpY_irredundant (fun r' v' => r' = r ∧ i_Rel (k + 3) u' v') v) u := by
  obtain ⟨n, q, cap, oc, dc, cc, xp, xs, oI, oO, dI, dO, cI, cO, sI, sO, cJ, cP, sJ, sP, h1, h2, h3, h4, h5, h6, h7, h8, h9, rfl, rfl⟩ := I
  have h8' : tw_val q (tw_ls cJ cP 0 cc) := by rw [h9]; exact h8
  refine xv_irredundant h1 h2 (by omega) (by omega) h6 h8 (fun z => br_t z ⟨rfl, tw_rel h1 h2 h3 h4 h5 h6 h7 h8 h9⟩) (fun z L a b hL hab => br_f z (yv_doIrredundant h1 h2 (by omega) (by omega) h6 h8' (fun L' a' b' hL' hab' => ?_)))
  rw [h9] at hab'
  obtain ⟨e1, e2⟩ := tw_len hab hab'
  subst e1
  exact ⟨rfl, tw_rel h1 h2 h3 h4 h5 hL h7 (by rw [hab]; exact (tw_ir_keep _ _ tw_val_nil h8).1) e2⟩
theorem i_vc_reduce {k : Nat} {u : SX} {v : SY} (I : i_Rel k u v) (hk : k + 3 ≤ 1539) : wpX_reduce (fun r u' => wpY_reduce (fun r' v' => r' = r ∧ i_Rel (k + 3) u' v') v) u := by
  obtain ⟨n, q, cap, oc, dc, cc, xp, xs, oI, oO, dI, dO, cI, cO, sI, sO, cJ, cP, sJ, sP, h1, h2, h3, h4, h5, h6, h7, h8, h9, rfl, rfl⟩ := I
  have h8' : tw_val q (tw_ls cJ cP 0 cc) := by rw [h9]; exact h8
  refine xv_reduce h1 h2 (by omega) (by omega) h6 h8 (fun z => br_t z ⟨rfl, tw_rel h1 h2 h3 h4 h5 h6 h7 h8 h9⟩) (fun z L a b hL hab => br_f z (yv_doReduce h1 h2 (by omega) (by omega) h6 h8' (fun L' a' b' hL' hab' => ?_)))
  rw [h9] at hab'
  obtain ⟨e1, e2⟩ := tw_len hab hab'
  subst e1
  exact ⟨rfl, tw_rel h1 h2 h3 h4 h5 hL h7 (by rw [hab]; exact (tw_rd_keep _ _ tw_val_nil h8).1) e2⟩
theorem tw_im_keep {n q : Nat} {P D L : List (Int32 × Int32)} (hq : q ≤ 4) (h : tw_val q L) : tw_val q (tw_im n q P D L) := (tw_ir_keep _ _ tw_val_nil (tw_ex_keep hq _ _ _ tw_val_nil (tw_rd_keep _ _ tw_val_nil h).1).1).1
theorem i_vc_improve {k : Nat} {u : SX} {v : SY} (I : i_Rel k u v) (hk : k + 3 ≤ 1539) : wpX_improve (fun r u' => wpY_improve (fun r' v' => r' = r ∧ i_Rel (k + 3) u' v') v) u := by
  obtain ⟨n, q, cap, oc, dc, cc, xp, xs, oI, oO, dI, dO, cI, cO, sI, sO, cJ, cP, sJ, sP, h1, h2, h3, h4, h5, h6, h7, h8, h9, rfl, rfl⟩ := I
  have h8' : tw_val q (tw_ls cJ cP 0 cc) := by rw [h9]; exact h8
  refine xv_improve h1 h2 (by omega) (by omega) h6 h8 (fun z => ?_) (fun z hb L a b s t x hL hab => ?_) (fun z hb a b s t x hab => ?_)
  · exact yv_improve h1 h2 (by omega) (by omega) h6 h8' (fun _ => ⟨rfl, tw_rel h1 h2 h3 h4 h5 h6 h7 h8 h9⟩) (fun g => absurd z g) (fun g => absurd z g)
  · refine yv_improve h1 h2 (by omega) (by omega) h6 h8' (fun g => absurd g z) (fun _ _ L' a' b' s' t' hL' hab' => ?_) (fun _ hb' => ?_)
    · rw [h9] at hab'
      obtain ⟨e1, e2⟩ := tw_len hab hab'
      subst e1
      exact ⟨rfl, tw_rel h1 h2 h3 h4 h5 hL h7 (by rw [hab]; exact tw_im_keep h2 h8) e2⟩
    · rw [h9] at hb'
      exact absurd hb hb'
  · refine yv_improve h1 h2 (by omega) (by omega) h6 h8' (fun g => absurd g z) (fun _ hb' => ?_) (fun _ _ a' b' s' t' hab' => ?_)
    · rw [h9] at hb'
      exact absurd hb' hb
    · exact ⟨rfl, tw_rel h1 h2 h3 h4 h5 h6 h7 (by rw [hab]; exact h8) (by rw [hab, hab', h9])⟩
theorem i_vc_clear {k : Nat} {u : SX} {v : SY} (I : i_Rel k u v) (hk : k + 3 ≤ 1539) : wpX_clear (fun u' => wpY_clear (fun v' => i_Rel (k + 3) u' v') v) u := by
  obtain ⟨n, q, cap, oc, dc, cc, xp, xs, oI, oO, dI, dO, cI, cO, sI, sO, cJ, cP, sJ, sP, h1, h2, h3, h4, h5, h6, h7, h8, h9, rfl, rfl⟩ := I
  exact tw_rel (k := k + 3) (oc := 0) (dc := 0) (cc := 0) h1 h2 h3 (by omega) (by omega) (by omega) tw_val_nil tw_val_nil rfl
theorem i_vc_phase {k : Nat} {u : SX} {v : SY} (I : i_Rel k u v) (hk : k + 3 ≤ 1539) : wpX_phase (fun r => wpY_phase (fun r' => r' = r ∧ i_Rel (k + 3) u v) v) u := by
  have J := I
  obtain ⟨n, q, cap, oc, dc, cc, xp, xs, oI, oO, dI, dO, cI, cO, sI, sO, cJ, cP, sJ, sP, h1, h2, h3, h4, h5, h6, h7, h8, h9, rfl, rfl⟩ := I
  exact ⟨rfl, J⟩
theorem i_vc_cubeCount {k : Nat} {u : SX} {v : SY} (I : i_Rel k u v) (hk : k + 3 ≤ 1539) : wpX_cubeCount (fun r => wpY_cubeCount (fun r' => r' = r ∧ i_Rel (k + 3) u v) v) u := by
  have J := I
  obtain ⟨n, q, cap, oc, dc, cc, xp, xs, oI, oO, dI, dO, cI, cO, sI, sO, cJ, cP, sJ, sP, h1, h2, h3, h4, h5, h6, h7, h8, h9, rfl, rfl⟩ := I
  exact ⟨rfl, J⟩
theorem i_vc_cubeInputs {k : Nat} {u : SX} {v : SY} (I : i_Rel k u v) (hk : k + 3 ≤ 1539) (v1 : Int32) : wpX_cubeInputs (fun r => wpY_cubeInputs (fun r' => r' = r ∧ i_Rel (k + 3) u v) v v1) u v1 := by
  have J := I
  obtain ⟨n, q, cap, oc, dc, cc, xp, xs, oI, oO, dI, dO, cI, cO, sI, sO, cJ, cP, sJ, sP, h1, h2, h3, h4, h5, h6, h7, h8, h9, rfl, rfl⟩ := I
  rcases pk_ix v1 (n := cc) (by omega) with g | g | ⟨j, hj, rfl⟩
  · exact br_t g (br_t g ⟨rfl, J⟩)
  · have g0 : ¬ v1 < 0 := fun z => nI_pos (n := cc) (by omega) (Int32.lt_of_le_of_lt g z)
    exact br_f g0 (br_f (Int32.not_lt.mpr g) (br_f g0 (br_t g ⟨rfl, J⟩)))
  · have g0 : ¬ nI j < 0 := nI_pos (by omega)
    have hin : vp_in (nI j) 16 := vp_in_nI (by omega) (by decide)
    have e := (tw_ls_inj cc 0 0 h9 j hj).1
    rw [Nat.zero_add] at e
    refine br_f g0 (br_t (nI_lt hj (by omega)) ⟨hin, br_f g0 (br_f (nI_ge hj (by omega)) (br_t (nI_lt (b := 16) (by omega) (by decide)) ⟨hin, ?_⟩))⟩)
    rw [nI_clamp (n := j) (by omega)]
    exact ⟨e, J⟩
theorem i_vc_cubeOutputs {k : Nat} {u : SX} {v : SY} (I : i_Rel k u v) (hk : k + 3 ≤ 1539) (v1 : Int32) : wpX_cubeOutputs (fun r => wpY_cubeOutputs (fun r' => r' = r ∧ i_Rel (k + 3) u v) v v1) u v1 := by
  have J := I
  obtain ⟨n, q, cap, oc, dc, cc, xp, xs, oI, oO, dI, dO, cI, cO, sI, sO, cJ, cP, sJ, sP, h1, h2, h3, h4, h5, h6, h7, h8, h9, rfl, rfl⟩ := I
  rcases pk_ix v1 (n := cc) (by omega) with g | g | ⟨j, hj, rfl⟩
  · exact br_t g (br_t g ⟨rfl, J⟩)
  · have g0 : ¬ v1 < 0 := fun z => nI_pos (n := cc) (by omega) (Int32.lt_of_le_of_lt g z)
    exact br_f g0 (br_f (Int32.not_lt.mpr g) (br_f g0 (br_t g ⟨rfl, J⟩)))
  · have g0 : ¬ nI j < 0 := nI_pos (by omega)
    have hin : vp_in (nI j) 16 := vp_in_nI (by omega) (by decide)
    have e := (tw_ls_inj cc 0 0 h9 j hj).2
    rw [Nat.zero_add] at e
    refine br_f g0 (br_t (nI_lt hj (by omega)) ⟨hin, br_f g0 (br_f (nI_ge hj (by omega)) (br_t (nI_lt (b := 16) (by omega) (by decide)) ⟨hin, ?_⟩))⟩)
    rw [nI_clamp (n := j) (by omega)]
    exact ⟨e, J⟩
theorem i_vc_literalCount {k : Nat} {u : SX} {v : SY} (I : i_Rel k u v) (hk : k + 3 ≤ 1539) : wpX_literalCount (fun r => wpY_literalCount (fun r' => r' = r ∧ i_Rel (k + 3) u v) v) u := by
  have J := I
  obtain ⟨n, q, cap, oc, dc, cc, xp, xs, oI, oO, dI, dO, cI, cO, sI, sO, cJ, cP, sJ, sP, h1, h2, h3, h4, h5, h6, h7, h8, h9, rfl, rfl⟩ := I
  refine xv_literalCount h1 h6 ?_
  unfold wpY_literalCount
  exact yv_literals h1 h6 ⟨by rw [h9], J⟩
theorem i_vc_evaluate {k : Nat} {u : SX} {v : SY} (I : i_Rel k u v) (hk : k + 3 ≤ 1539) (v1 : Int32) (v2 : Int32) : wpX_evaluate (fun r => wpY_evaluate (fun r' => r' = r ∧ i_Rel (k + 3) u v) v v1 v2) u v1 v2 := by
  have J := I
  obtain ⟨n, q, cap, oc, dc, cc, xp, xs, oI, oO, dI, dO, cI, cO, sI, sO, cJ, cP, sJ, sP, h1, h2, h3, h4, h5, h6, h7, h8, h9, rfl, rfl⟩ := I
  have hp := tw_pow8 h1
  refine xv_evaluate h1 h2 h6 (fun m o hm ho em eo => ?_) (fun z => ?_)
  · refine yv_evaluate h1 h2 h6 (fun m' o' hm' ho' em' eo' => ⟨?_, J⟩) (fun g => absurd ⟨m, o, hm, ho, em, eo⟩ g)
    have e1 : m' = m := (nI_eq (by omega) (by omega)).mp (em'.symm.trans em)
    have e2 : o' = o := (nI_eq (by omega) (by omega)).mp (eo'.symm.trans eo)
    rw [e1, e2, h9]
  · exact yv_evaluate h1 h2 h6 (fun m o hm ho em eo => absurd ⟨m, o, hm, ho, em, eo⟩ z) (fun _ => ⟨rfl, J⟩)
theorem i_vc_function {k : Nat} {u : SX} {v : SY} (I : i_Rel k u v) (hk : k + 3 ≤ 1539) (v1 : Int32) (v2 : Int32) : wpX_function (fun r => wpY_function (fun r' => r' = r ∧ i_Rel (k + 3) u v) v v1 v2) u v1 v2 := by
  have J := I
  obtain ⟨n, q, cap, oc, dc, cc, xp, xs, oI, oO, dI, dO, cI, cO, sI, sO, cJ, cP, sJ, sP, h1, h2, h3, h4, h5, h6, h7, h8, h9, rfl, rfl⟩ := I
  have hp := tw_pow8 h1
  refine xv_function h1 h2 (by omega) (by omega) (fun m o hm ho em eo => ?_) (fun z => ?_)
  · refine yv_function h1 h2 (by omega) (by omega) (fun m' o' hm' ho' em' eo' => ⟨?_, J⟩) (fun g => absurd ⟨m, o, hm, ho, em, eo⟩ g)
    have e1 : m' = m := (nI_eq (by omega) (by omega)).mp (em'.symm.trans em)
    have e2 : o' = o := (nI_eq (by omega) (by omega)).mp (eo'.symm.trans eo)
    rw [e1, e2]
  · exact yv_function h1 h2 (by omega) (by omega) (fun m o hm ho em eo => absurd ⟨m, o, hm, ho, em, eo⟩ z) (fun _ => ⟨rfl, J⟩)
theorem i_vc_isImplicant {k : Nat} {u : SX} {v : SY} (I : i_Rel k u v) (hk : k + 3 ≤ 1539) (v1 : Int32) (v2 : Int32) : wpX_isImplicant (fun r => wpY_isImplicant (fun r' => r' = r ∧ i_Rel (k + 3) u v) v v1 v2) u v1 v2 := by
  have J := I
  obtain ⟨n, q, cap, oc, dc, cc, xp, xs, oI, oO, dI, dO, cI, cO, sI, sO, cJ, cP, sJ, sP, h1, h2, h3, h4, h5, h6, h7, h8, h9, rfl, rfl⟩ := I
  refine xv_isImplicant h1 h2 (by omega) (by omega) (fun a b c => ?_) (fun a b c => ?_) (fun a => ?_) (fun a b => ?_)
  · exact yv_isImplicant h1 h2 (by omega) (by omega) (fun _ _ _ => ⟨rfl, J⟩) (fun _ _ z => absurd c z) (fun z => absurd a z) (fun _ z => absurd b z)
  · exact yv_isImplicant h1 h2 (by omega) (by omega) (fun _ _ z => absurd z c) (fun _ _ _ => ⟨rfl, J⟩) (fun z => absurd a z) (fun _ z => absurd b z)
  · exact yv_isImplicant h1 h2 (by omega) (by omega) (fun z => absurd z a) (fun z => absurd z a) (fun _ => ⟨rfl, J⟩) (fun z => absurd z a)
  · exact yv_isImplicant h1 h2 (by omega) (by omega) (fun _ z => absurd z b) (fun _ z => absurd z b) (fun z => absurd a z) (fun _ _ => ⟨rfl, J⟩)
