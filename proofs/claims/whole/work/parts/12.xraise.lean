/-! the component: raising a cube, dropping what lies inside it, literals -/
theorem tw_ri_same {n q i : Nat} {P D : List (Int32 × Int32)} {O I : Int32} (h : tw_ri n q P D O I i ||| ((3 : Int32) <<< (nI (2 * i) &&& 31)) = tw_ri n q P D O I i) : tw_ri n q P D O I (i + 1) = tw_ri n q P D O I i := by
  show tw_if (tw_imp n q P D (tw_ri n q P D O I i ||| ((3 : Int32) <<< (nI (2 * i) &&& 31))) O) (tw_ri n q P D O I i ||| ((3 : Int32) <<< (nI (2 * i) &&& 31))) (tw_ri n q P D O I i) = _
  rw [h]
  by_cases z : tw_imp n q P D (tw_ri n q P D O I i) O
  · exact tw_if_t z
  · exact tw_if_f z
theorem tw_ri_t {n q i : Nat} {P D : List (Int32 × Int32)} {O I : Int32} (h : tw_imp n q P D (tw_ri n q P D O I i ||| ((3 : Int32) <<< (nI (2 * i) &&& 31))) O) : tw_ri n q P D O I (i + 1) = tw_ri n q P D O I i ||| ((3 : Int32) <<< (nI (2 * i) &&& 31)) := tw_if_t h
theorem tw_ri_f {n q i : Nat} {P D : List (Int32 × Int32)} {O I : Int32} (h : ¬ tw_imp n q P D (tw_ri n q P D O I i ||| ((3 : Int32) <<< (nI (2 * i) &&& 31))) O) : tw_ri n q P D O I (i + 1) = tw_ri n q P D O I i := tw_if_f h
theorem tw_ro_same {n q i : Nat} {P D : List (Int32 × Int32)} {O I : Int32} (h : tw_ro n q P D I O i ||| ((1 : Int32) <<< (nI i &&& 31)) = tw_ro n q P D I O i) : tw_ro n q P D I O (i + 1) = tw_ro n q P D I O i := by
  show tw_if (tw_imp n q P D I (tw_ro n q P D I O i ||| ((1 : Int32) <<< (nI i &&& 31)))) (tw_ro n q P D I O i ||| ((1 : Int32) <<< (nI i &&& 31))) (tw_ro n q P D I O i) = _
  rw [h]
  by_cases z : tw_imp n q P D I (tw_ro n q P D I O i)
  · exact tw_if_t z
  · exact tw_if_f z
theorem tw_ro_t {n q i : Nat} {P D : List (Int32 × Int32)} {O I : Int32} (h : tw_imp n q P D I (tw_ro n q P D I O i ||| ((1 : Int32) <<< (nI i &&& 31)))) : tw_ro n q P D I O (i + 1) = tw_ro n q P D I O i ||| ((1 : Int32) <<< (nI i &&& 31)) := tw_if_t h
theorem tw_ro_f {n q i : Nat} {P D : List (Int32 × Int32)} {O I : Int32} (h : ¬ tw_imp n q P D I (tw_ro n q P D I O i ||| ((1 : Int32) <<< (nI i &&& 31)))) : tw_ro n q P D I O (i + 1) = tw_ro n q P D I O i := tw_if_f h
theorem tw_ro_up {q i : Nat} {O : Int32} (hq : q ≤ 4) (hi : i < q) (h : ∀ o, bt O o = true → o < q) : ∀ o, bt (O ||| ((1 : Int32) <<< (nI i &&& 31))) o = true → o < q := by
  intro o ho
  have hl := tw_lt32 ho
  rw [b_or, tw_bsh i (by omega) o hl, Bool.or_eq_true, decide_eq_true_eq] at ho
  rcases ho with h2 | h2
  · exact h o h2
  · omega
section
variable {n q oc dc cc : Nat} {xc xp xs : Int32} {oI oO dI dO cI cO sI sO : Nat → Int32}
theorem xv_ri2 {post : SX → Prop} {p : Nat} {a0 : Nat → Int32} (hn : n ≤ 8) (hq : q ≤ 4) (ho : oc ≤ 16) (hd : dc ≤ 16) (hp : p < 16) (hO : ∀ o, bt (cO p) o = true → o < q)
    (k : ∀ a : Nat → Int32, a p = tw_ri n q (tw_ls oI oO 0 oc) (tw_ls dI dO 0 dc) (cO p) (a0 p) n → (∀ j, ¬ j = p → a j = a0 j) → post (nI n, nI q, xc, xp, nI oc, nI dc, nI cc, xs, oI, oO, dI, dO, a, cO, sI, sO)) :
    ∀ (f i : Nat) (cI : Nat → Int32), n < f + i → i ≤ n → cI p = tw_ri n q (tw_ls oI oO 0 oc) (tw_ls dI dO 0 dc) (cO p) (a0 p) i → (∀ j, ¬ j = p → cI j = a0 j) → wX_raiseInputs_2 post (nI p) (nI n) (nI q) xc xp (nI oc) (nI dc) (nI cc) xs f (nI i) oI oO dI dO cI cO sI sO := by
  have hcl : (nI p).toNatClampNeg = p := nI_clamp (by omega)
  have hin : vp_in (nI p) 16 := vp_in_nI hp (by decide)
  intro f
  induction f with
  | zero => intro i a h1 h2; omega
  | succ f ih =>
    intro i a h1 h2 h3 h4
    refine pk_le n i (fun h => ?_) (fun h => ?_)
    · have e : i = n := by omega
      subst e
      exact k a h3 h4
    · rw [hcl, tw_2x]
      refine ⟨hin, fun x ex => ⟨hin, br_c (fun z y ey => ?_) (fun z => ⟨hin, xv_avoidsOff hn hq ho hd hO (fun hi => br_f (by decide) ⟨hin, fun b eb y ey => ?_⟩) (fun hi => br_t rfl (fun y ey => ?_))⟩)⟩⟩
      · subst ex ey
        rw [nI_1]
        rw [h3] at z
        exact ih (i + 1) a (by omega) (by omega) (by rw [tw_ri_same z]; exact h3) h4
      · subst ex ey eb
        rw [nI_1]
        rw [h3] at hi
        refine ih (i + 1) _ (by omega) (by omega) ?_ (fun j hj => ?_)
        · rw [pk_us, tw_ri_t hi, h3]
        · rw [pk_un hj]; exact h4 j hj
      · subst ex ey
        rw [nI_1]
        rw [h3] at hi
        exact ih (i + 1) a (by omega) (by omega) (by rw [tw_ri_f hi]; exact h3) h4
theorem xv_raiseInputs {post : SX → Prop} {p : Nat} (hn : n ≤ 8) (hq : q ≤ 4) (ho : oc ≤ 16) (hd : dc ≤ 16) (hp : p < 16) (hO : ∀ o, bt (cO p) o = true → o < q)
    (k : ∀ a : Nat → Int32, a p = tw_ri n q (tw_ls oI oO 0 oc) (tw_ls dI dO 0 dc) (cO p) (cI p) n → (∀ j, ¬ j = p → a j = cI j) → post (nI n, nI q, xc, xp, nI oc, nI dc, nI cc, xs, oI, oO, dI, dO, a, cO, sI, sO)) : wpX_raiseInputs post (nI n, nI q, xc, xp, nI oc, nI dc, nI cc, xs, oI, oO, dI, dO, cI, cO, sI, sO) (nI p) :=
  ⟨n + 1, xv_ri2 hn hq ho hd hp hO k (n + 1) 0 cI (by omega) (by omega) rfl (fun _ _ => rfl)⟩
theorem xv_ro2 {post : SX → Prop} {p : Nat} {b0 : Nat → Int32} (hn : n ≤ 8) (hq : q ≤ 4) (ho : oc ≤ 16) (hd : dc ≤ 16) (hp : p < 16) (hO : ∀ o, bt (b0 p) o = true → o < q)
    (k : ∀ b : Nat → Int32, b p = tw_ro n q (tw_ls oI oO 0 oc) (tw_ls dI dO 0 dc) (cI p) (b0 p) q → (∀ j, ¬ j = p → b j = b0 j) → post (nI n, nI q, xc, xp, nI oc, nI dc, nI cc, xs, oI, oO, dI, dO, cI, b, sI, sO)) :
    ∀ (f i : Nat) (cO : Nat → Int32), q < f + i → i ≤ q → cO p = tw_ro n q (tw_ls oI oO 0 oc) (tw_ls dI dO 0 dc) (cI p) (b0 p) i → (∀ j, ¬ j = p → cO j = b0 j) → wX_raiseOutputs_2 post (nI p) (nI n) (nI q) xc xp (nI oc) (nI dc) (nI cc) xs f (nI i) oI oO dI dO cI cO sI sO := by
  have hcl : (nI p).toNatClampNeg = p := nI_clamp (by omega)
  have hin : vp_in (nI p) 16 := vp_in_nI hp (by decide)
  intro f
  induction f with
  | zero => intro i a h1 h2; omega
  | succ f ih =>
    intro i a h1 h2 h3 h4
    refine pk_le q i (fun h => ?_) (fun h => ?_)
    · have e : i = q := by omega
      subst e
      exact k a h3 h4
    · rw [hcl]
      have hOi : ∀ o, bt (a p) o = true → o < q := by rw [h3]; exact tw_ro_ok hq hO i h2
      refine ⟨hin, fun x ex => ?_⟩
      have hOx : ∀ o, bt x o = true → o < q := by rw [ex]; exact tw_ro_up hq h hOi
      refine ⟨hin, br_c (fun z y ey => ?_) (fun z => ⟨hin, xv_avoidsOff hn hq ho hd hOx (fun hi => br_f (by decide) ⟨hin, fun b eb y ey => ?_⟩) (fun hi => br_t rfl (fun y ey => ?_))⟩)⟩
      · subst ex ey
        rw [nI_1]
        rw [h3] at z
        exact ih (i + 1) a (by omega) (by omega) (by rw [tw_ro_same z]; exact h3) h4
      · subst ex ey eb
        rw [nI_1]
        rw [h3] at hi
        refine ih (i + 1) _ (by omega) (by omega) ?_ (fun j hj => ?_)
        · rw [pk_us, tw_ro_t hi, h3]
        · rw [pk_un hj]; exact h4 j hj
      · subst ex ey
        rw [nI_1]
        rw [h3] at hi
        exact ih (i + 1) a (by omega) (by omega) (by rw [tw_ro_f hi]; exact h3) h4
theorem xv_raiseOutputs {post : SX → Prop} {p : Nat} (hn : n ≤ 8) (hq : q ≤ 4) (ho : oc ≤ 16) (hd : dc ≤ 16) (hp : p < 16) (hO : ∀ o, bt (cO p) o = true → o < q)
    (k : ∀ b : Nat → Int32, b p = tw_ro n q (tw_ls oI oO 0 oc) (tw_ls dI dO 0 dc) (cI p) (cO p) q → (∀ j, ¬ j = p → b j = cO j) → post (nI n, nI q, xc, xp, nI oc, nI dc, nI cc, xs, oI, oO, dI, dO, cI, b, sI, sO)) : wpX_raiseOutputs post (nI n, nI q, xc, xp, nI oc, nI dc, nI cc, xs, oI, oO, dI, dO, cI, cO, sI, sO) (nI p) :=
  ⟨q + 1, xv_ro2 hn hq ho hd hp hO k (q + 1) 0 cO (by omega) (by omega) rfl (fun _ _ => rfl)⟩
theorem xv_dr88 {post : Int32 → SX → Prop} {J23 : Int32 → Int32 → Int32 → (Nat → Int32) → (Nat → Int32) → (Nat → Int32) → (Nat → Int32) → (Nat → Int32) → (Nat → Int32) → (Nat → Int32) → (Nat → Int32) → Prop} {x1 x2 x3 x5 : Int32} {kp i : Nat} (hk : kp < 16) (hi : i < 16)
    (k : J23 (nI (kp + 1)) x5 (nI (i + 1)) oI oO dI dO (upd cI kp (cI i)) (upd cO kp (cO i)) sI sO) : wX_dropCubesInside_88 post J23 x1 x2 x3 (nI kp) x5 (nI i) (nI n) (nI q) xc xp (nI oc) (nI dc) (nI cc) xs oI oO dI dO cI cO sI sO := by
  unfold wX_dropCubesInside_88
  rw [nI_clamp (n := kp) (by omega), nI_clamp (n := i) (by omega)]
  refine ⟨vp_in_nI hi (by decide), vp_in_nI hk (by decide), fun a ea => ⟨vp_in_nI hi (by decide), vp_in_nI hk (by decide), fun b eb y ey z ez => ?_⟩⟩
  subst ea eb ey ez
  rw [nI_1, nI_1]
  exact k
theorem xv_dr23 {post : Int32 → SX → Prop} {p : Nat} {c1 c2 : Int32} {a0 b0 : Nat → Int32} (hc : cc ≤ 16) (hp : p < cc)
    (k : ∀ (L : Nat) (a b : Nat → Int32), L = (tw_G (c1, c2) p a0 b0 cc).length → tw_ls a b 0 L = tw_G (c1, c2) p a0 b0 cc → post (nI (tw_fl (c1, c2) (tw_ls a0 b0 0 p)).length) (nI n, nI q, xc, xp, nI oc, nI dc, nI L, xs, oI, oO, dI, dO, a, b, sI, sO)) :
    ∀ (f i kp kn : Nat) (cI cO : Nat → Int32), cc < f + i → i ≤ cc → kp = (tw_G (c1, c2) p a0 b0 i).length → tw_ls cI cO 0 kp = tw_G (c1, c2) p a0 b0 i → (∀ j, i ≤ j → cI j = a0 j ∧ cO j = b0 j) → (i ≤ p → kn = p) → (p < i → kn = (tw_fl (c1, c2) (tw_ls a0 b0 0 p)).length) →
    wX_dropCubesInside_23 post (nI p) c1 c2 (nI n) (nI q) xc xp (nI oc) (nI dc) (nI cc) xs f (nI kp) (nI kn) (nI i) oI oO dI dO cI cO sI sO := by
  intro f
  induction f with
  | zero => intro i kp kn a b h1 h2; omega
  | succ f ih =>
    intro i kp kn cI cO h1 h2 h3 h4 h5 h6 h7
    have hkp : kp ≤ i := by rw [h3]; exact tw_G_len _ _ _ _ i
    refine pk_le cc i (fun h => ?_) (fun h => ?_)
    · have e : i = cc := by omega
      subst e
      rw [h7 hp]
      exact k kp cI cO h3 h4
    · rw [nI_clamp (n := i) (by omega)]
      obtain ⟨e1, e2⟩ := h5 i (Nat.le_refl _)
      have keep : ∀ kn' : Nat, (i = p ∨ ¬ tw_ins (c1, c2) (a0 i, b0 i)) → (i + 1 ≤ p → kn' = p) → (p < i + 1 → kn' = (tw_fl (c1, c2) (tw_ls a0 b0 0 p)).length) → wX_dropCubesInside_88 post (wX_dropCubesInside_23 post (nI p) c1 c2 (nI n) (nI q) xc xp (nI oc) (nI dc) (nI cc) xs f) (nI p) c1 c2 (nI kp) (nI kn') (nI i) (nI n) (nI q) xc xp (nI oc) (nI dc) (nI cc) xs oI oO dI dO cI cO sI sO := by
        intro kn' hk g1 g2
        refine xv_dr88 (by omega) (by omega) (ih (i + 1) (kp + 1) kn' _ _ (by omega) (by omega) ?_ ?_ (fun j hj => ?_) g1 g2)
        · show _ = (tw_if (i = p ∨ ¬ tw_ins (c1, c2) (a0 i, b0 i)) (tw_G (c1, c2) p a0 b0 i ++ [(a0 i, b0 i)]) (tw_G (c1, c2) p a0 b0 i)).length
          rw [tw_if_t hk, List.length_append, List.length_singleton, ← h3]
        · show _ = tw_if (i = p ∨ ¬ tw_ins (c1, c2) (a0 i, b0 i)) (tw_G (c1, c2) p a0 b0 i ++ [(a0 i, b0 i)]) (tw_G (c1, c2) p a0 b0 i)
          rw [tw_if_t hk, tw_ls_put, h4, e1, e2]
        · rw [pk_un (by omega), pk_un (by omega)]
          exact h5 j (by omega)
      have key : ∀ z : Int32, (z = 0 ↔ ¬ tw_ins (c1, c2) (a0 i, b0 i)) → wX_dropCubesInside_65 post (wX_dropCubesInside_23 post (nI p) c1 c2 (nI n) (nI q) xc xp (nI oc) (nI dc) (nI cc) xs f) (nI p) c1 c2 (nI kp) (nI kn) (nI i) z (nI n) (nI q) xc xp (nI oc) (nI dc) (nI cc) xs oI oO dI dO cI cO sI sO := by
        intro z hz
        refine pk_eq i p (fun e => br_t (by rw [e]) (keep kp (Or.inl e) (fun g => absurd g (by omega)) (fun _ => ?_))) (fun e => br_f ?_ (br_c (fun z0 => keep kn (Or.inr (hz.mp z0)) (fun g => h6 (by omega)) (fun g => h7 (by omega))) (fun z0 y ey => ?_)))
        · rw [h3, e, tw_G_lo _ _ _ _ p (Nat.le_refl _)]
        · rw [nI_eq (by omega) (by omega)]; exact e
        · subst ey
          rw [nI_1]
          have hin : tw_ins (c1, c2) (a0 i, b0 i) := Classical.byContradiction (fun g => z0 (hz.mpr g))
          have hk : ¬ (i = p ∨ ¬ tw_ins (c1, c2) (a0 i, b0 i)) := by
            rintro (g | g)
            · exact e g
            · exact g hin
          have hG : tw_G (c1, c2) p a0 b0 (i + 1) = tw_G (c1, c2) p a0 b0 i := tw_if_f hk
          exact ih (i + 1) kp kn cI cO (by omega) (by omega) (by rw [hG]; exact h3) (by rw [hG]; exact h4) (fun j hj => h5 j (by omega)) (fun g => h6 (by omega)) (fun g => h7 (by omega))
      refine ⟨vp_in_nI (by omega) (by decide), br_c (fun g1 => ⟨vp_in_nI (by omega) (by decide), br_c (fun g2 => key 1 ?_) (fun g2 => key 0 ?_)⟩) (fun g1 => key 0 ?_)⟩
      · rw [tw_insz]
        rw [e1] at g1
        rw [e2] at g2
        exact ⟨fun z => absurd z (by decide), fun z => absurd ⟨g1, g2⟩ z⟩
      · rw [tw_insz]
        rw [e2] at g2
        exact ⟨fun _ z => g2 z.2, fun _ => rfl⟩
      · rw [tw_insz]
        rw [e1] at g1
        exact ⟨fun _ z => g1 z.1, fun _ => rfl⟩
theorem xv_drop {post : Int32 → SX → Prop} {p : Nat} (hc : cc ≤ 16) (hp : p < cc)
    (k : ∀ (L : Nat) (a b : Nat → Int32), tw_ls a b 0 L = tw_fl (cI p, cO p) (tw_ls cI cO 0 p) ++ [(cI p, cO p)] ++ tw_fl (cI p, cO p) (tw_ls cI cO (p + 1) (cc - p - 1)) → post (nI (tw_fl (cI p, cO p) (tw_ls cI cO 0 p)).length) (nI n, nI q, xc, xp, nI oc, nI dc, nI L, xs, oI, oO, dI, dO, a, b, sI, sO)) : wpX_dropCubesInside post (nI n, nI q, xc, xp, nI oc, nI dc, nI cc, xs, oI, oO, dI, dO, cI, cO, sI, sO) (nI p) := by
  have hcl : (nI p).toNatClampNeg = p := nI_clamp (by omega)
  have hin : vp_in (nI p) 16 := vp_in_nI (by omega) (by decide)
  refine ⟨hin, fun x ex => ⟨hin, fun y ey => ⟨cc + 1, ?_⟩⟩⟩
  rw [hcl] at ex ey
  subst ex ey
  refine xv_dr23 hc hp (fun L a b _ h => k L a b ?_) (cc + 1) 0 0 p cI cO (by omega) (by omega) rfl rfl (fun j _ => ⟨rfl, rfl⟩) (fun _ => rfl) (fun g => absurd g (by omega))
  rw [h, tw_G_all _ _ _ hp]
theorem xv_lo4 {post : Int32 → Prop} {I : Int32} (hn : n ≤ 8) (k : post (nI (tw_lc I n))) : ∀ (f i : Nat), n < f + i → i ≤ n → wX_literalsOf_4 post I (nI n) (nI q) xc xp (nI oc) (nI dc) (nI cc) xs oI oO dI dO cI cO sI sO f (nI (tw_lc I i)) (nI i) := by
  intro f
  induction f with
  | zero => intro i h1 h2; omega
  | succ f ih =>
    intro i h1 h2
    refine pk_le n i (fun h => ?_) (fun h x ex => ?_)
    · have e : i = n := by omega
      subst e; exact k
    · rw [tw_2x] at ex
      subst ex
      have hf := tw_lcf I i (by omega)
      have hs : ∀ y z : Int32, (bt I (2 * i) = bt I (2 * i + 1) → y = nI (tw_lc I i)) → (¬ bt I (2 * i) = bt I (2 * i + 1) → y = nI (tw_lc I i) + 1) → z = nI i + 1 → wX_literalsOf_4 post I (nI n) (nI q) xc xp (nI oc) (nI dc) (nI cc) xs oI oO dI dO cI cO sI sO f y z := by
        intro y z g1 g2 ez
        have ey : y = nI (tw_lc I (i + 1)) := by
          show y = nI (tw_lc I i + (if bt I (2 * i) = bt I (2 * i + 1) then 0 else 1))
          by_cases g : bt I (2 * i) = bt I (2 * i + 1)
          · rw [if_pos g, g1 g]; rfl
          · rw [if_neg g, g2 g, nI_1]
        subst ey ez
        rw [nI_1]
        exact ih (i + 1) (by omega) (by omega)
      refine br_c (fun g y ey z ez => hs y z (fun e => absurd e (hf.mp (Or.inl g))) (fun _ => ey) ez) (fun g => br_c (fun g2 y ey z ez => hs y z (fun e => absurd e (hf.mp (Or.inr g2))) (fun _ => ey) ez) (fun g2 z ez => hs _ z (fun _ => rfl) (fun e => ?_) ez))
      rcases hf.mpr e with g3 | g3
      · exact absurd g3 g
      · exact absurd g3 g2
theorem xv_literalsOf {post : Int32 → Prop} {I : Int32} (hn : n ≤ 8) (k : post (nI (tw_lc I n))) : wpX_literalsOf post (nI n, nI q, xc, xp, nI oc, nI dc, nI cc, xs, oI, oO, dI, dO, cI, cO, sI, sO) I :=
  ⟨n + 1, xv_lo4 hn k (n + 1) 0 (by omega) (by omega)⟩
theorem xv_lc4 {post : Int32 → Prop} (hn : n ≤ 8) (hc : cc ≤ 16) (k : post (nI (tw_li n (tw_ls cI cO 0 cc)))) : ∀ (f i : Nat), cc < f + i → i ≤ cc → wX_literalCount_4 post (nI n) (nI q) xc xp (nI oc) (nI dc) (nI cc) xs oI oO dI dO cI cO sI sO f (nI (tw_li n (tw_ls cI cO 0 i))) (nI i) := by
  intro f
  induction f with
  | zero => intro i h1 h2; omega
  | succ f ih =>
    intro i h1 h2
    refine pk_le cc i (fun h => ?_) (fun h => ⟨vp_in_nI (by omega) (by decide), xv_literalsOf hn (fun y ey z ez => ?_)⟩)
    · have e : i = cc := by omega
      subst e; exact k
    · rw [nI_clamp (n := i) (by omega), nI_add] at ey
      have e2 : tw_li n (tw_ls cI cO 0 (i + 1)) = tw_li n (tw_ls cI cO 0 i) + tw_lc (cI i) n := by
        rw [tw_ls_snoc, tw_li_app, Nat.zero_add]
        rfl
      rw [← e2] at ey
      subst ey ez
      rw [nI_1]
      exact ih (i + 1) (by omega) (by omega)
theorem xv_literalCount {post : Int32 → Prop} (hn : n ≤ 8) (hc : cc ≤ 16) (k : post (nI (tw_li n (tw_ls cI cO 0 cc)))) : wpX_literalCount post (nI n, nI q, xc, xp, nI oc, nI dc, nI cc, xs, oI, oO, dI, dO, cI, cO, sI, sO) :=
  ⟨cc + 1, xv_lc4 hn hc k (cc + 1) 0 (by omega) (by omega)⟩
end
