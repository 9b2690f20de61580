/-! the reference: reduce, improve, and the public methods -/
section
variable {n q oc dc cc : Nat} {xc xp : Int32} {oI oO dI dO cI cO sI sO : Nat → Int32}
theorem yv_rd44 {post : SY → Prop} {J4 : Int32 → Int32 → Int32 → Int32 → Int32 → Int32 → Int32 → Int32 → Int32 → (Nat → Int32) → (Nat → Int32) → (Nat → Int32) → (Nat → Int32) → (Nat → Int32) → (Nat → Int32) → (Nat → Int32) → (Nat → Int32) → Prop} {J34 : Int32 → Int32 → Int32 → Prop} {x2 x5 I0 O0 : Int32} {m p : Nat} (hn : n ≤ 8) (hq : q ≤ 4) (hm : m < 2 ^ 30) (ho : oc ≤ 16) (hd : dc ≤ 16) (hc : cc ≤ 16) (hp : p < cc)
    (kJ : ∀ I O : Int32, (∀ j, j < 32 → (bt I j = true ↔ bt I0 j = true ∨ ((∃ o, o < q ∧ tw_own n (tw_ls oI oO 0 oc) (tw_ls dI dO 0 dc) (cI p, cO p) (tw_ls cI cO 0 p ++ tw_ls cI cO (p + 1) (cc - p - 1)) m o) ∧ ∃ t, t < n ∧ j = tw_at m t))) → (∀ o, o < 32 → (bt O o = true ↔ bt O0 o = true ∨ (o < q ∧ tw_own n (tw_ls oI oO 0 oc) (tw_ls dI dO 0 dc) (cI p, cO p) (tw_ls cI cO 0 p ++ tw_ls cI cO (p + 1) (cc - p - 1)) m o))) → J34 I O (nI (m + 1))) :
    ∀ (f i : Nat) (I O : Int32), q < f + i → i ≤ q →
    (∀ j, j < 32 → (bt I j = true ↔ bt I0 j = true ∨ ((∃ o, o < i ∧ tw_own n (tw_ls oI oO 0 oc) (tw_ls dI dO 0 dc) (cI p, cO p) (tw_ls cI cO 0 p ++ tw_ls cI cO (p + 1) (cc - p - 1)) m o) ∧ ∃ t, t < n ∧ j = tw_at m t))) →
    (∀ o, o < 32 → (bt O o = true ↔ bt O0 o = true ∨ (o < i ∧ tw_own n (tw_ls oI oO 0 oc) (tw_ls dI dO 0 dc) (cI p, cO p) (tw_ls cI cO 0 p ++ tw_ls cI cO (p + 1) (cc - p - 1)) m o))) →
    wY_doReduce_44 post J4 J34 (nI p) x2 x5 (nI m) (nI n) (nI q) xc (nI oc) (nI dc) (nI cc) xp oI oO dI dO cI cO sI sO f I O (nI i) := by
  intro f
  induction f with
  | zero => intro i I O h1 h2; omega
  | succ f ih =>
    intro i I O h1 h2 h3 h4
    refine pk_le q i (fun h y ey => ?_) (fun h => ⟨vp_in_nI (by omega) (by decide), vp_in_nI (by omega) (by decide), ?_⟩)
    · subst ey
      rw [nI_1]
      have e : i = q := by omega
      subst e
      exact kJ I O h3 h4
    · rw [nI_clamp (n := p) (by omega)]
      have nx : ¬ tw_own n (tw_ls oI oO 0 oc) (tw_ls dI dO 0 dc) (cI p, cO p) (tw_ls cI cO 0 p ++ tw_ls cI cO (p + 1) (cc - p - 1)) m i → ∀ y : Int32, y = nI i + 1 → wY_doReduce_44 post J4 J34 (nI p) x2 x5 (nI m) (nI n) (nI q) xc (nI oc) (nI dc) (nI cc) xp oI oO dI dO cI cO sI sO f I O y := by
        intro g y ey
        subst ey
        rw [nI_1]
        refine ih (i + 1) I O (by omega) (by omega) (fun j hj => ?_) (fun o ho2 => ?_)
        · rw [h3 j hj]
          constructor
          · rintro (a | ⟨⟨o, a, b⟩, c⟩)
            · exact Or.inl a
            · exact Or.inr ⟨⟨o, by omega, b⟩, c⟩
          · rintro (a | ⟨⟨o, a, b⟩, c⟩)
            · exact Or.inl a
            · by_cases e : o = i
              · subst e; exact absurd b g
              · exact Or.inr ⟨⟨o, by omega, b⟩, c⟩
        · rw [h4 o ho2]
          constructor
          · rintro (a | ⟨a, b⟩)
            · exact Or.inl a
            · exact Or.inr ⟨by omega, b⟩
          · rintro (a | ⟨a, b⟩)
            · exact Or.inl a
            · by_cases e : o = i
              · subst e; exact absurd b g
              · exact Or.inr ⟨by omega, b⟩
      refine yv_chk hn (by omega) (by omega) ho hd hc hp (fun g => yv_pointPart hn (by omega) (fun y ey z ez w ew => ?_)) (fun g => ⟨nx g, nx g, nx g⟩)
      subst ey ez ew
      rw [nI_1]
      refine ih (i + 1) _ _ (by omega) (by omega) (fun j hj => ?_) (fun o ho2 => ?_)
      · rw [b_or, Bool.or_eq_true, h3 j hj, tw_pm_b m n (by omega) j hj]
        constructor
        · rintro ((a | ⟨⟨o, a, b⟩, c⟩) | a)
          · exact Or.inl a
          · exact Or.inr ⟨⟨o, by omega, b⟩, c⟩
          · exact Or.inr ⟨⟨i, by omega, g⟩, a⟩
        · rintro (a | ⟨_, c⟩)
          · exact Or.inl (Or.inl a)
          · exact Or.inr c
      · rw [b_or, Bool.or_eq_true, h4 o ho2, tw_bsh i (by omega) o ho2, decide_eq_true_eq]
        constructor
        · rintro ((a | ⟨a, b⟩) | a)
          · exact Or.inl a
          · exact Or.inr ⟨by omega, b⟩
          · subst a; exact Or.inr ⟨by omega, g⟩
        · rintro (a | ⟨a, b⟩)
          · exact Or.inl (Or.inl a)
          · by_cases e : o = i
            · exact Or.inr e
            · exact Or.inl (Or.inr ⟨by omega, b⟩)
theorem yv_rd34 {post : SY → Prop} {J4 : Int32 → Int32 → Int32 → Int32 → Int32 → Int32 → Int32 → Int32 → Int32 → (Nat → Int32) → (Nat → Int32) → (Nat → Int32) → (Nat → Int32) → (Nat → Int32) → (Nat → Int32) → (Nat → Int32) → (Nat → Int32) → Prop} {st p : Nat} (hn : n ≤ 8) (hq : q ≤ 4) (ho : oc ≤ 16) (hd : dc ≤ 16) (hc : cc ≤ 16) (hp : p < cc)
    (k1 : tw_has n q (tw_ls oI oO 0 oc) (tw_ls dI dO 0 dc) (cI p, cO p) (tw_ls cI cO 0 p ++ tw_ls cI cO (p + 1) (cc - p - 1)) → ∀ I O : Int32, (I, O) = tw_rc n q (tw_ls oI oO 0 oc) (tw_ls dI dO 0 dc) (cI p, cO p) (tw_ls cI cO 0 p ++ tw_ls cI cO (p + 1) (cc - p - 1)) → J4 (nI (p + 1)) (nI (st + 1)) (nI n) (nI q) xc (nI oc) (nI dc) (nI cc) xp oI oO dI dO (upd cI p I) (upd cO p O) sI sO)
    (k0 : ¬ tw_has n q (tw_ls oI oO 0 oc) (tw_ls dI dO 0 dc) (cI p, cO p) (tw_ls cI cO 0 p ++ tw_ls cI cO (p + 1) (cc - p - 1)) → ∀ a b : Nat → Int32, tw_ls a b 0 (cc - 1) = tw_ls cI cO 0 p ++ tw_ls cI cO (p + 1) (cc - p - 1) → J4 (nI p) (nI (st + 1)) (nI n) (nI q) xc (nI oc) (nI dc) (nI (cc - 1)) xp oI oO dI dO a b sI sO) :
    ∀ (f i : Nat) (I O : Int32), 2 ^ n < f + i → i ≤ 2 ^ n →
    (∀ j, j < 32 → (bt I j = true ↔ ∃ m, m < i ∧ (∃ o, o < q ∧ tw_own n (tw_ls oI oO 0 oc) (tw_ls dI dO 0 dc) (cI p, cO p) (tw_ls cI cO 0 p ++ tw_ls cI cO (p + 1) (cc - p - 1)) m o) ∧ ∃ i, i < n ∧ j = tw_at m i)) →
    (∀ o, o < 32 → (bt O o = true ↔ ∃ m, m < i ∧ o < q ∧ tw_own n (tw_ls oI oO 0 oc) (tw_ls dI dO 0 dc) (cI p, cO p) (tw_ls cI cO 0 p ++ tw_ls cI cO (p + 1) (cc - p - 1)) m o)) →
    wY_doReduce_34 post J4 (nI p) (nI st) (nI (2 ^ n)) (nI n) (nI q) xc (nI oc) (nI dc) (nI cc) xp oI oO dI dO cI cO sI sO f I O (nI i) := by
  have hpw := tw_pow8 hn
  intro f
  induction f with
  | zero => intro i I O h1 h2; omega
  | succ f ih =>
    intro i I O h1 h2 h3 h4
    refine pk_le (2 ^ n) i (fun h => ?_) (fun h => ⟨q + 1, yv_rd44 (I0 := I) (O0 := O) hn hq (by omega) ho hd hc hp (fun I' O' g1 g2 => ?_) (q + 1) 0 I O (by omega) (by omega) (fun j hj => ?_) (fun o ho2 => ?_)⟩)
    · have e : i = 2 ^ n := by omega
      subst e
      refine br_c (fun z => yv_removeAt hc hp (fun a b hab y ey => ?_)) (fun z => ?_)
      · rw [nI_1] at ey
        subst ey
        refine k0 ?_ a b hab
        rintro ⟨m, hm, o, ho2, hw⟩
        have h5 := (h4 o (by omega)).mpr ⟨m, hm, ho2, hw⟩
        rw [z, b_0] at h5
        exact Bool.noConfusion h5
      · rw [nI_clamp (n := p) (by omega)]
        refine ⟨vp_in_nI (by omega) (by decide), fun a ea => ⟨vp_in_nI (by omega) (by decide), fun b eb y ey w ew => ?_⟩⟩
        rw [nI_1] at ey ew
        subst ea eb ey ew
        obtain ⟨o, ho2, hb⟩ := tw_nz.mp z
        obtain ⟨m, hm, hoq, hw⟩ := (h4 o ho2).mp hb
        exact k1 ⟨m, hm, o, hoq, hw⟩ I O (tw_rcy h3 h4)
    · refine ih (i + 1) I' O' (by omega) (by omega) (fun j hj => ?_) (fun o ho2 => ?_)
      · rw [g1 j hj, h3 j hj]
        constructor
        · rintro (⟨m, a, b⟩ | a)
          · exact ⟨m, by omega, b⟩
          · exact ⟨i, by omega, a⟩
        · rintro ⟨m, a, b⟩
          by_cases e : m = i
          · subst e; exact Or.inr b
          · exact Or.inl ⟨m, by omega, b⟩
      · rw [g2 o ho2, h4 o ho2]
        constructor
        · rintro (⟨m, a, b⟩ | a)
          · exact ⟨m, by omega, b⟩
          · exact ⟨i, by omega, a⟩
        · rintro ⟨m, a, b⟩
          by_cases e : m = i
          · subst e; exact Or.inr b
          · exact Or.inl ⟨m, by omega, b⟩
    · constructor
      · intro a; exact Or.inl a
      · rintro (a | ⟨⟨o, a, _⟩, _⟩)
        · exact a
        · omega
    · constructor
      · intro a; exact Or.inl a
      · rintro (a | ⟨a, _⟩)
        · exact a
        · omega
theorem yv_rd4 {post : SY → Prop} (hn : n ≤ 8) (hq : q ≤ 4) (ho : oc ≤ 16) (hd : dc ≤ 16) :
    ∀ (g st p cc : Nat) (cI cO : Nat → Int32), st + g ≤ 64 → p ≤ cc → cc ≤ 16 → cc - p = g → tw_val q (tw_ls cI cO 0 cc) →
    (∀ (L : Nat) (a b : Nat → Int32), L ≤ 16 → tw_ls a b 0 L = tw_rd n q (tw_ls oI oO 0 oc) (tw_ls dI dO 0 dc) (tw_ls cI cO 0 p) (tw_ls cI cO p (cc - p)) → post (nI n, nI q, xc, nI oc, nI dc, nI L, xp, oI, oO, dI, dO, a, b, sI, sO)) →
    wY_doReduce_4 post (g + 1) (nI p) (nI st) (nI n) (nI q) xc (nI oc) (nI dc) (nI cc) xp oI oO dI dO cI cO sI sO := by
  intro g
  induction g with
  | zero =>
    intro st p cc cI cO h1 h2 h3 h4 hv k
    have kk : post (nI n, nI q, xc, nI oc, nI dc, nI cc, xp, oI, oO, dI, dO, cI, cO, sI, sO) := by
      refine k cc cI cO h3 ?_
      rw [tw_ls_nil (by omega), show cc = p from by omega]
      simp only [tw_rd]
    exact pk_le 64 st (fun _ => kk) (fun _ => pk_le cc p (fun _ => kk) (fun h => absurd h (by omega)))
  | succ g ih =>
    intro st p cc cI cO h1 h2 h3 h4 hv k
    refine pk_le 64 st (fun h => absurd h (by omega)) (fun _ => pk_le cc p (fun h => absurd h (by omega)) (fun h y ey => ?_))
    rw [tw_p2 n (by omega)] at ey
    subst ey
    rw [tw_ls_cons h] at k
    simp only [tw_rd] at k
    refine ⟨2 ^ n + 1, yv_rd34 hn hq ho hd h3 h (fun hh I O hIO => ?_) (fun hh a b hab => ?_) (2 ^ n + 1) 0 0 0 (by omega) (Nat.zero_le _) (fun j hj => ?_) (fun o ho => ?_)⟩
    · rw [tw_if_t hh, ← hIO] at k
      have hOk : ∀ o, bt O o = true → o < q := by
        have h5 : O = (tw_rc n q (tw_ls oI oO 0 oc) (tw_ls dI dO 0 dc) (cI p, cO p) (tw_ls cI cO 0 p ++ tw_ls cI cO (p + 1) (cc - p - 1))).2 := congrArg Prod.snd hIO
        rw [h5]
        exact tw_rc_ok
      obtain ⟨s1, s2, s3⟩ := tw_val_set (I := I) (O := O) h hv hOk
      refine ih (st + 1) (p + 1) cc _ _ (by omega) (by omega) h3 (by omega) s1 ?_
      rw [s2, s3]
      exact k
    · rw [tw_if_f hh] at k
      obtain ⟨s1, s2, s3⟩ := tw_val_rm h hv hab
      refine ih (st + 1) p (cc - 1) a b (by omega) (by omega) (by omega) (by omega) s1 ?_
      rw [s2, s3]
      exact k
    · rw [b_0]
      constructor
      · intro h; exact Bool.noConfusion h
      · intro ⟨m, hm, _⟩; omega
    · rw [b_0]
      constructor
      · intro h; exact Bool.noConfusion h
      · intro ⟨m, hm, _⟩; omega
theorem yv_doReduce {post : SY → Prop} (hn : n ≤ 8) (hq : q ≤ 4) (ho : oc ≤ 16) (hd : dc ≤ 16) (hc : cc ≤ 16) (hv : tw_val q (tw_ls cI cO 0 cc))
    (k : ∀ (L : Nat) (a b : Nat → Int32), L ≤ 16 → tw_ls a b 0 L = tw_rd n q (tw_ls oI oO 0 oc) (tw_ls dI dO 0 dc) [] (tw_ls cI cO 0 cc) → post (nI n, nI q, xc, nI oc, nI dc, nI L, xp, oI, oO, dI, dO, a, b, sI, sO)) : wpY_doReduce post (nI n, nI q, xc, nI oc, nI dc, nI cc, xp, oI, oO, dI, dO, cI, cO, sI, sO) :=
  ⟨cc + 1, yv_rd4 hn hq ho hd cc 0 0 cc cI cO (by omega) (by omega) hc (by omega) hv k⟩
theorem yv_im122 {post : Int32 → SY → Prop} {c : Nat} (hc : c ≤ 16)
    (k : ∀ a b : Nat → Int32, tw_ls a b 0 c = tw_ls sI sO 0 c → post 0 (nI n, nI q, xc, nI oc, nI dc, nI c, xp, oI, oO, dI, dO, a, b, sI, sO)) :
    ∀ (f i : Nat) (cI cO : Nat → Int32), c < f + i → i ≤ c → (∀ j, j < i → cI j = sI j ∧ cO j = sO j) → wY_improve_122 post (nI c) (nI n) (nI q) xc (nI oc) (nI dc) (nI c) xp f (nI i) oI oO dI dO cI cO sI sO := by
  intro f
  induction f with
  | zero => intro i a b h1 h2; omega
  | succ f ih =>
    intro i a b h1 h2 h3
    refine pk_le c i (fun h => k a b (tw_ls_eq (fun j _ hj => h3 j (by omega)))) (fun h => pk_le 16 i (fun g => absurd g (by omega)) (fun _ => ?_))
    rw [nI_clamp (n := i) (by omega)]
    refine ⟨vp_in_nI (by omega) (by decide), vp_in_nI (by omega) (by decide), fun y ey => ⟨vp_in_nI (by omega) (by decide), vp_in_nI (by omega) (by decide), fun z ez w ew => ?_⟩⟩
    subst ey ez ew
    rw [nI_1]
    refine ih (i + 1) _ _ (by omega) (by omega) (fun j hj => ?_)
    by_cases e : j = i
    · subst e; exact ⟨pk_us, pk_us⟩
    · rw [pk_un e, pk_un e]; exact h3 j (by omega)
theorem yv_im60 {post : Int32 → SY → Prop} {s t : Nat → Int32} (hn : n ≤ 8) (hq : q ≤ 4) (ho : oc ≤ 16) (hd : dc ≤ 16) (hc : cc ≤ 16) (hv : tw_val q (tw_ls cI cO 0 cc)) (hst : tw_ls s t 0 cc = tw_ls cI cO 0 cc)
    (k1 : tw_bet n (tw_im n q (tw_ls oI oO 0 oc) (tw_ls dI dO 0 dc) (tw_ls cI cO 0 cc)) (tw_ls cI cO 0 cc) → ∀ (L : Nat) (a b s t : Nat → Int32), L ≤ 16 → tw_ls a b 0 L = tw_im n q (tw_ls oI oO 0 oc) (tw_ls dI dO 0 dc) (tw_ls cI cO 0 cc) → post 1 (nI n, nI q, xc, nI oc, nI dc, nI L, xp, oI, oO, dI, dO, a, b, s, t))
    (k2 : ¬ tw_bet n (tw_im n q (tw_ls oI oO 0 oc) (tw_ls dI dO 0 dc) (tw_ls cI cO 0 cc)) (tw_ls cI cO 0 cc) → ∀ (a b s t : Nat → Int32), tw_ls a b 0 cc = tw_ls cI cO 0 cc → post 0 (nI n, nI q, xc, nI oc, nI dc, nI cc, xp, oI, oO, dI, dO, a, b, s, t)) : wY_improve_60 post (nI cc) (nI n) (nI q) xc (nI oc) (nI dc) (nI cc) xp oI oO dI dO cI cO s t := by
  unfold wY_improve_60
  refine yv_literals hn hc ?_
  refine yv_doReduce hn hq ho hd hc hv (fun L1 a1 b1 hL1 h1 => ?_)
  have hv1 : tw_val q (tw_ls a1 b1 0 L1) := by rw [h1]; exact (tw_rd_keep _ _ tw_val_nil hv).1
  refine yv_doExpand hn hq ho hd hL1 hv1 (fun L2 a2 b2 hL2 h2 => ?_)
  have hv2 : tw_val q (tw_ls a2 b2 0 L2) := by rw [h2]; exact (tw_ex_keep hq _ _ _ tw_val_nil hv1).1
  refine yv_doIrredundant hn hq ho hd hL2 hv2 (fun L3 a3 b3 hL3 h3 => ?_)
  have h4 : tw_ls a3 b3 0 L3 = tw_im n q (tw_ls oI oO 0 oc) (tw_ls dI dO 0 dc) (tw_ls cI cO 0 cc) := by
    unfold tw_im
    rw [h3, h2, h1]
  have hl3 := tw_li_lt (a := a3) (b := b3) hn hL3
  have hl0 := tw_li_lt (a := cI) (b := cO) hn hc
  have hlen : (tw_im n q (tw_ls oI oO 0 oc) (tw_ls dI dO 0 dc) (tw_ls cI cO 0 cc)).length = L3 := by rw [← h4, tw_ls_len]
  have hlen0 : (tw_ls cI cO 0 cc).length = cc := tw_ls_len _ _ _ _
  refine yv_literals hn hL3 ?_
  have back : ¬ tw_bet n (tw_im n q (tw_ls oI oO 0 oc) (tw_ls dI dO 0 dc) (tw_ls cI cO 0 cc)) (tw_ls cI cO 0 cc) → ∃ n122 : Nat, wY_improve_122 post (nI cc) (nI n) (nI q) xc (nI oc) (nI dc) (nI cc) xp n122 0 oI oO dI dO a3 b3 s t := by
    intro hb
    exact ⟨cc + 1, yv_im122 hc (fun a b hab => k2 hb a b s t (by rw [hab, hst])) (cc + 1) 0 a3 b3 (by omega) (by omega) (fun j hj => absurd hj (by omega))⟩
  refine pk_lt L3 cc (fun g => k1 ?_ L3 a3 b3 s t hL3 h4) (fun g => pk_eq L3 cc (fun g2 => ?_) (fun g2 => back ?_))
  · unfold tw_bet
    rw [hlen, hlen0]
    omega
  · refine pk_le (tw_li n (tw_ls cI cO 0 cc)) (tw_li n (tw_ls a3 b3 0 L3)) (fun g3 => back ?_) (fun g3 => k1 ?_ L3 a3 b3 s t hL3 h4)
    · unfold tw_bet
      rw [hlen, hlen0, ← h4]
      omega
    · unfold tw_bet
      rw [hlen, hlen0, ← h4]
      omega
  · unfold tw_bet
    rw [hlen, hlen0]
    omega
theorem yv_im16 {post : Int32 → SY → Prop} (hc : cc ≤ 16) (k : ∀ s t : Nat → Int32, tw_ls s t 0 cc = tw_ls cI cO 0 cc → wY_improve_60 post (nI cc) (nI n) (nI q) xc (nI oc) (nI dc) (nI cc) xp oI oO dI dO cI cO s t) :
    ∀ (f i : Nat) (sI sO : Nat → Int32), cc < f + i → i ≤ cc → (∀ j, j < i → sI j = cI j ∧ sO j = cO j) → wY_improve_16 post (nI cc) (nI n) (nI q) xc (nI oc) (nI dc) (nI cc) xp f (nI i) oI oO dI dO cI cO sI sO := by
  intro f
  induction f with
  | zero => intro i a b h1 h2; omega
  | succ f ih =>
    intro i a b h1 h2 h3
    refine pk_le cc i (fun h => k a b (tw_ls_eq (fun j _ hj => h3 j (by omega)))) (fun h => pk_le 16 i (fun g => absurd g (by omega)) (fun _ => ?_))
    rw [nI_clamp (n := i) (by omega)]
    refine ⟨vp_in_nI (by omega) (by decide), vp_in_nI (by omega) (by decide), fun y ey => ⟨vp_in_nI (by omega) (by decide), vp_in_nI (by omega) (by decide), fun z ez w ew => ?_⟩⟩
    subst ey ez ew
    rw [nI_1]
    refine ih (i + 1) _ _ (by omega) (by omega) (fun j hj => ?_)
    by_cases e : j = i
    · subst e; exact ⟨pk_us, pk_us⟩
    · rw [pk_un e, pk_un e]; exact h3 j (by omega)
theorem yv_improve {post : Int32 → SY → Prop} (hn : n ≤ 8) (hq : q ≤ 4) (ho : oc ≤ 16) (hd : dc ≤ 16) (hc : cc ≤ 16) (hv : tw_val q (tw_ls cI cO 0 cc)) (k0 : xp = 0 → post (-1) (nI n, nI q, xc, nI oc, nI dc, nI cc, xp, oI, oO, dI, dO, cI, cO, sI, sO))
    (k1 : ¬ xp = 0 → tw_bet n (tw_im n q (tw_ls oI oO 0 oc) (tw_ls dI dO 0 dc) (tw_ls cI cO 0 cc)) (tw_ls cI cO 0 cc) → ∀ (L : Nat) (a b s t : Nat → Int32), L ≤ 16 → tw_ls a b 0 L = tw_im n q (tw_ls oI oO 0 oc) (tw_ls dI dO 0 dc) (tw_ls cI cO 0 cc) → post 1 (nI n, nI q, xc, nI oc, nI dc, nI L, xp, oI, oO, dI, dO, a, b, s, t))
    (k2 : ¬ xp = 0 → ¬ tw_bet n (tw_im n q (tw_ls oI oO 0 oc) (tw_ls dI dO 0 dc) (tw_ls cI cO 0 cc)) (tw_ls cI cO 0 cc) → ∀ (a b s t : Nat → Int32), tw_ls a b 0 cc = tw_ls cI cO 0 cc → post 0 (nI n, nI q, xc, nI oc, nI dc, nI cc, xp, oI, oO, dI, dO, a, b, s, t)) : wpY_improve post (nI n, nI q, xc, nI oc, nI dc, nI cc, xp, oI, oO, dI, dO, cI, cO, sI, sO) :=
  br_c k0 (fun h => ⟨cc + 1, yv_im16 hc (fun s t hst => yv_im60 hn hq ho hd hc hv hst (k1 h) (k2 h)) (cc + 1) 0 sI sO (by omega) (by omega) (fun j hj => absurd hj (by omega))⟩)
theorem yv_bg7 {post : Int32 → SY → Prop} (ho : oc ≤ 16) (k : ∀ a b : Nat → Int32, tw_ls a b 0 oc = tw_ls oI oO 0 oc → post (nI oc) (nI n, nI q, xc, nI oc, nI dc, nI oc, 1, oI, oO, dI, dO, a, b, sI, sO)) :
    ∀ (f i : Nat) (cI cO : Nat → Int32), oc < f + i → i ≤ oc → (∀ j, j < i → cI j = oI j ∧ cO j = oO j) → wY_begin_7 post (nI n) (nI q) xc (nI oc) (nI dc) xp f (nI i) (nI i) oI oO dI dO cI cO sI sO := by
  intro f
  induction f with
  | zero => intro i a b h1 h2; omega
  | succ f ih =>
    intro i a b h1 h2 h3
    refine pk_le oc i (fun h => ?_) (fun h => pk_le 16 i (fun g => absurd g (by omega)) (fun _ => ?_))
    · have e : i = oc := by omega
      subst e
      exact k a b (tw_ls_eq (fun j _ hj => h3 j (by omega)))
    · rw [nI_clamp (n := i) (by omega)]
      refine ⟨vp_in_nI (by omega) (by decide), vp_in_nI (by omega) (by decide), fun y ey => ⟨vp_in_nI (by omega) (by decide), vp_in_nI (by omega) (by decide), fun z ez w ew u eu => ?_⟩⟩
      rw [nI_1] at ew eu
      subst ey ez ew eu
      refine ih (i + 1) _ _ (by omega) (by omega) (fun j hj => ?_)
      by_cases e : j = i
      · subst e; exact ⟨pk_us, pk_us⟩
      · rw [pk_un e, pk_un e]; exact h3 j (by omega)
theorem yv_begin {post : Int32 → SY → Prop} (ho : oc ≤ 16) (k : ∀ a b : Nat → Int32, tw_ls a b 0 oc = tw_ls oI oO 0 oc → post (nI oc) (nI n, nI q, xc, nI oc, nI dc, nI oc, 1, oI, oO, dI, dO, a, b, sI, sO)) : wpY_begin post (nI n, nI q, xc, nI oc, nI dc, nI cc, xp, oI, oO, dI, dO, cI, cO, sI, sO) :=
  ⟨oc + 1, yv_bg7 ho k (oc + 1) 0 cI cO (by omega) (by omega) (fun j hj => absurd hj (by omega))⟩
theorem yv_pt {A B : Prop} {v w : Int32} (hn : n ≤ 8) (hq : q ≤ 4) (k1 : ∀ m o, m < 2 ^ n → o < q → v = nI m → w = nI o → A) (k0 : (¬ ∃ m o, m < 2 ^ n ∧ o < q ∧ v = nI m ∧ w = nI o) → B) : (v < 0 → B) ∧ (¬ v < 0 → ((((1 : Int32) <<< (nI n &&& 31)) ≤ v → B) ∧ (¬ ((1 : Int32) <<< (nI n &&& 31)) ≤ v → ((w < 0 → B) ∧ (¬ w < 0 → ((w < nI q → A) ∧ (¬ w < nI q → B))))))) := by
  have e : (1 : Int32) <<< (nI n &&& 31) = nI (2 ^ n) := tw_p2 n (by omega)
  have hp := tw_pow8 hn
  refine br_c (fun h => k0 ?_) (fun h => br_c (fun h2 => k0 ?_) (fun h2 => br_c (fun h3 => k0 ?_) (fun h3 => br_c (fun h4 => ?_) (fun h4 => k0 ?_))))
  · rintro ⟨m, o, h5, h6, rfl, rfl⟩
    exact nI_pos (by omega) h
  · rintro ⟨m, o, h5, h6, rfl, rfl⟩
    rw [e, nI_leI (by omega) (by omega)] at h2
    omega
  · rintro ⟨m, o, h5, h6, rfl, rfl⟩
    exact nI_pos (by omega) h3
  · obtain ⟨m, hm, rfl⟩ := nI_of h
    obtain ⟨o, ho, rfl⟩ := nI_of h3
    rw [e, nI_leI (by omega) hm] at h2
    rw [nI_ltI ho (by omega)] at h4
    exact k1 m o (by omega) (by omega) rfl rfl
  · rintro ⟨m, o, h5, h6, rfl, rfl⟩
    rw [nI_ltI (by omega) (by omega)] at h4
    omega
theorem yv_evaluate {post : Int32 → Prop} {v w : Int32} (hn : n ≤ 8) (hq : q ≤ 4) (hc : cc ≤ 16) (k1 : ∀ m o, m < 2 ^ n → o < q → v = nI m → w = nI o → post (tw_if (tw_hit n (tw_ls cI cO 0 cc) m o) 1 0)) (k0 : (¬ ∃ m o, m < 2 ^ n ∧ o < q ∧ v = nI m ∧ w = nI o) → post (-5)) : wpY_evaluate post (nI n, nI q, xc, nI oc, nI dc, nI cc, xp, oI, oO, dI, dO, cI, cO, sI, sO) v w := by
  have hp := tw_pow8 hn
  refine yv_pt hn hq (fun m o hm ho ev ew => ?_) k0
  subst ev ew
  have h2 := k1 m o hm ho rfl rfl
  exact ⟨cc + 1, yv_ev31 hn (by omega) (by omega) hc (fun g => by rw [tw_if_t g] at h2; exact h2) (fun g => by rw [tw_if_f g] at h2; exact h2) (cc + 1) 0 (by omega) (by omega) (fun j hj => absurd hj (by omega))⟩
theorem yv_function {post : Int32 → Prop} {v w : Int32} (hn : n ≤ 8) (hq : q ≤ 4) (ho : oc ≤ 16) (hd : dc ≤ 16) (k1 : ∀ m o, m < 2 ^ n → o < q → v = nI m → w = nI o → post (tw_if (tw_hit n (tw_ls dI dO 0 dc) m o) 2 (tw_if (tw_hit n (tw_ls oI oO 0 oc) m o) 1 0))) (k0 : (¬ ∃ m o, m < 2 ^ n ∧ o < q ∧ v = nI m ∧ w = nI o) → post (-5)) : wpY_function post (nI n, nI q, xc, nI oc, nI dc, nI cc, xp, oI, oO, dI, dO, cI, cO, sI, sO) v w := by
  have hp := tw_pow8 hn
  refine yv_pt hn hq (fun m o hm ho2 ev ew => ?_) k0
  subst ev ew
  have h2 := k1 m o hm ho2 rfl rfl
  exact yv_func hn (by omega) (by omega) ho hd (fun g => by rw [tw_if_t g] at h2; exact h2) (fun g1 g2 => by rw [tw_if_f g1, tw_if_t g2] at h2; exact h2) (fun g1 g2 => by rw [tw_if_f g1, tw_if_f g2] at h2; exact h2)
theorem yv_isImplicant {post : Int32 → Prop} {v w : Int32} (hn : n ≤ 8) (hq : q ≤ 4) (ho : oc ≤ 16) (hd : dc ≤ 16) (k1 : tw_vi n v → tw_vm q w → tw_imp n q (tw_ls oI oO 0 oc) (tw_ls dI dO 0 dc) v w → post 1) (k2 : tw_vi n v → tw_vm q w → ¬ tw_imp n q (tw_ls oI oO 0 oc) (tw_ls dI dO 0 dc) v w → post 0) (k3 : ¬ tw_vi n v → post 0) (k4 : tw_vi n v → ¬ tw_vm q w → post 0) : wpY_isImplicant post (nI n, nI q, xc, nI oc, nI dc, nI cc, xp, oI, oO, dI, dO, cI, cO, sI, sO) v w := by
  unfold wpY_isImplicant
  refine yv_validInput hn (fun hv => br_f (by decide) ?_) (fun hv => br_t rfl (k3 hv))
  refine yv_validMask hq (fun hm => br_f (by decide) ?_) (fun hm => br_t rfl (k4 hv hm))
  exact yv_implicant hn hq ho hd (fun hi => ⟨rfl, k1 hv hm hi⟩) (fun hi => ⟨rfl, k2 hv hm hi⟩)
end
