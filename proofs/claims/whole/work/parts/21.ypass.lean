/-! the reference: the passes -/
theorem tw_dec (i : Nat) : nI i + (-1) = nI i - 1 := (Int32.sub_eq_add_neg _ _).symm
theorem tw_rcy {n q : Nat} {P D : List (Int32 × Int32)} {c : Int32 × Int32} {R : List (Int32 × Int32)} {I O : Int32}
    (h1 : ∀ j, j < 32 → (bt I j = true ↔ ∃ m, m < 2 ^ n ∧ (∃ o, o < q ∧ tw_own n P D c R m o) ∧ ∃ i, i < n ∧ j = tw_at m i))
    (h2 : ∀ o, o < 32 → (bt O o = true ↔ ∃ m, m < 2 ^ n ∧ o < q ∧ tw_own n P D c R m o)) : (I, O) = tw_rc n q P D c R := by
  unfold tw_rc
  refine Prod.ext ?_ ?_
  · apply tw_extP
    intro j hj
    rw [h1 j hj]
    dsimp only
    rw [tw_mk_b _ 32 (Nat.le_refl _) j hj]
    exact ⟨fun h => ⟨hj, h⟩, fun h => h.2⟩
  · apply tw_extP
    intro o ho
    rw [h2 o ho]
    dsimp only
    rw [tw_mk_b _ 32 (Nat.le_refl _) o ho]
    exact ⟨fun ⟨m, a, b, c2⟩ => ⟨ho, b, m, a, c2⟩, fun ⟨_, b, m, a, c2⟩ => ⟨m, a, b, c2⟩⟩
theorem tw_ls_hd {a b a0 b0 : Nat → Int32} {i L : Nat} {U : List (Int32 × Int32)} (h : tw_ls a b 0 L = tw_ls a0 b0 0 (i + 1) ++ U) : i < L ∧ a i = a0 i ∧ b i = b0 i ∧ tw_ls a b 0 i = tw_ls a0 b0 0 i ∧ tw_ls a b (i + 1) (L - i - 1) = U := by
  obtain ⟨s1, s2, s3⟩ := tw_ls_split h
  rw [tw_ls_len] at s1 s2 s3
  have h3 := tw_ls_inj (i + 1) 0 0 s2
  have h4 := h3 i (by omega)
  rw [Nat.zero_add] at h4
  refine ⟨by omega, h4.1, h4.2, ?_, ?_⟩
  · apply tw_ls_eq
    intro j _ hj
    have h5 := h3 j (by omega)
    rw [Nat.zero_add] at h5
    exact h5
  · rw [show L - i - 1 = L - (i + 1) from by omega]
    exact s3
theorem tw_fl_in {c d : Int32 × Int32} {L : List (Int32 × Int32)} (h : tw_ins c d) : tw_fl c (d :: L) = tw_fl c L := tw_if_t h
theorem tw_fl_out {c d : Int32 × Int32} {L : List (Int32 × Int32)} (h : ¬ tw_ins c d) : tw_fl c (d :: L) = d :: tw_fl c L := tw_if_f h
/-- the drop from above: the cubes from i on are settled, U is what stays of them, x is where the keeper stands -/
def tw_iv (c : Int32 × Int32) (p cc : Nat) (a0 b0 : Nat → Int32) (i x : Nat) (U : List (Int32 × Int32)) : Prop :=
  (p < i ∧ x = p ∧ U = tw_fl c (tw_ls a0 b0 i (cc - i))) ∨ (i ≤ p ∧ x = i + (tw_fl c (tw_ls a0 b0 i (p - i))).length ∧ U = tw_fl c (tw_ls a0 b0 i (p - i)) ++ [c] ++ tw_fl c (tw_ls a0 b0 (p + 1) (cc - p - 1)))
theorem tw_iv_keep {c : Int32 × Int32} {p cc i x : Nat} {a0 b0 : Nat → Int32} {U : List (Int32 × Int32)} (hi : i < cc) (hc : (a0 p, b0 p) = c) (h : tw_iv c p cc a0 b0 (i + 1) x U) (hk : i = x ∨ ¬ tw_ins c (a0 i, b0 i)) : tw_iv c p cc a0 b0 i x ((a0 i, b0 i) :: U) := by
  rcases h with ⟨h1, h2, h3⟩ | ⟨h1, h2, h3⟩
  · by_cases e : i = p
    · refine Or.inr ⟨by omega, ?_, ?_⟩
      · rw [e, Nat.sub_self]
        show x = p + 0
        omega
      · rw [e, Nat.sub_self, h3, e, hc]
        show _ = [] ++ [c] ++ _
        rw [List.nil_append, show cc - (p + 1) = cc - p - 1 from by omega]
        rfl
    · have hk2 : ¬ tw_ins c (a0 i, b0 i) := by
        rcases hk with g | g
        · omega
        · exact g
      refine Or.inl ⟨by omega, h2, ?_⟩
      rw [tw_ls_cons hi, tw_fl_out hk2, h3, show cc - (i + 1) = cc - i - 1 from by omega]
  · have hk2 : ¬ tw_ins c (a0 i, b0 i) := by
      rcases hk with g | g
      · omega
      · exact g
    refine Or.inr ⟨by omega, ?_, ?_⟩
    · rw [tw_ls_cons (show i < p from by omega), tw_fl_out hk2, List.length_cons, h2, show p - (i + 1) = p - i - 1 from by omega]
      omega
    · rw [tw_ls_cons (show i < p from by omega), tw_fl_out hk2, h3, show p - (i + 1) = p - i - 1 from by omega]
      rfl
theorem tw_iv_drop {c : Int32 × Int32} {p cc i x : Nat} {a0 b0 : Nat → Int32} {U : List (Int32 × Int32)} (hi : i < cc) (h : tw_iv c p cc a0 b0 (i + 1) x U) (hx : ¬ i = x) (hin : tw_ins c (a0 i, b0 i)) : tw_iv c p cc a0 b0 i (if x ≤ i then x else x - 1) U ∧ (x ≤ i ↔ p ≤ i) := by
  rcases h with ⟨h1, h2, h3⟩ | ⟨h1, h2, h3⟩
  · refine ⟨?_, by omega⟩
    rw [if_pos (by omega)]
    refine Or.inl ⟨by omega, h2, ?_⟩
    rw [tw_ls_cons hi, tw_fl_in hin, h3, show cc - (i + 1) = cc - i - 1 from by omega]
  · refine ⟨?_, by omega⟩
    rw [if_neg (by omega)]
    refine Or.inr ⟨by omega, ?_, ?_⟩
    · rw [tw_ls_cons (show i < p from by omega), tw_fl_in hin, h2, show p - (i + 1) = p - i - 1 from by omega]
      omega
    · rw [tw_ls_cons (show i < p from by omega), tw_fl_in hin, h3, show p - (i + 1) = p - i - 1 from by omega]
section
variable {n q oc dc cc : Nat} {xc xp : Int32} {oI oO dI dO cI cO sI sO : Nat → Int32}
theorem yv_dr164 {post : SY → Prop} {J4 : Int32 → Int32 → Int32 → Int32 → Int32 → Int32 → Int32 → Int32 → Int32 → (Nat → Int32) → (Nat → Int32) → (Nat → Int32) → (Nat → Int32) → (Nat → Int32) → (Nat → Int32) → (Nat → Int32) → (Nat → Int32) → Prop} {p c0 st : Nat} {c1 c2 : Int32} {a0 b0 : Nat → Int32} (hc0 : c0 ≤ 16) (hp : p < c0) (hcp : (a0 p, b0 p) = (c1, c2))
    (k : ∀ (L : Nat) (a b : Nat → Int32), tw_ls a b 0 L = tw_fl (c1, c2) (tw_ls a0 b0 0 p) ++ [(c1, c2)] ++ tw_fl (c1, c2) (tw_ls a0 b0 (p + 1) (c0 - p - 1)) → J4 (nI ((tw_fl (c1, c2) (tw_ls a0 b0 0 p)).length + 1)) (nI (st + 1)) (nI n) (nI q) xc (nI oc) (nI dc) (nI L) xp oI oO dI dO a b sI sO) :
    ∀ (i f x cc : Nat) (cI cO : Nat → Int32) (U : List (Int32 × Int32)), i < f → i ≤ c0 → cc ≤ 16 → x < 16 → tw_ls cI cO 0 cc = tw_ls a0 b0 0 i ++ U → tw_iv (c1, c2) p c0 a0 b0 i x U → wY_doExpand_164 post J4 (nI st) c1 c2 f (nI x) (nI i - 1) (nI n) (nI q) xc (nI oc) (nI dc) (nI cc) xp oI oO dI dO cI cO sI sO := by
  intro i
  induction i with
  | zero =>
    intro f x cc cI cO U h1 h2 h3 hx h4 h5
    obtain ⟨f, rfl⟩ : ∃ g, f = g + 1 := ⟨f - 1, by omega⟩
    refine br_t (by decide) (fun y ey z ez => ?_)
    rw [nI_1] at ey ez
    subst ey ez
    rcases h5 with ⟨g1, _, _⟩ | ⟨g1, g2, g3⟩
    · omega
    · rw [Nat.sub_zero] at g2 g3
      rw [g2, Nat.zero_add]
      refine k cc cI cO ?_
      rw [h4, g3]
      rfl
  | succ i ih =>
    intro f x cc cI cO U h1 h2 h3 hx h4 h5
    obtain ⟨f, rfl⟩ : ∃ g, f = g + 1 := ⟨f - 1, by omega⟩
    obtain ⟨s1, s2, s3, s4, s5⟩ := tw_ls_hd h4
    have nx : (i = x ∨ ¬ tw_ins (c1, c2) (a0 i, b0 i)) → ∀ y : Int32, y = nI i + (-1) → wY_doExpand_164 post J4 (nI st) c1 c2 f (nI x) y (nI n) (nI q) xc (nI oc) (nI dc) (nI cc) xp oI oO dI dO cI cO sI sO := by
      intro g y ey
      rw [tw_dec] at ey
      subst ey
      refine ih f x cc cI cO _ (by omega) (by omega) h3 hx ?_ (tw_iv_keep (by omega) hcp h5 g)
      rw [h4, tw_ls_snoc, Nat.zero_add, List.append_assoc]
      rfl
    rw [nI_pred]
    refine br_f (nI_pos (by omega)) (pk_eq i x (fun e => nx (Or.inl e)) (fun e => ?_))
    rw [nI_clamp (n := i) (by omega), s2, s3]
    refine ⟨vp_in_nI (by omega) (by decide), br_c (fun g1 => ⟨vp_in_nI (by omega) (by decide), br_c (fun g2 => ?_) (fun g2 => nx (Or.inr (fun z => g2 (tw_insz.mp z).2)))⟩) (fun g1 => nx (Or.inr (fun z => g1 (tw_insz.mp z).1)))⟩
    have hin : tw_ins (c1, c2) (a0 i, b0 i) := tw_insz.mpr ⟨g1, g2⟩
    obtain ⟨v1, v2⟩ := tw_iv_drop (by omega) h5 e hin
    refine yv_removeAt h3 s1 (fun a b hab => ?_)
    rw [s4, s5] at hab
    refine pk_le x i (fun g y ey => ?_) (fun g y ey z ez => ?_)
    · rw [tw_dec] at ey
      subst ey
      rw [if_pos g] at v1
      exact ih f x (cc - 1) a b U (by omega) (by omega) (by omega) hx hab v1
    · rw [tw_dec] at ez
      obtain ⟨w, rfl⟩ : ∃ w, x = w + 1 := ⟨x - 1, by omega⟩
      rw [pk_m1] at ey
      subst ey ez
      rw [if_neg (by omega), Nat.add_sub_cancel] at v1
      exact ih f w (cc - 1) a b U (by omega) (by omega) (by omega) (by omega) hab v1
theorem yv_90 {post : SY → Prop} {J4 : Int32 → Int32 → Int32 → Int32 → Int32 → Int32 → Int32 → Int32 → Int32 → (Nat → Int32) → (Nat → Int32) → (Nat → Int32) → (Nat → Int32) → (Nat → Int32) → (Nat → Int32) → (Nat → Int32) → (Nat → Int32) → Prop} {p st : Nat} {I O : Int32} (hn : n ≤ 8) (hq : q ≤ 4) (ho : oc ≤ 16) (hd : dc ≤ 16) (hc : cc ≤ 16) (hp : p < cc)
    (k : ∀ (L : Nat) (a b : Nat → Int32) (O' : Int32), O' = tw_ro n q (tw_ls oI oO 0 oc) (tw_ls dI dO 0 dc) I O q → tw_ls a b 0 L = tw_fl (I, O') (tw_ls (upd cI p I) (upd cO p O') 0 p) ++ [(I, O')] ++ tw_fl (I, O') (tw_ls (upd cI p I) (upd cO p O') (p + 1) (cc - p - 1)) → J4 (nI ((tw_fl (I, O') (tw_ls (upd cI p I) (upd cO p O') 0 p)).length + 1)) (nI (st + 1)) (nI n) (nI q) xc (nI oc) (nI dc) (nI L) xp oI oO dI dO a b sI sO) :
    ∀ (f i : Nat), q < f + i → i ≤ q → wY_doExpand_90 post J4 (nI p) (nI st) I (nI n) (nI q) xc (nI oc) (nI dc) (nI cc) xp oI oO dI dO cI cO sI sO f (tw_ro n q (tw_ls oI oO 0 oc) (tw_ls dI dO 0 dc) I O i) (nI i) := by
  intro f
  induction f with
  | zero => intro i h1 h2; omega
  | succ f ih =>
    intro i h1 h2
    refine pk_le q i (fun h => ?_) (fun h => br_c (fun z x ex => ?_) (fun z y ey => ?_))
    · have e : i = q := by omega
      subst e
      rw [nI_clamp (n := p) (by omega)]
      refine ⟨vp_in_nI (by omega) (by decide), fun a ea => ⟨vp_in_nI (by omega) (by decide), fun b eb y ey => ⟨cc + 1, ?_⟩⟩⟩
      subst ea eb ey
      refine yv_dr164 hc hp (by rw [pk_us, pk_us]) (fun L a b hab => k L a b _ rfl hab) cc (cc + 1) p cc _ _ [] (by omega) (by omega) hc (by omega) (by rw [List.append_nil]) (Or.inl ⟨hp, rfl, ?_⟩)
      rw [Nat.sub_self]
      rfl
    · subst ex
      refine yv_implicant hn hq ho hd (fun hi => br_f (by decide) (fun y ey => ?_)) (fun hi => br_t rfl (fun y ey => ?_))
      · subst ey
        rw [nI_1, ← tw_ro_t hi]
        exact ih (i + 1) (by omega) (by omega)
      · subst ey
        rw [nI_1, ← tw_ro_f hi]
        exact ih (i + 1) (by omega) (by omega)
    · subst ey
      have hb : bt (tw_ro n q (tw_ls oI oO 0 oc) (tw_ls dI dO 0 dc) I O i) i = true := Classical.byContradiction (fun g => z ((tw_bitz (by omega)).mpr g))
      rw [nI_1, ← tw_ro_same ((tw_raiseO (by omega)).mpr hb)]
      exact ih (i + 1) (by omega) (by omega)
theorem yv_36 {post : SY → Prop} {J4 : Int32 → Int32 → Int32 → Int32 → Int32 → Int32 → Int32 → Int32 → Int32 → (Nat → Int32) → (Nat → Int32) → (Nat → Int32) → (Nat → Int32) → (Nat → Int32) → (Nat → Int32) → (Nat → Int32) → (Nat → Int32) → Prop} {p st : Nat} {I O : Int32} (hn : n ≤ 8) (hq : q ≤ 4) (ho : oc ≤ 16) (hd : dc ≤ 16)
    (k : ∃ m, wY_doExpand_90 post J4 (nI p) (nI st) (tw_ri n q (tw_ls oI oO 0 oc) (tw_ls dI dO 0 dc) O I n) (nI n) (nI q) xc (nI oc) (nI dc) (nI cc) xp oI oO dI dO cI cO sI sO m O 0) :
    ∀ (f i : Nat), n < f + i → i ≤ n → wY_doExpand_36 post J4 (nI p) (nI st) O (nI n) (nI q) xc (nI oc) (nI dc) (nI cc) xp oI oO dI dO cI cO sI sO f (tw_ri n q (tw_ls oI oO 0 oc) (tw_ls dI dO 0 dc) O I i) (nI i) := by
  intro f
  induction f with
  | zero => intro i h1 h2; omega
  | succ f ih =>
    intro i h1 h2
    refine pk_le n i (fun h => ?_) (fun h => ?_)
    · have e : i = n := by omega
      subst e
      exact k
    · rw [tw_2x]
      refine br_c (fun z y ey => ?_) (fun z x ex => ?_)
      · subst ey
        rw [nI_1, ← tw_ri_same ((tw_raise (by omega)).mpr ((tw_fd3 _ _ (by omega)).mp z))]
        exact ih (i + 1) (by omega) (by omega)
      · subst ex
        refine yv_implicant hn hq ho hd (fun hi => br_f (by decide) (fun y ey => ?_)) (fun hi => br_t rfl (fun y ey => ?_))
        · subst ey
          rw [nI_1, ← tw_ri_t hi]
          exact ih (i + 1) (by omega) (by omega)
        · subst ey
          rw [nI_1, ← tw_ri_f hi]
          exact ih (i + 1) (by omega) (by omega)
theorem yv_ex4 {post : SY → Prop} (hn : n ≤ 8) (hq : q ≤ 4) (ho : oc ≤ 16) (hd : dc ≤ 16) :
    ∀ (g st p cc : Nat) (cI cO : Nat → Int32), st + g ≤ 64 → p ≤ cc → cc ≤ 16 → cc - p ≤ g → tw_val q (tw_ls cI cO 0 cc) →
    (∀ (L : Nat) (a b : Nat → Int32), L ≤ 16 → tw_ls a b 0 L = tw_ex n q (tw_ls oI oO 0 oc) (tw_ls dI dO 0 dc) g (tw_ls cI cO 0 p) (tw_ls cI cO p (cc - p)) → post (nI n, nI q, xc, nI oc, nI dc, nI L, xp, oI, oO, dI, dO, a, b, sI, sO)) →
    wY_doExpand_4 post (g + 1) (nI p) (nI st) (nI n) (nI q) xc (nI oc) (nI dc) (nI cc) xp oI oO dI dO cI cO sI sO := by
  intro g
  induction g with
  | zero =>
    intro st p cc cI cO h1 h2 h3 h4 hv k
    have kk : post (nI n, nI q, xc, nI oc, nI dc, nI cc, xp, oI, oO, dI, dO, cI, cO, sI, sO) := by
      refine k cc cI cO h3 ?_
      rw [tw_ls_nil (by omega), tw_ex_nil, show cc = p from by omega]
    exact pk_le 64 st (fun _ => kk) (fun _ => pk_le cc p (fun _ => kk) (fun h => absurd h (by omega)))
  | succ g ih =>
    intro st p cc cI cO h1 h2 h3 h4 hv k
    refine pk_le 64 st (fun h => absurd h (by omega)) (fun _ => pk_le cc p (fun h => k cc cI cO h3 ?_) (fun h => ?_))
    · rw [tw_ls_nil h, tw_ex_nil, show cc = p from by omega]
    · rw [nI_clamp (n := p) (by omega)]
      refine ⟨vp_in_nI (by omega) (by decide), fun x ex => ⟨vp_in_nI (by omega) (by decide), fun y ey => ⟨n + 1, ?_⟩⟩⟩
      subst ex ey
      refine yv_36 hn hq ho hd ⟨q + 1, yv_90 hn hq ho hd h3 h (fun L a2 b2 O' hO' hL => ?_) (q + 1) 0 (by omega) (by omega)⟩ (n + 1) 0 (by omega) (by omega)
      have hL2 : tw_ls a2 b2 0 L = tw_fl ((upd cI p (tw_ri n q (tw_ls oI oO 0 oc) (tw_ls dI dO 0 dc) (cO p) (cI p) n)) p, (upd cO p O') p) (tw_ls (upd cI p (tw_ri n q (tw_ls oI oO 0 oc) (tw_ls dI dO 0 dc) (cO p) (cI p) n)) (upd cO p O') 0 p) ++ [((upd cI p (tw_ri n q (tw_ls oI oO 0 oc) (tw_ls dI dO 0 dc) (cO p) (cI p) n)) p, (upd cO p O') p)] ++ tw_fl ((upd cI p (tw_ri n q (tw_ls oI oO 0 oc) (tw_ls dI dO 0 dc) (cO p) (cI p) n)) p, (upd cO p O') p) (tw_ls (upd cI p (tw_ri n q (tw_ls oI oO 0 oc) (tw_ls dI dO 0 dc) (cO p) (cI p) n)) (upd cO p O') (p + 1) (cc - p - 1)) := by
        rw [pk_us, pk_us]; exact hL
      obtain ⟨s1, s2, s3, s4, s5⟩ := tw_ex_step (n := n) (P := tw_ls oI oO 0 oc) (D := tw_ls dI dO 0 dc) (g := g) (a1 := upd cI p (tw_ri n q (tw_ls oI oO 0 oc) (tw_ls dI dO 0 dc) (cO p) (cI p) n)) (b1 := upd cO p O') hq h hv pk_us (fun j hj => pk_un hj) (by rw [pk_us, pk_us]; exact hO') (fun j hj => pk_un hj) hL2
      rw [pk_us, pk_us] at s1 s3 s5
      exact ih (st + 1) _ L a2 b2 (by omega) s1 (by omega) (by omega) s4 (fun L2 a3 b3 g1 g2 => k L2 a3 b3 g1 (by rw [g2, s5]))
theorem yv_doExpand {post : SY → Prop} (hn : n ≤ 8) (hq : q ≤ 4) (ho : oc ≤ 16) (hd : dc ≤ 16) (hc : cc ≤ 16) (hv : tw_val q (tw_ls cI cO 0 cc))
    (k : ∀ (L : Nat) (a b : Nat → Int32), L ≤ 16 → tw_ls a b 0 L = tw_ex n q (tw_ls oI oO 0 oc) (tw_ls dI dO 0 dc) 16 [] (tw_ls cI cO 0 cc) → post (nI n, nI q, xc, nI oc, nI dc, nI L, xp, oI, oO, dI, dO, a, b, sI, sO)) : wpY_doExpand post (nI n, nI q, xc, nI oc, nI dc, nI cc, xp, oI, oO, dI, dO, cI, cO, sI, sO) :=
  ⟨17, yv_ex4 hn hq ho hd 16 0 0 cc cI cO (by omega) (by omega) hc (by omega) hv k⟩
theorem yv_hp17 {post : Int32 → Prop} {J9 : Int32 → Prop} {x2 : Int32} {m p : Nat} (hn : n ≤ 8) (hq : q ≤ 4) (hm : m < 2 ^ 30) (ho : oc ≤ 16) (hd : dc ≤ 16) (hc : cc ≤ 16) (hp : p < cc)
    (kJ : (∀ o, o < q → ¬ tw_own n (tw_ls oI oO 0 oc) (tw_ls dI dO 0 dc) (cI p, cO p) (tw_ls cI cO 0 p ++ tw_ls cI cO (p + 1) (cc - p - 1)) m o) → J9 (nI (m + 1)))
    (k1 : (∃ o, o < q ∧ tw_own n (tw_ls oI oO 0 oc) (tw_ls dI dO 0 dc) (cI p, cO p) (tw_ls cI cO 0 p ++ tw_ls cI cO (p + 1) (cc - p - 1)) m o) → post 1) :
    ∀ (f i : Nat), q < f + i → i ≤ q → (∀ o, o < i → ¬ tw_own n (tw_ls oI oO 0 oc) (tw_ls dI dO 0 dc) (cI p, cO p) (tw_ls cI cO 0 p ++ tw_ls cI cO (p + 1) (cc - p - 1)) m o) → wY_hasPrivate_17 post J9 (nI p) x2 (nI m) (nI n) (nI q) xc (nI oc) (nI dc) (nI cc) xp oI oO dI dO cI cO sI sO f (nI i) := by
  intro f
  induction f with
  | zero => intro i h1 h2; omega
  | succ f ih =>
    intro i h1 h2 h3
    refine pk_le q i (fun h y ey => ?_) (fun h => ⟨vp_in_nI (by omega) (by decide), vp_in_nI (by omega) (by decide), ?_⟩)
    · subst ey
      rw [nI_1]
      exact kJ (fun o ho => h3 o (by omega))
    · rw [nI_clamp (n := p) (by omega)]
      have nx : ¬ tw_own n (tw_ls oI oO 0 oc) (tw_ls dI dO 0 dc) (cI p, cO p) (tw_ls cI cO 0 p ++ tw_ls cI cO (p + 1) (cc - p - 1)) m i → ∀ y : Int32, y = nI i + 1 → wY_hasPrivate_17 post J9 (nI p) x2 (nI m) (nI n) (nI q) xc (nI oc) (nI dc) (nI cc) xp oI oO dI dO cI cO sI sO f y := by
        intro g y ey
        subst ey
        rw [nI_1]
        refine ih (i + 1) (by omega) (by omega) (fun o ho => ?_)
        by_cases e : o = i
        · subst e; exact g
        · exact h3 o (by omega)
      exact yv_chk hn (by omega) (by omega) ho hd hc hp (fun g => k1 ⟨i, h, g⟩) (fun g => ⟨nx g, nx g, nx g⟩)
theorem yv_hp9 {post : Int32 → Prop} {p : Nat} (hn : n ≤ 8) (hq : q ≤ 4) (ho : oc ≤ 16) (hd : dc ≤ 16) (hc : cc ≤ 16) (hp : p < cc)
    (k1 : tw_has n q (tw_ls oI oO 0 oc) (tw_ls dI dO 0 dc) (cI p, cO p) (tw_ls cI cO 0 p ++ tw_ls cI cO (p + 1) (cc - p - 1)) → post 1)
    (k0 : ¬ tw_has n q (tw_ls oI oO 0 oc) (tw_ls dI dO 0 dc) (cI p, cO p) (tw_ls cI cO 0 p ++ tw_ls cI cO (p + 1) (cc - p - 1)) → post 0) :
    ∀ (f i : Nat), 2 ^ n < f + i → i ≤ 2 ^ n → (∀ m, m < i → ∀ o, o < q → ¬ tw_own n (tw_ls oI oO 0 oc) (tw_ls dI dO 0 dc) (cI p, cO p) (tw_ls cI cO 0 p ++ tw_ls cI cO (p + 1) (cc - p - 1)) m o) → wY_hasPrivate_9 post (nI p) (nI (2 ^ n)) (nI n) (nI q) xc (nI oc) (nI dc) (nI cc) xp oI oO dI dO cI cO sI sO f (nI i) := by
  have hpw := tw_pow8 hn
  intro f
  induction f with
  | zero => intro i h1 h2; omega
  | succ f ih =>
    intro i h1 h2 h3
    refine pk_le (2 ^ n) i (fun h => k0 ?_) (fun h => ⟨q + 1, yv_hp17 hn hq (by omega) ho hd hc hp (fun g => ?_) (fun ⟨o, ho2, g⟩ => k1 ⟨i, h, o, ho2, g⟩) (q + 1) 0 (by omega) (by omega) (fun o ho2 => absurd ho2 (by omega))⟩)
    · rintro ⟨m, hm, o, ho2, g⟩
      exact h3 m (by omega) o ho2 g
    · refine ih (i + 1) (by omega) (by omega) (fun m hm => ?_)
      by_cases e : m = i
      · subst e; exact g
      · exact h3 m (by omega)
theorem yv_has {post : Int32 → Prop} {p : Nat} (hn : n ≤ 8) (hq : q ≤ 4) (ho : oc ≤ 16) (hd : dc ≤ 16) (hc : cc ≤ 16) (hp : p < cc)
    (k1 : tw_has n q (tw_ls oI oO 0 oc) (tw_ls dI dO 0 dc) (cI p, cO p) (tw_ls cI cO 0 p ++ tw_ls cI cO (p + 1) (cc - p - 1)) → post 1)
    (k0 : ¬ tw_has n q (tw_ls oI oO 0 oc) (tw_ls dI dO 0 dc) (cI p, cO p) (tw_ls cI cO 0 p ++ tw_ls cI cO (p + 1) (cc - p - 1)) → post 0) : wpY_hasPrivate post (nI n, nI q, xc, nI oc, nI dc, nI cc, xp, oI, oO, dI, dO, cI, cO, sI, sO) (nI p) := by
  intro y ey
  rw [tw_p2 n (by omega)] at ey
  subst ey
  exact ⟨2 ^ n + 1, yv_hp9 hn hq ho hd hc hp k1 k0 (2 ^ n + 1) 0 (by omega) (Nat.zero_le _) (fun m hm => absurd hm (by omega))⟩
theorem yv_ir4 {post : SY → Prop} (hn : n ≤ 8) (hq : q ≤ 4) (ho : oc ≤ 16) (hd : dc ≤ 16) :
    ∀ (g st p cc : Nat) (cI cO : Nat → Int32), st + g ≤ 64 → p ≤ cc → cc ≤ 16 → cc - p = g → tw_val q (tw_ls cI cO 0 cc) →
    (∀ (L : Nat) (a b : Nat → Int32), L ≤ 16 → tw_ls a b 0 L = tw_ir n q (tw_ls oI oO 0 oc) (tw_ls dI dO 0 dc) (tw_ls cI cO 0 p) (tw_ls cI cO p (cc - p)) → post (nI n, nI q, xc, nI oc, nI dc, nI L, xp, oI, oO, dI, dO, a, b, sI, sO)) →
    wY_doIrredundant_4 post (g + 1) (nI p) (nI st) (nI n) (nI q) xc (nI oc) (nI dc) (nI cc) xp oI oO dI dO cI cO sI sO := by
  intro g
  induction g with
  | zero =>
    intro st p cc cI cO h1 h2 h3 h4 hv k
    have kk : post (nI n, nI q, xc, nI oc, nI dc, nI cc, xp, oI, oO, dI, dO, cI, cO, sI, sO) := by
      refine k cc cI cO h3 ?_
      rw [tw_ls_nil (by omega), show cc = p from by omega]
      simp only [tw_ir]
    exact pk_le 64 st (fun _ => kk) (fun _ => pk_le cc p (fun _ => kk) (fun h => absurd h (by omega)))
  | succ g ih =>
    intro st p cc cI cO h1 h2 h3 h4 hv k
    refine pk_le 64 st (fun h => absurd h (by omega)) (fun _ => pk_le cc p (fun h => absurd h (by omega)) (fun h => ?_))
    rw [tw_ls_cons h] at k
    simp only [tw_ir] at k
    refine yv_has hn hq ho hd h3 h (fun hh => br_f (by decide) (fun y ey z ez => ?_)) (fun hh => br_t rfl (yv_removeAt h3 h (fun a b hab z ez => ?_)))
    · rw [nI_1] at ey ez
      subst ey ez
      rw [tw_if_t hh] at k
      refine ih (st + 1) (p + 1) cc cI cO (by omega) (by omega) h3 (by omega) hv ?_
      rw [tw_ls_snoc, Nat.zero_add, show cc - (p + 1) = cc - p - 1 from by omega]
      exact k
    · rw [nI_1] at ez
      subst ez
      rw [tw_if_f hh] at k
      obtain ⟨s1, s2, s3⟩ := tw_val_rm h hv hab
      refine ih (st + 1) p (cc - 1) a b (by omega) (by omega) (by omega) (by omega) s1 ?_
      rw [s2, s3]
      exact k
theorem yv_doIrredundant {post : SY → Prop} (hn : n ≤ 8) (hq : q ≤ 4) (ho : oc ≤ 16) (hd : dc ≤ 16) (hc : cc ≤ 16) (hv : tw_val q (tw_ls cI cO 0 cc))
    (k : ∀ (L : Nat) (a b : Nat → Int32), L ≤ 16 → tw_ls a b 0 L = tw_ir n q (tw_ls oI oO 0 oc) (tw_ls dI dO 0 dc) [] (tw_ls cI cO 0 cc) → post (nI n, nI q, xc, nI oc, nI dc, nI L, xp, oI, oO, dI, dO, a, b, sI, sO)) : wpY_doIrredundant post (nI n, nI q, xc, nI oc, nI dc, nI cc, xp, oI, oO, dI, dO, cI, cO, sI, sO) :=
  ⟨cc + 1, yv_ir4 hn hq ho hd cc 0 0 cc cI cO (by omega) (by omega) hc (by omega) hv k⟩
end
