/-! the component: the passes and the public methods -/
theorem tw_ls_split {a b : Nat → Int32} {L : Nat} {U V : List (Int32 × Int32)} (h : tw_ls a b 0 L = U ++ V) : L = U.length + V.length ∧ tw_ls a b 0 U.length = U ∧ tw_ls a b U.length (L - U.length) = V := by
  have hl : L = U.length + V.length := by
    have h2 := congrArg List.length h
    rw [tw_ls_len, List.length_append] at h2
    exact h2
  refine ⟨hl, ?_⟩
  have h3 : L = U.length + (L - U.length) := by omega
  rw [h3, tw_ls_app, Nat.zero_add] at h
  have h4 := List.append_inj h (tw_ls_len a b _ _)
  exact h4
theorem tw_ls_cons {a b : Nat → Int32} {p c : Nat} (h : p < c) : tw_ls a b p (c - p) = (a p, b p) :: tw_ls a b (p + 1) (c - p - 1) := by
  obtain ⟨r, rfl⟩ : ∃ r, c = p + (r + 1) := ⟨c - p - 1, by omega⟩
  rw [show p + (r + 1) - p = r + 1 from by omega]
  rfl
theorem tw_ls_two {a b : Nat → Int32} {p c : Nat} (h : p ≤ c) : tw_ls a b 0 c = tw_ls a b 0 p ++ tw_ls a b p (c - p) := by
  obtain ⟨r, rfl⟩ : ∃ r, c = p + r := ⟨c - p, by omega⟩
  rw [tw_ls_app, Nat.zero_add, show p + r - p = r from by omega]
theorem tw_ls_nil {a b : Nat → Int32} {p c : Nat} (h : c ≤ p) : tw_ls a b p (c - p) = [] := by
  rw [show c - p = 0 from by omega]
  rfl
theorem tw_ex_nil {n q : Nat} {P D A : List (Int32 × Int32)} : ∀ g, tw_ex n q P D g A [] = A := by
  intro g
  cases g with
  | zero => simp only [tw_ex, List.append_nil]
  | succ g => simp only [tw_ex]
theorem tw_val_at {q p c : Nat} {a b : Nat → Int32} (h : tw_val q (tw_ls a b 0 c)) (hp : p < c) : ∀ o, bt (b p) o = true → o < q := h (a p, b p) ((tw_ls_mem a b c 0).mpr ⟨p, by omega, by omega, rfl⟩)
/-- one step of expand, as lists: what is cut off the arrays after the drop -/
theorem tw_ex_step {n q g p c L : Nat} {P D : List (Int32 × Int32)} {a b a1 b1 a2 b2 : Nat → Int32} (hq : q ≤ 4) (hp : p < c) (hv : tw_val q (tw_ls a b 0 c))
    (ha : a1 p = tw_ri n q P D (b p) (a p) n) (ha' : ∀ j, ¬ j = p → a1 j = a j) (hb : b1 p = tw_ro n q P D (a1 p) (b p) q) (hb' : ∀ j, ¬ j = p → b1 j = b j)
    (hL : tw_ls a2 b2 0 L = tw_fl (a1 p, b1 p) (tw_ls a1 b1 0 p) ++ [(a1 p, b1 p)] ++ tw_fl (a1 p, b1 p) (tw_ls a1 b1 (p + 1) (c - p - 1))) :
    (tw_fl (a1 p, b1 p) (tw_ls a1 b1 0 p)).length + 1 ≤ L ∧ L ≤ c ∧ L - ((tw_fl (a1 p, b1 p) (tw_ls a1 b1 0 p)).length + 1) ≤ c - p - 1 ∧ tw_val q (tw_ls a2 b2 0 L) ∧
    tw_ex n q P D g (tw_ls a2 b2 0 ((tw_fl (a1 p, b1 p) (tw_ls a1 b1 0 p)).length + 1)) (tw_ls a2 b2 ((tw_fl (a1 p, b1 p) (tw_ls a1 b1 0 p)).length + 1) (L - ((tw_fl (a1 p, b1 p) (tw_ls a1 b1 0 p)).length + 1))) = tw_ex n q P D (g + 1) (tw_ls a b 0 p) (tw_ls a b p (c - p)) := by
  have e1 : tw_ls a1 b1 0 p = tw_ls a b 0 p := tw_ls_eq (fun j _ hj => ⟨ha' j (by omega), hb' j (by omega)⟩)
  have e2 : tw_ls a1 b1 (p + 1) (c - p - 1) = tw_ls a b (p + 1) (c - p - 1) := tw_ls_eq (fun j hj _ => ⟨ha' j (by omega), hb' j (by omega)⟩)
  have e3 : (a1 p, b1 p) = tw_rz n q P D (a p, b p) := by
    unfold tw_rz
    rw [hb, ha]
  rw [e1, e2] at hL
  rw [e1]
  rw [e3] at hL ⊢
  generalize hc' : tw_rz n q P D (a p, b p) = c' at hL ⊢
  obtain ⟨s1, s2, s3⟩ := tw_ls_split hL
  rw [List.length_append, List.length_singleton] at s1 s2 s3
  have l1 := tw_fl_len c' (tw_ls a b 0 p)
  have l2 := tw_fl_len c' (tw_ls a b (p + 1) (c - p - 1))
  rw [tw_ls_len] at l1 l2
  refine ⟨by omega, by omega, by omega, ?_, ?_⟩
  · rw [hL]
    rw [tw_ls_cut a b hp] at hv
    refine tw_val_app (tw_val_app (tw_val_fl (tw_val_l hv)) (tw_val_1 ?_)) (tw_val_fl (tw_val_c (tw_val_r hv)).2)
    rw [← hc']
    exact tw_rz_ok hq (tw_val_c (tw_val_r hv)).1
  · rw [s2, s3, tw_ls_cons hp]
    simp only [tw_ex]
    rw [hc']
section
variable {n q oc dc cc : Nat} {xc xp xs : Int32} {oI oO dI dO cI cO sI sO : Nat → Int32}
theorem xv_ex13 {post : Int32 → SX → Prop} (hn : n ≤ 8) (hq : q ≤ 4) (ho : oc ≤ 16) (hd : dc ≤ 16) :
    ∀ (g st p cc : Nat) (cI cO : Nat → Int32), st + g ≤ 16 → p ≤ cc → cc ≤ 16 → cc - p ≤ g → tw_val q (tw_ls cI cO 0 cc) →
    (∀ (L : Nat) (a b : Nat → Int32), L ≤ 16 → tw_ls a b 0 L = tw_ex n q (tw_ls oI oO 0 oc) (tw_ls dI dO 0 dc) g (tw_ls cI cO 0 p) (tw_ls cI cO p (cc - p)) → post (nI L) (nI n, nI q, xc, xp, nI oc, nI dc, nI L, xs, oI, oO, dI, dO, a, b, sI, sO)) →
    wX_expand_13 post (g + 1) (nI p) (nI st) (nI n) (nI q) xc xp (nI oc) (nI dc) (nI cc) xs oI oO dI dO cI cO sI sO := by
  intro g
  induction g with
  | zero =>
    intro st p cc cI cO h1 h2 h3 h4 hv k
    have kk : post (nI cc) (nI n, nI q, xc, xp, nI oc, nI dc, nI cc, xs, oI, oO, dI, dO, cI, cO, sI, sO) := by
      refine k cc cI cO h3 ?_
      rw [tw_ls_nil (by omega), tw_ex_nil, show cc = p from by omega]
    exact pk_le 16 st (fun _ => kk) (fun _ => pk_le cc p (fun _ => kk) (fun h => absurd h (by omega)))
  | succ g ih =>
    intro st p cc cI cO h1 h2 h3 h4 hv k
    refine pk_le 16 st (fun h => absurd h (by omega)) (fun _ => pk_le cc p (fun h => k cc cI cO h3 ?_) (fun h => ?_))
    · rw [tw_ls_nil h, tw_ex_nil, show cc = p from by omega]
    · have hO := tw_val_at hv h
      refine xv_raiseInputs hn hq ho hd (by omega) hO (fun a ha ha' => ?_)
      refine xv_raiseOutputs hn hq ho hd (by omega) hO (fun b hb hb' => ?_)
      refine xv_drop h3 h (fun L a2 b2 hL y ey z ez => ?_)
      obtain ⟨s1, s2, s3, s4, s5⟩ := tw_ex_step (g := g) hq h hv ha ha' hb hb' hL
      rw [nI_1] at ey ez
      subst ey ez
      exact ih (st + 1) _ L a2 b2 (by omega) s1 (by omega) (by omega) s4 (fun L2 a3 b3 g1 g2 => k L2 a3 b3 g1 (by rw [g2, s5]))
theorem xv_expand {post : Int32 → SX → Prop} (hn : n ≤ 8) (hq : q ≤ 4) (ho : oc ≤ 16) (hd : dc ≤ 16) (hc : cc ≤ 16) (hv : tw_val q (tw_ls cI cO 0 cc)) (k0 : xp = 0 → post (-1) (nI n, nI q, xc, xp, nI oc, nI dc, nI cc, xs, oI, oO, dI, dO, cI, cO, sI, sO))
    (k : ¬ xp = 0 → ∀ (L : Nat) (a b : Nat → Int32), L ≤ 16 → tw_ls a b 0 L = tw_ex n q (tw_ls oI oO 0 oc) (tw_ls dI dO 0 dc) 16 [] (tw_ls cI cO 0 cc) → post (nI L) (nI n, nI q, xc, xp, nI oc, nI dc, nI L, xs, oI, oO, dI, dO, a, b, sI, sO)) : wpX_expand post (nI n, nI q, xc, xp, nI oc, nI dc, nI cc, xs, oI, oO, dI, dO, cI, cO, sI, sO) :=
  br_c k0 (fun h => ⟨17, xv_ex13 hn hq ho hd 16 0 0 cc cI cO (by omega) (by omega) hc (by omega) hv (k h)⟩)
theorem tw_val_rm {q p c : Nat} {a b a' b' : Nat → Int32} (hp : p < c) (hv : tw_val q (tw_ls a b 0 c)) (h : tw_ls a' b' 0 (c - 1) = tw_ls a b 0 p ++ tw_ls a b (p + 1) (c - p - 1)) : tw_val q (tw_ls a' b' 0 (c - 1)) ∧ tw_ls a' b' 0 p = tw_ls a b 0 p ∧ tw_ls a' b' p (c - 1 - p) = tw_ls a b (p + 1) (c - p - 1) := by
  have hs := tw_ls_split h
  rw [tw_ls_len] at hs
  rw [tw_ls_cut a b hp] at hv
  exact ⟨by rw [h]; exact tw_val_app (tw_val_l hv) (tw_val_c (tw_val_r hv)).2, hs.2.1, hs.2.2⟩
theorem xv_ir13 {post : Int32 → SX → Prop} (hn : n ≤ 8) (hq : q ≤ 4) (ho : oc ≤ 16) (hd : dc ≤ 16) :
    ∀ (g st p cc : Nat) (cI cO : Nat → Int32), st + g ≤ 16 → p ≤ cc → cc ≤ 16 → cc - p = g → tw_val q (tw_ls cI cO 0 cc) →
    (∀ (L : Nat) (a b : Nat → Int32), L ≤ 16 → tw_ls a b 0 L = tw_ir n q (tw_ls oI oO 0 oc) (tw_ls dI dO 0 dc) (tw_ls cI cO 0 p) (tw_ls cI cO p (cc - p)) → post (nI L) (nI n, nI q, xc, xp, nI oc, nI dc, nI L, xs, oI, oO, dI, dO, a, b, sI, sO)) →
    wX_irredundant_13 post (g + 1) (nI p) (nI st) (nI n) (nI q) xc xp (nI oc) (nI dc) (nI cc) xs oI oO dI dO cI cO sI sO := by
  intro g
  induction g with
  | zero =>
    intro st p cc cI cO h1 h2 h3 h4 hv k
    have kk : post (nI cc) (nI n, nI q, xc, xp, nI oc, nI dc, nI cc, xs, oI, oO, dI, dO, cI, cO, sI, sO) := by
      refine k cc cI cO h3 ?_
      rw [tw_ls_nil (by omega), show cc = p from by omega]
      simp only [tw_ir]
    exact pk_le 16 st (fun _ => kk) (fun _ => pk_le cc p (fun _ => kk) (fun h => absurd h (by omega)))
  | succ g ih =>
    intro st p cc cI cO h1 h2 h3 h4 hv k
    refine pk_le 16 st (fun h => absurd h (by omega)) (fun _ => pk_le cc p (fun h => absurd h (by omega)) (fun h => ?_))
    have hO := tw_val_at hv h
    rw [tw_ls_cons h] at k
    simp only [tw_ir] at k
    refine xv_has hn hq ho hd h3 h hO (fun hh => br_f (by decide) (fun y ey z ez => ?_)) (fun hh => br_t rfl (xv_removeAt h3 h (fun a b hab z ez => ?_)))
    · rw [nI_1] at ey ez
      subst ey ez
      rw [tw_if_t hh] at k
      refine ih (st + 1) (p + 1) cc cI cO (by omega) (by omega) h3 (by omega) hv ?_
      rw [tw_ls_snoc, Nat.zero_add, show cc - (p + 1) = cc - p - 1 from by omega]
      exact k
    · rw [nI_1] at ez
      subst ez
      rw [tw_if_f hh] at k
      obtain ⟨s1, s2, s3⟩ := tw_val_rm h hv hab
      refine ih (st + 1) p (cc - 1) a b (by omega) (by omega) (by omega) (by omega) s1 ?_
      rw [s2, s3]
      exact k
theorem xv_irredundant {post : Int32 → SX → Prop} (hn : n ≤ 8) (hq : q ≤ 4) (ho : oc ≤ 16) (hd : dc ≤ 16) (hc : cc ≤ 16) (hv : tw_val q (tw_ls cI cO 0 cc)) (k0 : xp = 0 → post (-1) (nI n, nI q, xc, xp, nI oc, nI dc, nI cc, xs, oI, oO, dI, dO, cI, cO, sI, sO))
    (k : ¬ xp = 0 → ∀ (L : Nat) (a b : Nat → Int32), L ≤ 16 → tw_ls a b 0 L = tw_ir n q (tw_ls oI oO 0 oc) (tw_ls dI dO 0 dc) [] (tw_ls cI cO 0 cc) → post (nI L) (nI n, nI q, xc, xp, nI oc, nI dc, nI L, xs, oI, oO, dI, dO, a, b, sI, sO)) : wpX_irredundant post (nI n, nI q, xc, xp, nI oc, nI dc, nI cc, xs, oI, oO, dI, dO, cI, cO, sI, sO) :=
  br_c k0 (fun h => ⟨cc + 1, xv_ir13 hn hq ho hd cc 0 0 cc cI cO (by omega) (by omega) hc (by omega) hv (k h)⟩)
theorem tw_val_set {q p c : Nat} {a b : Nat → Int32} {I O : Int32} (hp : p < c) (hv : tw_val q (tw_ls a b 0 c)) (hO : ∀ o, bt O o = true → o < q) : tw_val q (tw_ls (upd a p I) (upd b p O) 0 c) ∧ tw_ls (upd a p I) (upd b p O) 0 (p + 1) = tw_ls a b 0 p ++ [(I, O)] ∧ tw_ls (upd a p I) (upd b p O) (p + 1) (c - (p + 1)) = tw_ls a b (p + 1) (c - p - 1) := by
  rw [tw_ls_cut a b hp] at hv
  refine ⟨?_, tw_ls_put a b p I O, ?_⟩
  · rw [tw_ls_set a b I O hp]
    intro d hd
    rcases List.mem_append.mp hd with h | h
    · exact tw_val_l hv d h
    · rcases List.mem_cons.mp h with e | h2
      · rw [e]; exact hO
      · exact (tw_val_c (tw_val_r hv)).2 d h2
  · rw [show c - (p + 1) = c - p - 1 from by omega]
    exact tw_ls_eq (fun j hj _ => ⟨pk_un (by omega), pk_un (by omega)⟩)
theorem xv_rd13 {post : Int32 → SX → Prop} (hn : n ≤ 8) (hq : q ≤ 4) (ho : oc ≤ 16) (hd : dc ≤ 16) :
    ∀ (g st p cc : Nat) (cI cO : Nat → Int32), st + g ≤ 16 → p ≤ cc → cc ≤ 16 → cc - p = g → tw_val q (tw_ls cI cO 0 cc) →
    (∀ (L : Nat) (a b : Nat → Int32), L ≤ 16 → tw_ls a b 0 L = tw_rd n q (tw_ls oI oO 0 oc) (tw_ls dI dO 0 dc) (tw_ls cI cO 0 p) (tw_ls cI cO p (cc - p)) → post (nI L) (nI n, nI q, xc, xp, nI oc, nI dc, nI L, xs, oI, oO, dI, dO, a, b, sI, sO)) →
    wX_reduce_13 post (g + 1) (nI p) (nI st) (nI n) (nI q) xc xp (nI oc) (nI dc) (nI cc) xs oI oO dI dO cI cO sI sO := by
  intro g
  induction g with
  | zero =>
    intro st p cc cI cO h1 h2 h3 h4 hv k
    have kk : post (nI cc) (nI n, nI q, xc, xp, nI oc, nI dc, nI cc, xs, oI, oO, dI, dO, cI, cO, sI, sO) := by
      refine k cc cI cO h3 ?_
      rw [tw_ls_nil (by omega), show cc = p from by omega]
      simp only [tw_rd]
    exact pk_le 16 st (fun _ => kk) (fun _ => pk_le cc p (fun _ => kk) (fun h => absurd h (by omega)))
  | succ g ih =>
    intro st p cc cI cO h1 h2 h3 h4 hv k
    refine pk_le 16 st (fun h => absurd h (by omega)) (fun _ => pk_le cc p (fun h => absurd h (by omega)) (fun h => ?_))
    have hO := tw_val_at hv h
    rw [tw_ls_cons h] at k
    simp only [tw_rd] at k
    refine xv_shrink hn hq ho hd h3 h hO (fun hh I O hIO => br_f (by decide) (fun y ey z ez => ?_)) (fun hh => br_t rfl (xv_removeAt h3 h (fun a b hab z ez => ?_)))
    · rw [nI_1] at ey ez
      subst ey ez
      rw [tw_if_t hh, ← hIO] at k
      have hOk : ∀ o, bt O o = true → o < q := by
        have h5 : O = (tw_rc n q (tw_ls oI oO 0 oc) (tw_ls dI dO 0 dc) (cI p, cO p) (tw_ls cI cO 0 p ++ tw_ls cI cO (p + 1) (cc - p - 1))).2 := congrArg Prod.snd hIO
        rw [h5]
        exact tw_rc_ok
      obtain ⟨s1, s2, s3⟩ := tw_val_set (I := I) (O := O) h hv hOk
      refine ih (st + 1) (p + 1) cc _ _ (by omega) (by omega) h3 (by omega) s1 ?_
      rw [s2, s3]
      exact k
    · rw [nI_1] at ez
      subst ez
      rw [tw_if_f hh] at k
      obtain ⟨s1, s2, s3⟩ := tw_val_rm h hv hab
      refine ih (st + 1) p (cc - 1) a b (by omega) (by omega) (by omega) (by omega) s1 ?_
      rw [s2, s3]
      exact k
theorem xv_reduce {post : Int32 → SX → Prop} (hn : n ≤ 8) (hq : q ≤ 4) (ho : oc ≤ 16) (hd : dc ≤ 16) (hc : cc ≤ 16) (hv : tw_val q (tw_ls cI cO 0 cc)) (k0 : xp = 0 → post (-1) (nI n, nI q, xc, xp, nI oc, nI dc, nI cc, xs, oI, oO, dI, dO, cI, cO, sI, sO))
    (k : ¬ xp = 0 → ∀ (L : Nat) (a b : Nat → Int32), L ≤ 16 → tw_ls a b 0 L = tw_rd n q (tw_ls oI oO 0 oc) (tw_ls dI dO 0 dc) [] (tw_ls cI cO 0 cc) → post (nI L) (nI n, nI q, xc, xp, nI oc, nI dc, nI L, xs, oI, oO, dI, dO, a, b, sI, sO)) : wpX_reduce post (nI n, nI q, xc, xp, nI oc, nI dc, nI cc, xs, oI, oO, dI, dO, cI, cO, sI, sO) :=
  br_c k0 (fun h => ⟨cc + 1, xv_rd13 hn hq ho hd cc 0 0 cc cI cO (by omega) (by omega) hc (by omega) hv (k h)⟩)
theorem xv_saveCover {post : SX → Prop} (hc : cc ≤ 16) (k : ∀ a b : Nat → Int32, tw_ls a b 0 cc = tw_ls cI cO 0 cc → post (nI n, nI q, xc, xp, nI oc, nI dc, nI cc, nI cc, oI, oO, dI, dO, cI, cO, a, b)) : wpX_saveCover post (nI n, nI q, xc, xp, nI oc, nI dc, nI cc, xs, oI, oO, dI, dO, cI, cO, sI, sO) := by
  unfold wpX_saveCover
  refine xv_cp_cI_sI hc (fun a ha => ?_)
  refine xv_cp_cO_sO hc (fun b hb => ?_)
  exact k a b (tw_ls_eq (fun j _ hj => ⟨ha j (by omega), hb j (by omega)⟩))
theorem xv_restoreCover {post : SX → Prop} {sc : Nat} (hc : sc ≤ 16) (k : ∀ a b : Nat → Int32, tw_ls a b 0 sc = tw_ls sI sO 0 sc → post (nI n, nI q, xc, xp, nI oc, nI dc, nI sc, nI sc, oI, oO, dI, dO, a, b, sI, sO)) : wpX_restoreCover post (nI n, nI q, xc, xp, nI oc, nI dc, nI cc, nI sc, oI, oO, dI, dO, cI, cO, sI, sO) := by
  unfold wpX_restoreCover
  refine xv_cp_sI_cI hc (fun a ha => ?_)
  refine xv_cp_sO_cO hc (fun b hb => ?_)
  exact k a b (tw_ls_eq (fun j _ hj => ⟨ha j (by omega), hb j (by omega)⟩))
end
/-- what improve makes of the cover, before it is weighed -/
noncomputable def tw_im (n q : Nat) (P D L : List (Int32 × Int32)) : List (Int32 × Int32) := tw_ir n q P D [] (tw_ex n q P D 16 [] (tw_rd n q P D [] L))
def tw_bet (n : Nat) (A B : List (Int32 × Int32)) : Prop := A.length < B.length ∨ (A.length = B.length ∧ tw_li n A < tw_li n B)
theorem tw_li_lt {n : Nat} {a b : Nat → Int32} {c : Nat} (hn : n ≤ 8) (hc : c ≤ 16) : tw_li n (tw_ls a b 0 c) < 2 ^ 31 := by
  have h := tw_li_le n (tw_ls a b 0 c)
  rw [tw_ls_len] at h
  have h2 : n * c ≤ 8 * 16 := Nat.mul_le_mul hn hc
  omega
section
variable {n q oc dc cc : Nat} {xc xp xs : Int32} {oI oO dI dO cI cO sI sO : Nat → Int32}
theorem xv_improve {post : Int32 → SX → Prop} (hn : n ≤ 8) (hq : q ≤ 4) (ho : oc ≤ 16) (hd : dc ≤ 16) (hc : cc ≤ 16) (hv : tw_val q (tw_ls cI cO 0 cc)) (k0 : xp = 0 → post (-1) (nI n, nI q, xc, xp, nI oc, nI dc, nI cc, xs, oI, oO, dI, dO, cI, cO, sI, sO))
    (k1 : ¬ xp = 0 → tw_bet n (tw_im n q (tw_ls oI oO 0 oc) (tw_ls dI dO 0 dc) (tw_ls cI cO 0 cc)) (tw_ls cI cO 0 cc) → ∀ (L : Nat) (a b s t : Nat → Int32) (x : Int32), L ≤ 16 → tw_ls a b 0 L = tw_im n q (tw_ls oI oO 0 oc) (tw_ls dI dO 0 dc) (tw_ls cI cO 0 cc) → post 1 (nI n, nI q, xc, xp, nI oc, nI dc, nI L, x, oI, oO, dI, dO, a, b, s, t))
    (k2 : ¬ xp = 0 → ¬ tw_bet n (tw_im n q (tw_ls oI oO 0 oc) (tw_ls dI dO 0 dc) (tw_ls cI cO 0 cc)) (tw_ls cI cO 0 cc) → ∀ (a b s t : Nat → Int32) (x : Int32), tw_ls a b 0 cc = tw_ls cI cO 0 cc → post 0 (nI n, nI q, xc, xp, nI oc, nI dc, nI cc, x, oI, oO, dI, dO, a, b, s, t)) : wpX_improve post (nI n, nI q, xc, xp, nI oc, nI dc, nI cc, xs, oI, oO, dI, dO, cI, cO, sI, sO) := by
  refine br_c k0 (fun h => xv_literalCount hn hc ?_)
  refine xv_saveCover hc (fun s t hst => ?_)
  refine xv_reduce hn hq ho hd hc hv (fun z => absurd z h) (fun _ L1 a1 b1 hL1 h1 => ?_)
  have hv1 : tw_val q (tw_ls a1 b1 0 L1) := by rw [h1]; exact (tw_rd_keep _ _ tw_val_nil hv).1
  refine xv_expand hn hq ho hd hL1 hv1 (fun z => absurd z h) (fun _ L2 a2 b2 hL2 h2 => ?_)
  have hv2 : tw_val q (tw_ls a2 b2 0 L2) := by rw [h2]; exact (tw_ex_keep hq _ _ _ tw_val_nil hv1).1
  refine xv_irredundant hn hq ho hd hL2 hv2 (fun z => absurd z h) (fun _ L3 a3 b3 hL3 h3 => ?_)
  have h4 : tw_ls a3 b3 0 L3 = tw_im n q (tw_ls oI oO 0 oc) (tw_ls dI dO 0 dc) (tw_ls cI cO 0 cc) := by
    unfold tw_im
    rw [h3, h2, h1]
  have hl3 := tw_li_lt (a := a3) (b := b3) hn hL3
  have hl0 := tw_li_lt (a := cI) (b := cO) hn hc
  have hlen : (tw_im n q (tw_ls oI oO 0 oc) (tw_ls dI dO 0 dc) (tw_ls cI cO 0 cc)).length = L3 := by rw [← h4, tw_ls_len]
  have hlen0 : (tw_ls cI cO 0 cc).length = cc := tw_ls_len _ _ _ _
  refine xv_literalCount hn hL3 ?_
  have back : ¬ tw_bet n (tw_im n q (tw_ls oI oO 0 oc) (tw_ls dI dO 0 dc) (tw_ls cI cO 0 cc)) (tw_ls cI cO 0 cc) → wX_improve_69 post (nI n) (nI q) xc xp (nI oc) (nI dc) (nI L3) (nI cc) oI oO dI dO a3 b3 s t := by
    intro hb
    unfold wX_improve_69
    refine xv_restoreCover hc (fun a b hab => ?_)
    exact k2 h hb a b s t (nI cc) (by rw [hab, hst])
  refine pk_le cc L3 (fun g => pk_eq L3 cc (fun g2 => ?_) (fun g2 => back ?_)) (fun g => k1 h ?_ L3 a3 b3 s t _ hL3 h4)
  · refine pk_le (tw_li n (tw_ls cI cO 0 cc)) (tw_li n (tw_ls a3 b3 0 L3)) (fun g3 => back ?_) (fun g3 => k1 h ?_ L3 a3 b3 s t _ hL3 h4)
    · unfold tw_bet
      rw [hlen, hlen0, ← h4]
      omega
    · unfold tw_bet
      rw [hlen, hlen0, ← h4]
      omega
  · unfold tw_bet
    rw [hlen, hlen0]
    omega
  · unfold tw_bet
    rw [hlen, hlen0]
    omega
theorem xv_isPoint {post : Int32 → Prop} {v w : Int32} (hn : n ≤ 8) (hq : q ≤ 4) (k1 : ∀ m o, m < 2 ^ n → o < q → v = nI m → w = nI o → post 1) (k0 : (¬ ∃ m o, m < 2 ^ n ∧ o < q ∧ v = nI m ∧ w = nI o) → post 0) : wpX_isPoint post (nI n, nI q, xc, xp, nI oc, nI dc, nI cc, xs, oI, oO, dI, dO, cI, cO, sI, sO) v w := by
  have e : (1 : Int32) <<< (nI n &&& 31) = nI (2 ^ n) := tw_p2 n (by omega)
  have hp := tw_pow8 hn
  refine br_c (fun h => k0 ?_) (fun h => br_c (fun h2 => k0 ?_) (fun h2 => br_c (fun h3 => k0 ?_) (fun h3 => br_c (fun h4 => k0 ?_) (fun h4 => ?_))))
  · rintro ⟨m, o, h5, h6, rfl, rfl⟩
    exact nI_pos (by omega) h
  · rintro ⟨m, o, h5, h6, rfl, rfl⟩
    rw [e, nI_leI (by omega) (by omega)] at h2
    omega
  · rintro ⟨m, o, h5, h6, rfl, rfl⟩
    exact nI_pos (by omega) h3
  · rintro ⟨m, o, h5, h6, rfl, rfl⟩
    rw [nI_leI (by omega) (by omega)] at h4
    omega
  · obtain ⟨m, hm, rfl⟩ := nI_of h
    obtain ⟨o, ho, rfl⟩ := nI_of h3
    rw [e, nI_leI (by omega) hm] at h2
    rw [nI_leI (by omega) ho] at h4
    exact k1 m o (by omega) (by omega) rfl rfl
theorem xv_evaluate {post : Int32 → Prop} {v w : Int32} (hn : n ≤ 8) (hq : q ≤ 4) (hc : cc ≤ 16) (k1 : ∀ m o, m < 2 ^ n → o < q → v = nI m → w = nI o → post (tw_if (tw_hit n (tw_ls cI cO 0 cc) m o) 1 0)) (k0 : (¬ ∃ m o, m < 2 ^ n ∧ o < q ∧ v = nI m ∧ w = nI o) → post (-5)) : wpX_evaluate post (nI n, nI q, xc, xp, nI oc, nI dc, nI cc, xs, oI, oO, dI, dO, cI, cO, sI, sO) v w := by
  have hp := tw_pow8 hn
  unfold wpX_evaluate
  refine xv_isPoint hn hq (fun m o hm ho ev ew => br_f (by decide) ?_) (fun h => br_t rfl (k0 h))
  subst ev ew
  refine xv_pm hn (by omega) (xv_oa_cI hn hc (fun r hr => ?_))
  rw [tw_bit1 r o (by omega)]
  have h2 := k1 m o hm ho rfl rfl
  by_cases g : tw_hit n (tw_ls cI cO 0 cc) m o
  · rw [tw_if_t g] at h2
    rw [if_pos ((hr o (by omega)).mpr g)]
    exact h2
  · rw [tw_if_f g] at h2
    rw [if_neg (fun z => g ((hr o (by omega)).mp z))]
    exact h2
theorem xv_function {post : Int32 → Prop} {v w : Int32} (hn : n ≤ 8) (hq : q ≤ 4) (ho : oc ≤ 16) (hd : dc ≤ 16) (k1 : ∀ m o, m < 2 ^ n → o < q → v = nI m → w = nI o → post (tw_if (tw_hit n (tw_ls dI dO 0 dc) m o) 2 (tw_if (tw_hit n (tw_ls oI oO 0 oc) m o) 1 0))) (k0 : (¬ ∃ m o, m < 2 ^ n ∧ o < q ∧ v = nI m ∧ w = nI o) → post (-5)) : wpX_function post (nI n, nI q, xc, xp, nI oc, nI dc, nI cc, xs, oI, oO, dI, dO, cI, cO, sI, sO) v w := by
  have hp := tw_pow8 hn
  unfold wpX_function
  refine xv_isPoint hn hq (fun m o hm ho2 ev ew => br_f (by decide) ?_) (fun h => br_t rfl (k0 h))
  subst ev ew
  refine xv_pm hn (by omega) (xv_oa_dI hn hd (fun r hr => ?_))
  rw [tw_bit1 r o (by omega)]
  have h2 := k1 m o hm ho2 rfl rfl
  by_cases g : tw_hit n (tw_ls dI dO 0 dc) m o
  · rw [tw_if_t g] at h2
    rw [if_pos ((hr o (by omega)).mpr g)]
    exact br_t rfl h2
  · rw [tw_if_f g] at h2
    rw [if_neg (fun z => g ((hr o (by omega)).mp z))]
    refine br_f (by decide) (xv_oa_oI hn ho (fun r2 hr2 => ?_))
    rw [tw_bit1 r2 o (by omega)]
    by_cases g2 : tw_hit n (tw_ls oI oO 0 oc) m o
    · rw [tw_if_t g2] at h2
      rw [if_pos ((hr2 o (by omega)).mpr g2)]
      exact br_t rfl h2
    · rw [tw_if_f g2] at h2
      rw [if_neg (fun z => g2 ((hr2 o (by omega)).mp z))]
      exact br_f (by decide) h2
theorem tw_vm_ok {q : Nat} {p : Int32} (hq : q ≤ 4) (h : tw_vm q p) : ∀ o, bt p o = true → o < q := by
  obtain ⟨a, h1, h2, rfl⟩ := h
  intro o ho
  have hp := tw_pow4 hq
  have hl := tw_lt32 ho
  have e : bt (nI a) o = a.testBit o := by
    show (BitVec.ofNat 32 a).getLsbD o = _
    rw [BitVec.getLsbD_ofNat, decide_eq_true hl, Bool.true_and]
  rw [e] at ho
  rcases Nat.lt_or_ge o q with g | g
  · exact g
  · rw [Nat.testBit_lt_two_pow (Nat.lt_of_lt_of_le h2 (Nat.pow_le_pow_right (by decide) g))] at ho
    exact Bool.noConfusion ho
theorem xv_isImplicant {post : Int32 → Prop} {v w : Int32} (hn : n ≤ 8) (hq : q ≤ 4) (ho : oc ≤ 16) (hd : dc ≤ 16) (k1 : tw_vi n v → tw_vm q w → tw_imp n q (tw_ls oI oO 0 oc) (tw_ls dI dO 0 dc) v w → post 1) (k2 : tw_vi n v → tw_vm q w → ¬ tw_imp n q (tw_ls oI oO 0 oc) (tw_ls dI dO 0 dc) v w → post 0) (k3 : ¬ tw_vi n v → post 0) (k4 : tw_vi n v → ¬ tw_vm q w → post 0) : wpX_isImplicant post (nI n, nI q, xc, xp, nI oc, nI dc, nI cc, xs, oI, oO, dI, dO, cI, cO, sI, sO) v w := by
  unfold wpX_isImplicant
  refine xv_isInputPart hn (fun hv => br_f (by decide) ?_) (fun hv => br_t rfl (k3 hv))
  refine xv_isOutputMask hq (fun hm => br_f (by decide) ?_) (fun hm => br_t rfl (k4 hv hm))
  exact xv_avoidsOff hn hq ho hd (tw_vm_ok hq hm) (fun hi => br_f (by decide) (k1 hv hm hi)) (fun hi => br_t rfl (k2 hv hm hi))
end
