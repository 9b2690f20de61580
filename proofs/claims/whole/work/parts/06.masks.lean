/-! masks of outputs against points -/
theorem tw_subz {d c : Int32} : (d &&& (c ^^^ (-1))) = 0 ↔ ∀ j, j < 32 → bt d j = true → bt c j = true := by
  rw [tw_zero]
  constructor
  · intro h j hj hd
    have h2 := h j hj
    rw [b_and, tw_not c hj, hd, Bool.true_and] at h2
    cases hc : bt c j
    · rw [hc] at h2; exact Bool.noConfusion h2
    · rfl
  · intro h j hj
    rw [b_and, tw_not c hj]
    cases hd : bt d j
    · rfl
    · rw [h j hj hd]; rfl
theorem tw_insz {c d : Int32 × Int32} : tw_ins c d ↔ (d.1 &&& (c.1 ^^^ (-1))) = 0 ∧ (d.2 &&& (c.2 ^^^ (-1))) = 0 := by
  rw [tw_subz, tw_subz]
  exact Iff.rfl
theorem tw_impx {n q : Nat} {P D : List (Int32 × Int32)} {I O : Int32} (hq : q ≤ 4) (hO : ∀ o, bt O o = true → o < q) : tw_imp n q P D I O ↔ ∀ m, m < 2 ^ n → tw_ct n I m → ∀ o, o < 32 → bt O o = true → tw_hit n P m o ∨ tw_hit n D m o := by
  constructor
  · intro h m hm hc o _ ho
    exact h m hm o (hO o ho) hc ho
  · intro h m hm o ho hc hb
    exact h m hm hc o (by omega) hb
theorem tw_hasx {n q : Nat} {P D : List (Int32 × Int32)} {c : Int32 × Int32} {R : List (Int32 × Int32)} (hq : q ≤ 4) (hO : ∀ o, bt c.2 o = true → o < q) : tw_has n q P D c R ↔ ∃ m, m < 2 ^ n ∧ ∃ o, o < 32 ∧ tw_own n P D c R m o := by
  constructor
  · intro ⟨m, hm, o, ho, h⟩
    exact ⟨m, hm, o, by omega, h⟩
  · intro ⟨m, hm, o, ho, h⟩
    exact ⟨m, hm, o, hO o h.2.1, h⟩
theorem tw_rcx {n q : Nat} {P D : List (Int32 × Int32)} {c : Int32 × Int32} {R : List (Int32 × Int32)} {I O : Int32} (hq : q ≤ 4) (hO : ∀ o, bt c.2 o = true → o < q)
    (h1 : ∀ j, j < 32 → (bt I j = true ↔ ∃ m, m < 2 ^ n ∧ (∃ o, o < 32 ∧ tw_own n P D c R m o) ∧ ∃ i, i < n ∧ j = tw_at m i))
    (h2 : ∀ o, o < 32 → (bt O o = true ↔ ∃ m, m < 2 ^ n ∧ tw_own n P D c R m o)) : (I, O) = tw_rc n q P D c R := by
  unfold tw_rc
  refine Prod.ext ?_ ?_
  · apply tw_extP
    intro j hj
    rw [h1 j hj]
    dsimp only
    rw [tw_mk_b _ 32 (Nat.le_refl _) j hj]
    constructor
    · intro ⟨m, hm, ⟨o, ho, hw⟩, hi⟩
      exact ⟨hj, m, hm, ⟨o, hO o hw.2.1, hw⟩, hi⟩
    · intro ⟨_, m, hm, ⟨o, ho, hw⟩, hi⟩
      exact ⟨m, hm, ⟨o, by omega, hw⟩, hi⟩
  · apply tw_extP
    intro o ho
    rw [h2 o ho]
    dsimp only
    rw [tw_mk_b _ 32 (Nat.le_refl _) o ho]
    constructor
    · intro ⟨m, hm, hw⟩
      exact ⟨ho, hO o hw.2.1, m, hm, hw⟩
    · intro ⟨_, _, m, hm, hw⟩
      exact ⟨m, hm, hw⟩
/-- the mask of the outputs at which the cube c has the minterm for itself -/
theorem tw_ownx {n m : Nat} {P D R : List (Int32 × Int32)} {c : Int32 × Int32} {a d r : Int32} (hc : tw_ct n c.1 m)
    (ha : ∀ o, o < 32 → (bt a o = true ↔ tw_hit n P m o)) (hd : ∀ o, o < 32 → (bt d o = true ↔ tw_hit n D m o)) (hr : ∀ o, o < 32 → (bt r o = true ↔ tw_hit n R m o)) :
    ∀ o, o < 32 → (bt (((c.2 &&& a) &&& (d ^^^ (-1))) &&& (r ^^^ (-1))) o = true ↔ tw_own n P D c R m o) := by
  intro o ho
  rw [b_and, b_and, b_and, tw_not d ho, tw_not r ho, Bool.and_eq_true, Bool.and_eq_true, Bool.and_eq_true, ha o ho, Bool.not_eq_true', Bool.not_eq_true']
  have hd2 : bt d o = false ↔ ¬ tw_hit n D m o := by rw [← hd o ho]; cases bt d o <;> simp
  have hr2 : bt r o = false ↔ ¬ tw_hit n R m o := by rw [← hr o ho]; cases bt r o <;> simp
  rw [hd2, hr2]
  constructor
  · intro ⟨⟨⟨h1, h2⟩, h3⟩, h4⟩; exact ⟨hc, h1, ⟨h2, h3⟩, h4⟩
  · intro ⟨_, h1, ⟨h2, h3⟩, h4⟩; exact ⟨⟨⟨h1, h2⟩, h3⟩, h4⟩
theorem tw_offx {n m : Nat} {P D : List (Int32 × Int32)} {O a d : Int32}
    (ha : ∀ o, o < 32 → (bt a o = true ↔ tw_hit n P m o)) (hd : ∀ o, o < 32 → (bt d o = true ↔ tw_hit n D m o)) :
    (O &&& ((a ||| d) ^^^ (-1))) = 0 ↔ ∀ o, o < 32 → bt O o = true → tw_hit n P m o ∨ tw_hit n D m o := by
  rw [tw_subz]
  constructor
  · intro h o ho hb
    have h2 := h o ho hb
    rw [b_or, Bool.or_eq_true, ha o ho, hd o ho] at h2
    exact h2
  · intro h o ho hb
    rw [b_or, Bool.or_eq_true, ha o ho, hd o ho]
    exact h o ho hb
/-- hits among all cubes of the cover but the one at p -/
theorem tw_hit_but {n : Nat} {a b : Nat → Int32} {p c m o : Nat} (h : p < c) : tw_hit n (tw_ls a b 0 p ++ tw_ls a b (p + 1) (c - p - 1)) m o ↔ ∃ k, k < c ∧ k ≠ p ∧ tw_ct n (a k) m ∧ bt (b k) o = true := by
  rw [tw_hit_app, tw_hit_ls, tw_hit_ls]
  constructor
  · rintro (⟨k, h1, h2, h3⟩ | ⟨k, h1, h2, h3⟩)
    · exact ⟨k, by omega, by omega, h3⟩
    · exact ⟨k, by omega, by omega, h3⟩
  · intro ⟨k, h1, h2, h3⟩
    rcases Nat.lt_or_ge k p with h4 | h4
    · exact Or.inl ⟨k, by omega, by omega, h3⟩
    · exact Or.inr ⟨k, by omega, by omega, h3⟩
/-- literals by fields -/
theorem tw_lcf (I : Int32) (i : Nat) (hi : 2 * i + 1 < 32) : ((I >>> (nI (2 * i) &&& 31)) &&& 3 = 1 ∨ (I >>> (nI (2 * i) &&& 31)) &&& 3 = 2) ↔ ¬ bt I (2 * i) = bt I (2 * i + 1) := by
  rw [tw_fd1 I _ hi, tw_fd2 I _ hi]
  cases bt I (2 * i) <;> cases bt I (2 * i + 1) <;> simp
