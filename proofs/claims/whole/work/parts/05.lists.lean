/-! arrays as lists of cubes: writing, removing, keeping what is not inside -/
theorem tw_ls_snoc (a b : Nat → Int32) (s l : Nat) : tw_ls a b s (l + 1) = tw_ls a b s l ++ [(a (s + l), b (s + l))] := tw_ls_app a b l s 1
theorem tw_ls_eq {a b a' b' : Nat → Int32} {l s : Nat} (h : ∀ k, s ≤ k → k < s + l → a' k = a k ∧ b' k = b k) : tw_ls a' b' s l = tw_ls a b s l := tw_ls_ext l s s (fun k hk => h (s + k) (by omega) (by omega))
theorem tw_ls_put (a b : Nat → Int32) (k : Nat) (x y : Int32) : tw_ls (upd a k x) (upd b k y) 0 (k + 1) = tw_ls a b 0 k ++ [(x, y)] := by
  rw [tw_ls_snoc, Nat.zero_add, pk_us, pk_us, tw_ls_eq (a := a) (b := b)]
  intro j _ hj
  exact ⟨pk_un (by omega), pk_un (by omega)⟩
/-- a list cut at a position -/
theorem tw_ls_cut (a b : Nat → Int32) {p c : Nat} (h : p < c) : tw_ls a b 0 c = tw_ls a b 0 p ++ (a p, b p) :: tw_ls a b (p + 1) (c - p - 1) := by
  obtain ⟨r, rfl⟩ : ∃ r, c = p + (r + 1) := ⟨c - p - 1, by omega⟩
  rw [tw_ls_app, Nat.zero_add, show p + (r + 1) - p - 1 = r from by omega]
  rfl
theorem tw_ls_set (a b : Nat → Int32) {p c : Nat} (x y : Int32) (h : p < c) : tw_ls (upd a p x) (upd b p y) 0 c = tw_ls a b 0 p ++ (x, y) :: tw_ls a b (p + 1) (c - p - 1) := by
  rw [tw_ls_cut _ _ h, pk_us, pk_us, tw_ls_eq (a := a) (b := b) (l := p), tw_ls_eq (a := a) (b := b) (l := c - p - 1)]
  · intro k h1 h2; exact ⟨pk_un (by omega), pk_un (by omega)⟩
  · intro k h1 h2; exact ⟨pk_un (by omega), pk_un (by omega)⟩
/-- what stays when the cubes inside c go, but for the keeper itself -/
noncomputable def tw_G (c : Int32 × Int32) (p : Nat) (a b : Nat → Int32) : Nat → List (Int32 × Int32)
  | 0 => []
  | k + 1 => tw_if (k = p ∨ ¬ tw_ins c (a k, b k)) (tw_G c p a b k ++ [(a k, b k)]) (tw_G c p a b k)
theorem tw_G_len (c : Int32 × Int32) (p : Nat) (a b : Nat → Int32) : ∀ k, (tw_G c p a b k).length ≤ k := by
  intro k
  induction k with
  | zero => exact Nat.le_refl _
  | succ k ih =>
    show (tw_if (k = p ∨ ¬ tw_ins c (a k, b k)) (tw_G c p a b k ++ [(a k, b k)]) (tw_G c p a b k)).length ≤ k + 1
    by_cases h : k = p ∨ ¬ tw_ins c (a k, b k)
    · rw [tw_if_t h, List.length_append, List.length_singleton]; omega
    · rw [tw_if_f h]; omega
theorem tw_fl_1 (c d : Int32 × Int32) : tw_fl c [d] = tw_if (tw_ins c d) [] [d] := rfl
theorem tw_G_lo (c : Int32 × Int32) (p : Nat) (a b : Nat → Int32) : ∀ k, k ≤ p → tw_G c p a b k = tw_fl c (tw_ls a b 0 k) := by
  intro k
  induction k with
  | zero => intro _; rfl
  | succ k ih =>
    intro hk
    rw [tw_ls_snoc, Nat.zero_add, tw_fl_app, tw_fl_1, ← ih (by omega)]
    show tw_if (k = p ∨ ¬ tw_ins c (a k, b k)) (tw_G c p a b k ++ [(a k, b k)]) (tw_G c p a b k) = _
    by_cases h : tw_ins c (a k, b k)
    · have h2 : ¬ (k = p ∨ ¬ tw_ins c (a k, b k)) := by
        rintro (e | e)
        · omega
        · exact e h
      rw [tw_if_f h2, tw_if_t h, List.append_nil]
    · rw [tw_if_t (Or.inr h), tw_if_f h]
theorem tw_G_hi (c : Int32 × Int32) (p : Nat) (a b : Nat → Int32) : ∀ j, tw_G c p a b (p + 1 + j) = tw_fl c (tw_ls a b 0 p) ++ [(a p, b p)] ++ tw_fl c (tw_ls a b (p + 1) j) := by
  intro j
  induction j with
  | zero =>
    show tw_if (p = p ∨ ¬ tw_ins c (a p, b p)) (tw_G c p a b p ++ [(a p, b p)]) (tw_G c p a b p) = _ ++ []
    rw [tw_if_t (Or.inl rfl), tw_G_lo c p a b p (Nat.le_refl _), List.append_nil]
  | succ j ih =>
    rw [tw_ls_snoc, tw_fl_app, tw_fl_1, ← List.append_assoc, ← ih]
    show tw_if (p + 1 + j = p ∨ ¬ tw_ins c (a (p + 1 + j), b (p + 1 + j))) (tw_G c p a b (p + 1 + j) ++ [(a (p + 1 + j), b (p + 1 + j))]) (tw_G c p a b (p + 1 + j)) = _
    by_cases h : tw_ins c (a (p + 1 + j), b (p + 1 + j))
    · have h2 : ¬ (p + 1 + j = p ∨ ¬ tw_ins c (a (p + 1 + j), b (p + 1 + j))) := by
        rintro (e | e)
        · omega
        · exact e h
      rw [tw_if_f h2, tw_if_t h, List.append_nil]
    · rw [tw_if_t (Or.inr h), tw_if_f h]
theorem tw_G_all (c : Int32 × Int32) {p n : Nat} (a b : Nat → Int32) (h : p < n) : tw_G c p a b n = tw_fl c (tw_ls a b 0 p) ++ [(a p, b p)] ++ tw_fl c (tw_ls a b (p + 1) (n - p - 1)) := by
  obtain ⟨r, rfl⟩ : ∃ r, n = p + 1 + r := ⟨n - p - 1, by omega⟩
  rw [tw_G_hi, show p + 1 + r - p - 1 = r from by omega]
/-- the arrays after the cube at p went -/
theorem tw_ls_rm {a b a' b' : Nat → Int32} {p c : Nat} (h : p < c) (h1 : ∀ k, k < p → a' k = a k ∧ b' k = b k) (h2 : ∀ k, p ≤ k → k < c - 1 → a' k = a (k + 1) ∧ b' k = b (k + 1)) : tw_ls a' b' 0 (c - 1) = tw_ls a b 0 p ++ tw_ls a b (p + 1) (c - p - 1) := by
  obtain ⟨r, rfl⟩ : ∃ r, c = p + (r + 1) := ⟨c - p - 1, by omega⟩
  rw [show p + (r + 1) - 1 = p + r from by omega, tw_ls_app, Nat.zero_add, show p + (r + 1) - p - 1 = r from by omega, tw_ls_eq (a := a) (b := b) (l := p), tw_ls_ext (a := a) (b := b) r (p + 1) p]
  · intro k hk
    have := h2 (p + k) (by omega) (by omega)
    rw [show p + 1 + k = p + k + 1 from by omega]
    exact this
  · intro k _ hk; exact h1 k (by omega)
