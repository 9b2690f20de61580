/-! fields of two bits, single bits, small shifts -/
theorem tw_fd (I : Int32) (k : Nat) (hk : k + 1 < 32) : (I >>> (nI k &&& 31)) &&& 3 = (if bt I k = true then 1 else 0) ||| (if bt I (k + 1) = true then 2 else 0) := by
  apply b_ext
  intro j hj
  rw [b_and, b_sshr k (by omega) I hj, tw_b3, b_or]
  rcases Nat.lt_or_ge j 2 with h | h
  · rw [if_pos (by omega), decide_eq_true h, Bool.and_true]
    have h2 : j = 0 ∨ j = 1 := by omega
    rcases h2 with e | e
    · subst e
      rw [Nat.add_zero]
      cases hb : bt I k <;> cases hc : bt I (k + 1) <;> simp [tw_b1, tw_b2, b_0]
    · subst e
      cases hb : bt I k <;> cases hc : bt I (k + 1) <;> simp [tw_b1, tw_b2, b_0]
  · rw [decide_eq_false (by omega), Bool.and_false]
    have h0 : ¬ j = 0 := by omega
    have h1 : ¬ j = 1 := by omega
    cases hb : bt I k <;> cases hc : bt I (k + 1) <;> simp [tw_b1, tw_b2, b_0, h0, h1]
theorem tw_fd0 (I : Int32) (k : Nat) (hk : k + 1 < 32) : (I >>> (nI k &&& 31)) &&& 3 = 0 ↔ ¬ (bt I k = true ∨ bt I (k + 1) = true) := by
  rw [tw_fd I k hk]
  cases hb : bt I k <;> cases hc : bt I (k + 1) <;> simp <;> decide
theorem tw_fd1 (I : Int32) (k : Nat) (hk : k + 1 < 32) : (I >>> (nI k &&& 31)) &&& 3 = 1 ↔ (bt I k = true ∧ bt I (k + 1) = false) := by
  rw [tw_fd I k hk]
  cases hb : bt I k <;> cases hc : bt I (k + 1) <;> simp <;> decide
theorem tw_fd2 (I : Int32) (k : Nat) (hk : k + 1 < 32) : (I >>> (nI k &&& 31)) &&& 3 = 2 ↔ (bt I k = false ∧ bt I (k + 1) = true) := by
  rw [tw_fd I k hk]
  cases hb : bt I k <;> cases hc : bt I (k + 1) <;> simp <;> decide
theorem tw_fd3 (I : Int32) (k : Nat) (hk : k + 1 < 32) : (I >>> (nI k &&& 31)) &&& 3 = 3 ↔ (bt I k = true ∧ bt I (k + 1) = true) := by
  rw [tw_fd I k hk]
  cases hb : bt I k <;> cases hc : bt I (k + 1) <;> simp <;> decide
theorem tw_bit1 (x : Int32) (k : Nat) (hk : k < 32) : (x >>> (nI k &&& 31)) &&& 1 = if bt x k = true then 1 else 0 := by
  apply b_ext
  intro j hj
  rw [b_and, b_sshr k hk x hj, tw_b1]
  by_cases h : j = 0
  · subst h
    rw [Nat.add_zero, if_pos hk]
    cases hb : bt x k <;> simp [tw_b1, b_0]
  · rw [decide_eq_false h, Bool.and_false]
    cases hb : bt x k <;> simp [tw_b1, b_0, h]
theorem tw_p2 : ∀ n, n < 31 → (1 : Int32) <<< (nI n &&& 31) = nI (2 ^ n) := by decide +kernel
theorem tw_mbit {m i : Nat} (hm : m < 2 ^ 31) (hi : i < 31) : (nI m >>> (nI i &&& 31)) &&& 1 = nI (m / 2 ^ i % 2) := by
  rw [pk_shrN hm (nI i &&& 31) i (s_l i (by omega))]
  have h : m / 2 ^ i ≤ m := Nat.div_le_self _ _
  exact pk_andN (by omega) 1 (by decide)
theorem tw_2x (i : Nat) : 2 * nI i = nI (2 * i) := pk_mul 2 i
theorem tw_pow8 {n : Nat} (h : n ≤ 8) : 2 ^ n ≤ 256 := Nat.pow_le_pow_right (by decide) h
theorem tw_raise {I : Int32} {i : Nat} (hi : 2 * i + 1 < 32) : (I ||| ((3 : Int32) <<< (nI (2 * i) &&& 31))) = I ↔ (bt I (2 * i) = true ∧ bt I (2 * i + 1) = true) := by
  constructor
  · intro h
    have h0 : bt (I ||| ((3 : Int32) <<< (nI (2 * i) &&& 31))) (2 * i) = bt I (2 * i) := by rw [h]
    have h1 : bt (I ||| ((3 : Int32) <<< (nI (2 * i) &&& 31))) (2 * i + 1) = bt I (2 * i + 1) := by rw [h]
    rw [b_or, tw_b3sh _ (by omega) _ (by omega), decide_eq_true (Or.inl rfl), Bool.or_true] at h0
    rw [b_or, tw_b3sh _ (by omega) _ (by omega), decide_eq_true (Or.inr rfl), Bool.or_true] at h1
    exact ⟨h0.symm, h1.symm⟩
  · intro ⟨h0, h1⟩
    apply b_ext
    intro j hj
    rw [b_or, tw_b3sh _ (by omega) j hj]
    by_cases h : j = 2 * i ∨ j = 2 * i + 1
    · rw [decide_eq_true h, Bool.or_true]
      rcases h with e | e
      · rw [e, h0]
      · rw [e, h1]
    · rw [decide_eq_false h, Bool.or_false]
theorem tw_raiseO {O : Int32} {o : Nat} (ho : o < 32) : (O ||| ((1 : Int32) <<< (nI o &&& 31))) = O ↔ bt O o = true := by
  constructor
  · intro h
    have h0 : bt (O ||| ((1 : Int32) <<< (nI o &&& 31))) o = bt O o := by rw [h]
    rw [b_or, tw_bsh _ ho _ ho, decide_eq_true rfl, Bool.or_true] at h0
    exact h0.symm
  · intro h0
    apply b_ext
    intro j hj
    rw [b_or, tw_bsh _ ho j hj]
    by_cases h : j = o
    · rw [decide_eq_true h, Bool.or_true, h, h0]
    · rw [decide_eq_false h, Bool.or_false]
