section
/-! rows out of the kit's rows to paste -/
theorem pk_us {f : Nat → Int32} {k : Nat} {x : Int32} : upd f k x k = x := if_pos rfl
theorem pk_un {f : Nat → Int32} {k j : Nat} {x : Int32} (h : j ≠ k) : upd f k x j = f j := if_neg h
theorem pk_sub {a b : Nat} (h : b ≤ a) : nI a - nI b = nI (a - b) := by
  obtain ⟨c, rfl⟩ : ∃ c, a = c + b := ⟨a - b, by omega⟩
  rw [← nI_add, Int32.add_sub_cancel, Nat.add_sub_cancel]
theorem pk_m1 (n : Nat) : nI (n + 1) + (-1) = nI n := by
  rw [← nI_1, Int32.add_assoc, show (1 : Int32) + (-1) = 0 from rfl, Int32.add_zero]
theorem pk_mul (a b : Nat) : nI a * nI b = nI (a * b) := (Int32.ofNat_mul a b).symm
theorem pk_ix (x : Int32) {n : Nat} (hn : n < 2 ^ 31) : x < 0 ∨ nI n ≤ x ∨ ∃ j : Nat, j < n ∧ x = nI j := by
  by_cases h : x < 0
  · exact Or.inl h
  · obtain ⟨j, hj, rfl⟩ := nI_of h
    by_cases h2 : j < n
    · exact Or.inr (Or.inr ⟨j, h2, rfl⟩)
    · exact Or.inr (Or.inl (nI_le (by omega) hj))
theorem pk_le {x y : Int32} {A B : Prop} (a b : Nat) (f : a ≤ b → A) (g : b < a → B) (hx : x = nI a := by rfl) (hy : y = nI b := by rfl) (ha : a < 2 ^ 31 := by omega) (hb : b < 2 ^ 31 := by omega) : (x ≤ y → A) ∧ (¬ x ≤ y → B) := by
  subst hx hy
  rw [nI_leI ha hb]
  exact ⟨f, fun z => g (by omega)⟩
theorem pk_lt {x y : Int32} {A B : Prop} (a b : Nat) (f : a < b → A) (g : b ≤ a → B) (hx : x = nI a := by rfl) (hy : y = nI b := by rfl) (ha : a < 2 ^ 31 := by omega) (hb : b < 2 ^ 31 := by omega) : (x < y → A) ∧ (¬ x < y → B) := by
  subst hx hy
  rw [nI_ltI ha hb]
  exact ⟨f, fun z => g (by omega)⟩
theorem pk_eq {x y : Int32} {A B : Prop} (a b : Nat) (f : a = b → A) (g : a ≠ b → B) (hx : x = nI a := by rfl) (hy : y = nI b := by rfl) (ha : a < 2 ^ 31 := by omega) (hb : b < 2 ^ 31 := by omega) : (x = y → A) ∧ (¬ x = y → B) := by
  subst hx hy
  rw [nI_eq ha hb]
  exact ⟨f, g⟩
theorem pk_in {x : Int32} (n N : Nat) (h : n < N) (hx : x = nI n := by rfl) (hN : N < 2 ^ 31 := by omega) : vp_in x N := by
  subst hx
  exact vp_in_nI h hN
theorem pk_cl {x : Int32} (n : Nat) (hx : x = nI n := by rfl) (h : n < 2 ^ 31 := by omega) : x.toNatClampNeg = n := by
  subst hx
  exact nI_clamp h
theorem pk_tn {n : Nat} (h : n < 2 ^ 32) : (nI n).toBitVec.toNat = n := Nat.mod_eq_of_lt h
theorem pk_and (x : Int32) {m : Int32} (k : Nat) (hm : m.toBitVec.toNat = 2 ^ k - 1) : x &&& m = nI (x.toBitVec.toNat % 2 ^ k) := by
  apply Int32.toBitVec_inj.mp
  apply BitVec.eq_of_toNat_eq
  rw [Int32.toBitVec_and, BitVec.toNat_and, hm, Nat.and_two_pow_sub_one_eq_mod]
  show _ = (BitVec.ofNat 32 _).toNat
  rw [BitVec.toNat_ofNat]
  exact (Nat.mod_eq_of_lt (Nat.lt_of_le_of_lt (Nat.mod_le _ _) x.toBitVec.isLt)).symm
theorem pk_andN {n : Nat} (h : n < 2 ^ 32) {m : Int32} (k : Nat) (hm : m.toBitVec.toNat = 2 ^ k - 1) : nI n &&& m = nI (n % 2 ^ k) := by
  rw [pk_and _ k hm, pk_tn h]
theorem pk_shl (a s : Int32) (k : Nat) (hs : (s.toBitVec.smod 32).toNat = k) : (a <<< s).toBitVec.toNat = a.toBitVec.toNat * 2 ^ k % 2 ^ 32 := by
  show (a.toBitVec <<< (s.toBitVec.smod 32).toNat).toNat = _
  rw [hs, BitVec.toNat_shiftLeft, Nat.shiftLeft_eq]
theorem pk_shlN {n : Nat} (s : Int32) (k : Nat) (hs : (s.toBitVec.smod 32).toNat = k) (h : n * 2 ^ k < 2 ^ 32) : nI n <<< s = nI (n * 2 ^ k) := by
  apply Int32.toBitVec_inj.mp
  apply BitVec.eq_of_toNat_eq
  have hn : n < 2 ^ 32 := Nat.lt_of_le_of_lt (Nat.le_mul_of_pos_right n (Nat.two_pow_pos k)) h
  rw [pk_shl _ _ k hs, pk_tn hn, pk_tn h, Nat.mod_eq_of_lt h]
theorem pk_shr (a s : Int32) (k : Nat) (hs : (s.toBitVec.smod 32).toNat = k) : (a >>> s).toInt = a.toInt >>> k := by
  show (a.toBitVec.sshiftRight (s.toBitVec.smod 32).toNat).toInt = _
  rw [hs, BitVec.toInt_sshiftRight]
  rfl
theorem pk_shrN {n : Nat} (h : n < 2 ^ 31) (s : Int32) (k : Nat) (hs : (s.toBitVec.smod 32).toNat = k) : nI n >>> s = nI (n / 2 ^ k) := by
  apply Int32.toInt_inj.mp
  have h2 : n / 2 ^ k ≤ n := Nat.div_le_self _ _
  rw [pk_shr _ _ k hs, nI_toInt h, nI_toInt (by omega), Int.shiftRight_eq_div_pow]
  rfl
def bt (x : Int32) (i : Nat) : Bool := x.toBitVec.getLsbD i
theorem b_ext {x y : Int32} (h : ∀ i, i < 32 → bt x i = bt y i) : x = y := Int32.toBitVec_inj.mp (BitVec.eq_of_getLsbD_eq (fun i hi => h i hi))
theorem b_or (x y : Int32) (i : Nat) : bt (x ||| y) i = (bt x i || bt y i) := by unfold bt; rw [Int32.toBitVec_or, BitVec.getLsbD_or]
theorem b_and (x y : Int32) (i : Nat) : bt (x &&& y) i = (bt x i && bt y i) := by unfold bt; rw [Int32.toBitVec_and, BitVec.getLsbD_and]
theorem b_xor (x y : Int32) (i : Nat) : bt (x ^^^ y) i = (bt x i ^^ bt y i) := by unfold bt; rw [Int32.toBitVec_xor, BitVec.getLsbD_xor]
theorem b_big {x : Int32} {i : Nat} (h : 32 ≤ i) : bt x i = false := BitVec.getLsbD_of_ge _ _ h
theorem b_m1 : ∀ i, i < 32 → bt (-1) i = true := by decide +kernel
theorem b_0 (i : Nat) : bt 0 i = false := BitVec.getLsbD_zero
theorem s_l : ∀ n, n < 32 → ((nI n &&& 31).toBitVec.smod 32).toNat = n := by decide +kernel
theorem s_u : ∀ n, n < 32 → (((nI n).toUInt32 &&& Int32.toUInt32 31).toBitVec % 32).toNat = n := by decide +kernel
theorem b_shl (n : Nat) (hn : n < 32) (x : Int32) {i : Nat} (hi : i < 32) : bt (x <<< (nI n &&& 31)) i = (decide (n ≤ i) && bt x (i - n)) := by
  unfold bt
  rw [Int32.toBitVec_shiftLeft]
  show (x.toBitVec <<< ((nI n &&& 31).toBitVec.smod 32).toNat).getLsbD i = _
  rw [s_l n hn, BitVec.getLsbD_shiftLeft]
  rcases Nat.lt_or_ge i n with h | h
  · simp [h, Nat.not_le.mpr h]
  · simp [hi, h, Nat.not_lt.mpr h]
theorem b_ushr (n : Nat) (hn : n < 32) (x : Int32) (i : Nat) : bt ((x.toUInt32 >>> ((nI n).toUInt32 &&& Int32.toUInt32 31)).toInt32) i = bt x (n + i) := by
  show (x.toUInt32 >>> ((nI n).toUInt32 &&& Int32.toUInt32 31)).toBitVec.getLsbD i = x.toUInt32.toBitVec.getLsbD (n + i)
  rw [UInt32.toBitVec_shiftRight]
  show (x.toUInt32.toBitVec >>> (((nI n).toUInt32 &&& Int32.toUInt32 31).toBitVec % 32).toNat).getLsbD i = _
  rw [s_u n hn, BitVec.getLsbD_ushiftRight]
theorem b_sshr (n : Nat) (hn : n < 32) (x : Int32) {i : Nat} (hi : i < 32) : bt (x >>> (nI n &&& 31)) i = if n + i < 32 then bt x (n + i) else bt x 31 := by
  unfold bt
  rw [Int32.toBitVec_shiftRight]
  show (x.toBitVec.sshiftRight ((nI n &&& 31).toBitVec.smod 32).toNat).getLsbD i = _
  rw [s_l n hn, BitVec.getLsbD_sshiftRight, BitVec.msb_eq_getLsbD_last]
  simp [hi]
theorem nx_and (a b : Nat) : nI a &&& nI b = nI (a &&& b) := by
  apply Int32.toBitVec_inj.1
  show BitVec.ofNat 32 a &&& BitVec.ofNat 32 b = BitVec.ofNat 32 (a &&& b)
  apply BitVec.eq_of_getLsbD_eq
  intro i hi
  simp [hi]
end
section
/-! the pure picture: bits, minterms, cubes, the function, the passes on lists of cubes -/
theorem tw_b1 (i : Nat) : bt 1 i = decide (i = 0) := by
  rcases Nat.lt_or_ge i 32 with h | h
  · exact (by decide +kernel : ∀ i, i < 32 → bt 1 i = decide (i = 0)) i h
  · rw [b_big h, decide_eq_false (by omega)]
theorem tw_b2 (i : Nat) : bt 2 i = decide (i = 1) := by
  rcases Nat.lt_or_ge i 32 with h | h
  · exact (by decide +kernel : ∀ i, i < 32 → bt 2 i = decide (i = 1)) i h
  · rw [b_big h, decide_eq_false (by omega)]
theorem tw_b3 (i : Nat) : bt 3 i = decide (i < 2) := by
  rcases Nat.lt_or_ge i 32 with h | h
  · exact (by decide +kernel : ∀ i, i < 32 → bt 3 i = decide (i < 2)) i h
  · rw [b_big h, decide_eq_false (by omega)]
theorem tw_bsh (k : Nat) (hk : k < 32) (j : Nat) (hj : j < 32) : bt ((1 : Int32) <<< (nI k &&& 31)) j = decide (j = k) := by
  rw [b_shl k hk 1 hj, tw_b1]
  by_cases h : j = k
  · subst h; simp
  · by_cases h2 : k ≤ j
    · rw [decide_eq_true h2, decide_eq_false (by omega), decide_eq_false h]; rfl
    · rw [decide_eq_false h2, decide_eq_false h]; rfl
theorem tw_b3sh (k : Nat) (hk : k < 32) (j : Nat) (hj : j < 32) : bt ((3 : Int32) <<< (nI k &&& 31)) j = decide (j = k ∨ j = k + 1) := by
  rw [b_shl k hk 3 hj, tw_b3]
  by_cases h2 : k ≤ j
  · rw [decide_eq_true h2, Bool.true_and]
    exact decide_eq_decide.mpr (by omega)
  · rw [decide_eq_false h2, Bool.false_and, decide_eq_false (by omega)]
theorem tw_sub {x y : Int32} : (x &&& y) = y ↔ ∀ j, j < 32 → bt y j = true → bt x j = true := by
  constructor
  · intro h j hj hy
    have e : bt (x &&& y) j = bt y j := by rw [h]
    rw [b_and, hy] at e
    simpa using e
  · intro h
    apply b_ext
    intro j hj
    rw [b_and]
    cases hy : bt y j
    · simp
    · rw [h j hj hy]; rfl
theorem tw_zero {x : Int32} : x = 0 ↔ ∀ j, j < 32 → bt x j = false := by
  constructor
  · intro h j _
    rw [h]; exact b_0 j
  · intro h
    apply b_ext
    intro j hj
    rw [h j hj, b_0]
theorem tw_nz {x : Int32} : ¬ x = 0 ↔ ∃ j, j < 32 ∧ bt x j = true := by
  constructor
  · intro h
    apply Classical.byContradiction
    intro hn
    apply h
    rw [tw_zero]
    intro j hj
    cases hb : bt x j
    · rfl
    · exact absurd ⟨j, hj, hb⟩ hn
  · intro ⟨j, hj, hb⟩ h
    rw [tw_zero.mp h j hj] at hb
    exact Bool.noConfusion hb
theorem tw_not (x : Int32) {j : Nat} (hj : j < 32) : bt (x ^^^ (-1)) j = !bt x j := by
  rw [b_xor, b_m1 j hj]
  simp
theorem tw_lt32 {x : Int32} {j : Nat} (h : bt x j = true) : j < 32 := by
  rcases Nat.lt_or_ge j 32 with hj | hj
  · exact hj
  · rw [b_big hj] at h; exact Bool.noConfusion h
theorem tw_beq {a b : Bool} (h : a = true ↔ b = true) : a = b := by
  cases a <;> cases b <;> simp at h ⊢
theorem tw_extP {x y : Int32} (h : ∀ j, j < 32 → (bt x j = true ↔ bt y j = true)) : x = y := b_ext (fun j hj => tw_beq (h j hj))
/-! ===== minterms ===== -/
def tw_at (m i : Nat) : Nat := 2 * i + m / 2 ^ i % 2
theorem tw_at_lt {m i n : Nat} (h : i < n) : tw_at m i < 2 * n := by
  unfold tw_at
  have : m / 2 ^ i % 2 < 2 := Nat.mod_lt _ (by decide)
  omega
def tw_pm (m : Nat) : Nat → Int32
  | 0 => 0
  | i + 1 => tw_pm m i ||| ((1 : Int32) <<< (nI (tw_at m i) &&& 31))
theorem tw_pm_b (m : Nat) : ∀ n, n ≤ 16 → ∀ j, j < 32 → (bt (tw_pm m n) j = true ↔ ∃ i, i < n ∧ j = tw_at m i) := by
  intro n
  induction n with
  | zero =>
    intro _ j _
    show bt 0 j = true ↔ _
    rw [b_0]
    constructor
    · intro h; exact Bool.noConfusion h
    · intro ⟨i, hi, _⟩; omega
  | succ n ih =>
    intro hn j hj
    have h1 : tw_at m n < 32 := by have := tw_at_lt (m := m) (Nat.lt_succ_self n); omega
    show bt (tw_pm m n ||| _) j = true ↔ _
    rw [b_or, tw_bsh _ h1 j hj, Bool.or_eq_true, ih (by omega) j hj, decide_eq_true_eq]
    constructor
    · rintro (⟨i, hi, e⟩ | e)
      · exact ⟨i, by omega, e⟩
      · exact ⟨n, by omega, e⟩
    · intro ⟨i, hi, e⟩
      by_cases h : i = n
      · subst h; exact Or.inr e
      · exact Or.inl ⟨i, by omega, e⟩
/-- the input part I of a cube lets the minterm m in -/
def tw_ct (n : Nat) (I : Int32) (m : Nat) : Prop := ∀ i, i < n → bt I (tw_at m i) = true
theorem tw_pm_ct {n m : Nat} {I : Int32} (hn : n ≤ 16) : (I &&& tw_pm m n) = tw_pm m n ↔ tw_ct n I m := by
  rw [tw_sub]
  constructor
  · intro h i hi
    have hl : tw_at m i < 32 := by have := tw_at_lt (m := m) hi; omega
    exact h _ hl ((tw_pm_b m n hn _ hl).mpr ⟨i, hi, rfl⟩)
  · intro h j hj hb
    obtain ⟨i, hi, e⟩ := (tw_pm_b m n hn j hj).mp hb
    rw [e]; exact h i hi
/-! ===== lists of cubes ===== -/
def tw_ls (a b : Nat → Int32) : Nat → Nat → List (Int32 × Int32)
  | _, 0 => []
  | s, l + 1 => (a s, b s) :: tw_ls a b (s + 1) l
theorem tw_ls_len (a b : Nat → Int32) : ∀ l s, (tw_ls a b s l).length = l := by
  intro l
  induction l with
  | zero => intro s; rfl
  | succ l ih => intro s; show (tw_ls a b (s + 1) l).length + 1 = l + 1; rw [ih]
theorem tw_ls_mem (a b : Nat → Int32) {c : Int32 × Int32} : ∀ l s, c ∈ tw_ls a b s l ↔ ∃ k, s ≤ k ∧ k < s + l ∧ c = (a k, b k) := by
  intro l
  induction l with
  | zero =>
    intro s
    constructor
    · intro h; cases h
    · intro ⟨k, h1, h2, _⟩; omega
  | succ l ih =>
    intro s
    show c ∈ (a s, b s) :: tw_ls a b (s + 1) l ↔ _
    rw [List.mem_cons, ih]
    constructor
    · rintro (e | ⟨k, h1, h2, e⟩)
      · exact ⟨s, by omega, by omega, e⟩
      · exact ⟨k, by omega, by omega, e⟩
    · intro ⟨k, h1, h2, e⟩
      by_cases h : k = s
      · subst h; exact Or.inl e
      · exact Or.inr ⟨k, by omega, by omega, e⟩
theorem tw_ls_app (a b : Nat → Int32) : ∀ l s r, tw_ls a b s (l + r) = tw_ls a b s l ++ tw_ls a b (s + l) r := by
  intro l
  induction l with
  | zero => intro s r; rw [Nat.zero_add, Nat.add_zero]; rfl
  | succ l ih =>
    intro s r
    rw [show l + 1 + r = (l + r) + 1 from by omega]
    show (a s, b s) :: tw_ls a b (s + 1) (l + r) = (a s, b s) :: (tw_ls a b (s + 1) l ++ tw_ls a b (s + (l + 1)) r)
    rw [ih, show s + 1 + l = s + (l + 1) from by omega]
theorem tw_ls_ext {a b a' b' : Nat → Int32} : ∀ l s s', (∀ k, k < l → a' (s' + k) = a (s + k) ∧ b' (s' + k) = b (s + k)) → tw_ls a' b' s' l = tw_ls a b s l := by
  intro l
  induction l with
  | zero => intro s s' _; rfl
  | succ l ih =>
    intro s s' h
    show (a' s', b' s') :: tw_ls a' b' (s' + 1) l = (a s, b s) :: tw_ls a b (s + 1) l
    have h0 := h 0 (by omega)
    rw [Nat.add_zero, Nat.add_zero] at h0
    rw [h0.1, h0.2, ih (s + 1) (s' + 1)]
    intro k hk
    have h1 := h (k + 1) (by omega)
    rw [show s' + 1 + k = s' + (k + 1) from by omega, show s + 1 + k = s + (k + 1) from by omega]
    exact h1
theorem tw_ls_inj {a b a' b' : Nat → Int32} : ∀ l s s', tw_ls a' b' s' l = tw_ls a b s l → ∀ k, k < l → a' (s' + k) = a (s + k) ∧ b' (s' + k) = b (s + k) := by
  intro l
  induction l with
  | zero => intro s s' _ k hk; omega
  | succ l ih =>
    intro s s' h k hk
    have h2 : (a' s', b' s') :: tw_ls a' b' (s' + 1) l = (a s, b s) :: tw_ls a b (s + 1) l := h
    obtain ⟨h3, h4⟩ := List.cons.inj h2
    cases k with
    | zero => rw [Nat.add_zero, Nat.add_zero]; exact ⟨congrArg Prod.fst h3, congrArg Prod.snd h3⟩
    | succ k =>
      have h5 := ih (s + 1) (s' + 1) h4 k (by omega)
      rw [show s' + 1 + k = s' + (k + 1) from by omega, show s + 1 + k = s + (k + 1) from by omega] at h5
      exact h5
/-- the point (m, o) lies in a cube of the list -/
def tw_hit (n : Nat) (L : List (Int32 × Int32)) (m o : Nat) : Prop := ∃ c, c ∈ L ∧ tw_ct n c.1 m ∧ bt c.2 o = true
theorem tw_hit_app {n : Nat} {A B : List (Int32 × Int32)} {m o : Nat} : tw_hit n (A ++ B) m o ↔ tw_hit n A m o ∨ tw_hit n B m o := by
  constructor
  · intro ⟨c, h, h2⟩
    rcases List.mem_append.mp h with h3 | h3
    · exact Or.inl ⟨c, h3, h2⟩
    · exact Or.inr ⟨c, h3, h2⟩
  · rintro (⟨c, h, h2⟩ | ⟨c, h, h2⟩)
    · exact ⟨c, List.mem_append.mpr (Or.inl h), h2⟩
    · exact ⟨c, List.mem_append.mpr (Or.inr h), h2⟩
theorem tw_hit_ls {n : Nat} {a b : Nat → Int32} {s l m o : Nat} : tw_hit n (tw_ls a b s l) m o ↔ ∃ k, s ≤ k ∧ k < s + l ∧ tw_ct n (a k) m ∧ bt (b k) o = true := by
  constructor
  · intro ⟨c, h, h2, h3⟩
    obtain ⟨k, h4, h5, e⟩ := (tw_ls_mem a b l s).mp h
    subst e
    exact ⟨k, h4, h5, h2, h3⟩
  · intro ⟨k, h4, h5, h2, h3⟩
    exact ⟨(a k, b k), (tw_ls_mem a b l s).mpr ⟨k, h4, h5, rfl⟩, h2, h3⟩
/-- no mask of the list has a bit at q or above -/
def tw_val (q : Nat) (L : List (Int32 × Int32)) : Prop := ∀ c, c ∈ L → ∀ o, bt c.2 o = true → o < q
def tw_imp (n q : Nat) (P D : List (Int32 × Int32)) (I O : Int32) : Prop := ∀ m, m < 2 ^ n → ∀ o, o < q → tw_ct n I m → bt O o = true → tw_hit n P m o ∨ tw_hit n D m o
def tw_own (n : Nat) (P D : List (Int32 × Int32)) (c : Int32 × Int32) (R : List (Int32 × Int32)) (m o : Nat) : Prop := tw_ct n c.1 m ∧ bt c.2 o = true ∧ (tw_hit n P m o ∧ ¬ tw_hit n D m o) ∧ ¬ tw_hit n R m o
def tw_has (n q : Nat) (P D : List (Int32 × Int32)) (c : Int32 × Int32) (R : List (Int32 × Int32)) : Prop := ∃ m, m < 2 ^ n ∧ ∃ o, o < q ∧ tw_own n P D c R m o
noncomputable def tw_if {α : Type} (p : Prop) (x y : α) : α := @ite α p (Classical.propDecidable p) x y
theorem tw_if_t {α : Type} {p : Prop} {x y : α} (h : p) : tw_if p x y = x := if_pos h
theorem tw_if_f {α : Type} {p : Prop} {x y : α} (h : ¬ p) : tw_if p x y = y := if_neg h
noncomputable def tw_mk (p : Nat → Prop) : Nat → Int32
  | 0 => 0
  | k + 1 => tw_mk p k ||| tw_if (p k) ((1 : Int32) <<< (nI k &&& 31)) 0
theorem tw_mk_b (p : Nat → Prop) : ∀ n, n ≤ 32 → ∀ j, j < 32 → (bt (tw_mk p n) j = true ↔ j < n ∧ p j) := by
  intro n
  induction n with
  | zero =>
    intro _ j _
    show bt 0 j = true ↔ _
    rw [b_0]
    constructor
    · intro h; exact Bool.noConfusion h
    · intro ⟨h, _⟩; omega
  | succ n ih =>
    intro hn j hj
    show bt (tw_mk p n ||| _) j = true ↔ _
    rw [b_or, Bool.or_eq_true, ih (by omega) j hj]
    by_cases hp : p n
    · rw [tw_if_t hp, tw_bsh n (by omega) j hj, decide_eq_true_eq]
      constructor
      · rintro (⟨h1, h2⟩ | e)
        · exact ⟨by omega, h2⟩
        · subst e; exact ⟨by omega, hp⟩
      · intro ⟨h1, h2⟩
        by_cases e : j = n
        · exact Or.inr e
        · exact Or.inl ⟨by omega, h2⟩
    · rw [tw_if_f hp, b_0]
      constructor
      · rintro (⟨h1, h2⟩ | e)
        · exact ⟨by omega, h2⟩
        · exact Bool.noConfusion e
      · intro ⟨h1, h2⟩
        by_cases e : j = n
        · subst e; exact absurd h2 hp
        · exact Or.inl ⟨by omega, h2⟩
/-- the cube that reduce puts in the place of c, beside the others R -/
noncomputable def tw_rc (n q : Nat) (P D : List (Int32 × Int32)) (c : Int32 × Int32) (R : List (Int32 × Int32)) : Int32 × Int32 :=
  (tw_mk (fun j => ∃ m, m < 2 ^ n ∧ (∃ o, o < q ∧ tw_own n P D c R m o) ∧ ∃ i, i < n ∧ j = tw_at m i) 32, tw_mk (fun o => o < q ∧ ∃ m, m < 2 ^ n ∧ tw_own n P D c R m o) 32)
noncomputable def tw_ri (n q : Nat) (P D : List (Int32 × Int32)) (O : Int32) (I : Int32) : Nat → Int32
  | 0 => I
  | i + 1 => tw_if (tw_imp n q P D (tw_ri n q P D O I i ||| ((3 : Int32) <<< (nI (2 * i) &&& 31))) O) (tw_ri n q P D O I i ||| ((3 : Int32) <<< (nI (2 * i) &&& 31))) (tw_ri n q P D O I i)
noncomputable def tw_ro (n q : Nat) (P D : List (Int32 × Int32)) (I : Int32) (O : Int32) : Nat → Int32
  | 0 => O
  | o + 1 => tw_if (tw_imp n q P D I (tw_ro n q P D I O o ||| ((1 : Int32) <<< (nI o &&& 31)))) (tw_ro n q P D I O o ||| ((1 : Int32) <<< (nI o &&& 31))) (tw_ro n q P D I O o)
noncomputable def tw_rz (n q : Nat) (P D : List (Int32 × Int32)) (c : Int32 × Int32) : Int32 × Int32 :=
  (tw_ri n q P D c.2 c.1 n, tw_ro n q P D (tw_ri n q P D c.2 c.1 n) c.2 q)
/-- d lies inside c -/
def tw_ins (c d : Int32 × Int32) : Prop := (∀ j, j < 32 → bt d.1 j = true → bt c.1 j = true) ∧ (∀ j, j < 32 → bt d.2 j = true → bt c.2 j = true)
noncomputable def tw_fl (c : Int32 × Int32) : List (Int32 × Int32) → List (Int32 × Int32)
  | [] => []
  | d :: L => tw_if (tw_ins c d) (tw_fl c L) (d :: tw_fl c L)
theorem tw_fl_len (c : Int32 × Int32) : ∀ L, (tw_fl c L).length ≤ L.length := by
  intro L
  induction L with
  | nil => exact Nat.le_refl _
  | cons d L ih =>
    show (tw_if (tw_ins c d) (tw_fl c L) (d :: tw_fl c L)).length ≤ L.length + 1
    by_cases h : tw_ins c d
    · rw [tw_if_t h]; omega
    · rw [tw_if_f h, List.length_cons]; omega
theorem tw_fl_app (c : Int32 × Int32) (B : List (Int32 × Int32)) : ∀ A, tw_fl c (A ++ B) = tw_fl c A ++ tw_fl c B := by
  intro A
  induction A with
  | nil => rfl
  | cons d L ih =>
    show tw_if (tw_ins c d) (tw_fl c (L ++ B)) (d :: tw_fl c (L ++ B)) = tw_if (tw_ins c d) (tw_fl c L) (d :: tw_fl c L) ++ tw_fl c B
    by_cases h : tw_ins c d
    · rw [tw_if_t h, tw_if_t h, ih]
    · rw [tw_if_f h, tw_if_f h, ih]; rfl
theorem tw_fl_mem {c d : Int32 × Int32} : ∀ L, d ∈ tw_fl c L → d ∈ L := by
  intro L
  induction L with
  | nil => intro h; exact h
  | cons e L ih =>
    show d ∈ tw_if (tw_ins c e) (tw_fl c L) (e :: tw_fl c L) → _
    by_cases h : tw_ins c e
    · rw [tw_if_t h]; intro h2; exact List.mem_cons_of_mem _ (ih h2)
    · rw [tw_if_f h]
      intro h2
      rcases List.mem_cons.mp h2 with e2 | h3
      · rw [e2]; exact List.mem_cons_self
      · exact List.mem_cons_of_mem _ (ih h3)
/-- expand: the settled cubes A, the cubes still to be looked at T -/
noncomputable def tw_ex (n q : Nat) (P D : List (Int32 × Int32)) : Nat → List (Int32 × Int32) → List (Int32 × Int32) → List (Int32 × Int32)
  | 0, A, T => A ++ T
  | _ + 1, A, [] => A
  | f + 1, A, c :: T => tw_ex n q P D f (tw_fl (tw_rz n q P D c) A ++ [tw_rz n q P D c]) (tw_fl (tw_rz n q P D c) T)
noncomputable def tw_ir (n q : Nat) (P D : List (Int32 × Int32)) : List (Int32 × Int32) → List (Int32 × Int32) → List (Int32 × Int32)
  | A, [] => A
  | A, c :: T => tw_if (tw_has n q P D c (A ++ T)) (tw_ir n q P D (A ++ [c]) T) (tw_ir n q P D A T)
noncomputable def tw_rd (n q : Nat) (P D : List (Int32 × Int32)) : List (Int32 × Int32) → List (Int32 × Int32) → List (Int32 × Int32)
  | A, [] => A
  | A, c :: T => tw_if (tw_has n q P D c (A ++ T)) (tw_rd n q P D (A ++ [tw_rc n q P D c (A ++ T)]) T) (tw_rd n q P D A T)
/-- literals -/
def tw_lc (I : Int32) : Nat → Nat
  | 0 => 0
  | i + 1 => tw_lc I i + (if bt I (2 * i) = bt I (2 * i + 1) then 0 else 1)
def tw_li (n : Nat) : List (Int32 × Int32) → Nat
  | [] => 0
  | c :: L => tw_lc c.1 n + tw_li n L
theorem tw_lc_le (I : Int32) : ∀ n, tw_lc I n ≤ n := by
  intro n
  induction n with
  | zero => exact Nat.le_refl _
  | succ n ih =>
    show tw_lc I n + (if bt I (2 * n) = bt I (2 * n + 1) then 0 else 1) ≤ n + 1
    by_cases h : bt I (2 * n) = bt I (2 * n + 1)
    · rw [if_pos h]; omega
    · rw [if_neg h]; omega
theorem tw_li_le (n : Nat) : ∀ L, tw_li n L ≤ n * L.length := by
  intro L
  induction L with
  | nil => exact Nat.zero_le _
  | cons c L ih =>
    show tw_lc c.1 n + tw_li n L ≤ n * (L.length + 1)
    have := tw_lc_le c.1 n
    rw [Nat.mul_add]
    omega
theorem tw_li_app (n : Nat) (B : List (Int32 × Int32)) : ∀ A, tw_li n (A ++ B) = tw_li n A + tw_li n B := by
  intro A
  induction A with
  | nil => show tw_li n B = 0 + tw_li n B; omega
  | cons c L ih =>
    show tw_lc c.1 n + tw_li n (L ++ B) = tw_lc c.1 n + tw_li n L + tw_li n B
    rw [ih]; omega
end
section
/-! what the passes keep: lengths, and no bit of a mask at q or above -/
theorem tw_val_app {q : Nat} {A B : List (Int32 × Int32)} (ha : tw_val q A) (hb : tw_val q B) : tw_val q (A ++ B) := by
  intro c hc
  rcases List.mem_append.mp hc with h | h
  · exact ha c h
  · exact hb c h
theorem tw_val_l {q : Nat} {A B : List (Int32 × Int32)} (h : tw_val q (A ++ B)) : tw_val q A := fun c hc => h c (List.mem_append.mpr (Or.inl hc))
theorem tw_val_r {q : Nat} {A B : List (Int32 × Int32)} (h : tw_val q (A ++ B)) : tw_val q B := fun c hc => h c (List.mem_append.mpr (Or.inr hc))
theorem tw_val_nil {q : Nat} : tw_val q [] := fun c hc => by cases hc
theorem tw_val_1 {q : Nat} {c : Int32 × Int32} (h : ∀ o, bt c.2 o = true → o < q) : tw_val q [c] := fun d hd => by
  rw [List.mem_singleton.mp hd]; exact h
theorem tw_val_fl {q : Nat} {c : Int32 × Int32} {L : List (Int32 × Int32)} (h : tw_val q L) : tw_val q (tw_fl c L) := fun d hd => h d (tw_fl_mem L hd)
theorem tw_ro_ok {n q : Nat} {P D : List (Int32 × Int32)} {I O : Int32} (hq : q ≤ 4) (h : ∀ o, bt O o = true → o < q) : ∀ k, k ≤ q → ∀ o, bt (tw_ro n q P D I O k) o = true → o < q := by
  intro k
  induction k with
  | zero => intro _ o ho; exact h o ho
  | succ k ih =>
    intro hk o ho
    have ho2 : bt (tw_if (tw_imp n q P D I (tw_ro n q P D I O k ||| ((1 : Int32) <<< (nI k &&& 31)))) (tw_ro n q P D I O k ||| ((1 : Int32) <<< (nI k &&& 31))) (tw_ro n q P D I O k)) o = true := ho
    by_cases hi : tw_imp n q P D I (tw_ro n q P D I O k ||| ((1 : Int32) <<< (nI k &&& 31)))
    · rw [tw_if_t hi] at ho2
      have hl := tw_lt32 ho2
      rw [b_or, tw_bsh k (by omega) o hl, Bool.or_eq_true, decide_eq_true_eq] at ho2
      rcases ho2 with h2 | h2
      · exact ih (by omega) o h2
      · omega
    · rw [tw_if_f hi] at ho2
      exact ih (by omega) o ho2
theorem tw_rz_ok {n q : Nat} {P D : List (Int32 × Int32)} {c : Int32 × Int32} (hq : q ≤ 4) (h : ∀ o, bt c.2 o = true → o < q) : ∀ o, bt (tw_rz n q P D c).2 o = true → o < q := tw_ro_ok hq h q (Nat.le_refl _)
theorem tw_rc_ok {n q : Nat} {P D : List (Int32 × Int32)} {c : Int32 × Int32} {R : List (Int32 × Int32)} : ∀ o, bt (tw_rc n q P D c R).2 o = true → o < q := fun o ho => ((tw_mk_b _ 32 (Nat.le_refl _) o (tw_lt32 ho)).mp ho).2.1
theorem tw_val_c {q : Nat} {c : Int32 × Int32} {T : List (Int32 × Int32)} (h : tw_val q (c :: T)) : (∀ o, bt c.2 o = true → o < q) ∧ tw_val q T := ⟨h c List.mem_cons_self, fun d hd => h d (List.mem_cons_of_mem _ hd)⟩
theorem tw_ex_keep {n q : Nat} {P D : List (Int32 × Int32)} (hq : q ≤ 4) : ∀ f A T, tw_val q A → tw_val q T → tw_val q (tw_ex n q P D f A T) ∧ (tw_ex n q P D f A T).length ≤ A.length + T.length := by
  intro f
  induction f with
  | zero => intro A T ha ht; exact ⟨tw_val_app ha ht, by rw [show tw_ex n q P D 0 A T = A ++ T from by simp only [tw_ex], List.length_append]; exact Nat.le_refl _⟩
  | succ f ih =>
    intro A T ha ht
    cases T with
    | nil => exact ⟨by simp only [tw_ex]; exact ha, by simp only [tw_ex]; omega⟩
    | cons c T =>
      obtain ⟨h1, h2⟩ := tw_val_c ht
      obtain ⟨h3, h4⟩ := ih (tw_fl (tw_rz n q P D c) A ++ [tw_rz n q P D c]) (tw_fl (tw_rz n q P D c) T) (tw_val_app (tw_val_fl ha) (tw_val_1 (tw_rz_ok hq h1))) (tw_val_fl h2)
      simp only [tw_ex]
      refine ⟨h3, ?_⟩
      have l1 := tw_fl_len (tw_rz n q P D c) A
      have l2 := tw_fl_len (tw_rz n q P D c) T
      rw [List.length_append, List.length_singleton] at h4
      rw [List.length_cons]
      omega
theorem tw_ir_keep {n q : Nat} {P D : List (Int32 × Int32)} : ∀ T A, tw_val q A → tw_val q T → tw_val q (tw_ir n q P D A T) ∧ (tw_ir n q P D A T).length ≤ A.length + T.length := by
  intro T
  induction T with
  | nil => intro A ha _; simp only [tw_ir]; exact ⟨ha, by omega⟩
  | cons c T ih =>
    intro A ha ht
    obtain ⟨h1, h2⟩ := tw_val_c ht
    simp only [tw_ir]
    by_cases h : tw_has n q P D c (A ++ T)
    · rw [tw_if_t h]
      obtain ⟨h3, h4⟩ := ih (A ++ [c]) (tw_val_app ha (tw_val_1 h1)) h2
      refine ⟨h3, ?_⟩
      rw [List.length_append, List.length_singleton] at h4
      rw [List.length_cons]
      omega
    · rw [tw_if_f h]
      obtain ⟨h3, h4⟩ := ih A ha h2
      refine ⟨h3, ?_⟩
      rw [List.length_cons]
      omega
theorem tw_rd_keep {n q : Nat} {P D : List (Int32 × Int32)} : ∀ T A, tw_val q A → tw_val q T → tw_val q (tw_rd n q P D A T) ∧ (tw_rd n q P D A T).length ≤ A.length + T.length := by
  intro T
  induction T with
  | nil => intro A ha _; simp only [tw_rd]; exact ⟨ha, by omega⟩
  | cons c T ih =>
    intro A ha ht
    obtain ⟨h1, h2⟩ := tw_val_c ht
    simp only [tw_rd]
    by_cases h : tw_has n q P D c (A ++ T)
    · rw [tw_if_t h]
      obtain ⟨h3, h4⟩ := ih (A ++ [tw_rc n q P D c (A ++ T)]) (tw_val_app ha (tw_val_1 tw_rc_ok)) h2
      refine ⟨h3, ?_⟩
      rw [List.length_append, List.length_singleton] at h4
      rw [List.length_cons]
      omega
    · rw [tw_if_f h]
      obtain ⟨h3, h4⟩ := ih A ha h2
      refine ⟨h3, ?_⟩
      rw [List.length_cons]
      omega
end
section
/-! fields of two bits, single bits, small shifts -/
theorem tw_fd (I : Int32) (k : Nat) (hk : k + 1 < 32) : (I >>> (nI k &&& 31)) &&& 3 = (if bt I k = true then 1 else 0) ||| (if bt I (k + 1) = true then 2 else 0) := by
  apply b_ext
  intro j hj
  rw [b_and, b_sshr k (by omega) I hj, tw_b3, b_or]
  rcases Nat.lt_or_ge j 2 with h | h
  · rw [if_pos (by omega), decide_eq_true h, Bool.and_true]
    have h2 : j = 0 ∨ j = 1 := by omega
    rcases h2 with e | e
    · subst e
      rw [Nat.add_zero]
      cases hb : bt I k <;> cases hc : bt I (k + 1) <;> simp [tw_b1, tw_b2, b_0]
    · subst e
      cases hb : bt I k <;> cases hc : bt I (k + 1) <;> simp [tw_b1, tw_b2, b_0]
  · rw [decide_eq_false (by omega), Bool.and_false]
    have h0 : ¬ j = 0 := by omega
    have h1 : ¬ j = 1 := by omega
    cases hb : bt I k <;> cases hc : bt I (k + 1) <;> simp [tw_b1, tw_b2, b_0, h0, h1]
theorem tw_fd0 (I : Int32) (k : Nat) (hk : k + 1 < 32) : (I >>> (nI k &&& 31)) &&& 3 = 0 ↔ ¬ (bt I k = true ∨ bt I (k + 1) = true) := by
  rw [tw_fd I k hk]
  cases hb : bt I k <;> cases hc : bt I (k + 1) <;> simp <;> decide
theorem tw_fd1 (I : Int32) (k : Nat) (hk : k + 1 < 32) : (I >>> (nI k &&& 31)) &&& 3 = 1 ↔ (bt I k = true ∧ bt I (k + 1) = false) := by
  rw [tw_fd I k hk]
  cases hb : bt I k <;> cases hc : bt I (k + 1) <;> simp <;> decide
theorem tw_fd2 (I : Int32) (k : Nat) (hk : k + 1 < 32) : (I >>> (nI k &&& 31)) &&& 3 = 2 ↔ (bt I k = false ∧ bt I (k + 1) = true) := by
  rw [tw_fd I k hk]
  cases hb : bt I k <;> cases hc : bt I (k + 1) <;> simp <;> decide
theorem tw_fd3 (I : Int32) (k : Nat) (hk : k + 1 < 32) : (I >>> (nI k &&& 31)) &&& 3 = 3 ↔ (bt I k = true ∧ bt I (k + 1) = true) := by
  rw [tw_fd I k hk]
  cases hb : bt I k <;> cases hc : bt I (k + 1) <;> simp <;> decide
theorem tw_bit1 (x : Int32) (k : Nat) (hk : k < 32) : (x >>> (nI k &&& 31)) &&& 1 = if bt x k = true then 1 else 0 := by
  apply b_ext
  intro j hj
  rw [b_and, b_sshr k hk x hj, tw_b1]
  by_cases h : j = 0
  · subst h
    rw [Nat.add_zero, if_pos hk]
    cases hb : bt x k <;> simp [tw_b1, b_0]
  · rw [decide_eq_false h, Bool.and_false]
    cases hb : bt x k <;> simp [tw_b1, b_0, h]
theorem tw_p2 : ∀ n, n < 31 → (1 : Int32) <<< (nI n &&& 31) = nI (2 ^ n) := by decide +kernel
theorem tw_mbit {m i : Nat} (hm : m < 2 ^ 31) (hi : i < 31) : (nI m >>> (nI i &&& 31)) &&& 1 = nI (m / 2 ^ i % 2) := by
  rw [pk_shrN hm (nI i &&& 31) i (s_l i (by omega))]
  have h : m / 2 ^ i ≤ m := Nat.div_le_self _ _
  exact pk_andN (by omega) 1 (by decide)
theorem tw_2x (i : Nat) : 2 * nI i = nI (2 * i) := pk_mul 2 i
theorem tw_pow8 {n : Nat} (h : n ≤ 8) : 2 ^ n ≤ 256 := Nat.pow_le_pow_right (by decide) h
theorem tw_raise {I : Int32} {i : Nat} (hi : 2 * i + 1 < 32) : (I ||| ((3 : Int32) <<< (nI (2 * i) &&& 31))) = I ↔ (bt I (2 * i) = true ∧ bt I (2 * i + 1) = true) := by
  constructor
  · intro h
    have h0 : bt (I ||| ((3 : Int32) <<< (nI (2 * i) &&& 31))) (2 * i) = bt I (2 * i) := by rw [h]
    have h1 : bt (I ||| ((3 : Int32) <<< (nI (2 * i) &&& 31))) (2 * i + 1) = bt I (2 * i + 1) := by rw [h]
    rw [b_or, tw_b3sh _ (by omega) _ (by omega), decide_eq_true (Or.inl rfl), Bool.or_true] at h0
    rw [b_or, tw_b3sh _ (by omega) _ (by omega), decide_eq_true (Or.inr rfl), Bool.or_true] at h1
    exact ⟨h0.symm, h1.symm⟩
  · intro ⟨h0, h1⟩
    apply b_ext
    intro j hj
    rw [b_or, tw_b3sh _ (by omega) j hj]
    by_cases h : j = 2 * i ∨ j = 2 * i + 1
    · rw [decide_eq_true h, Bool.or_true]
      rcases h with e | e
      · rw [e, h0]
      · rw [e, h1]
    · rw [decide_eq_false h, Bool.or_false]
theorem tw_raiseO {O : Int32} {o : Nat} (ho : o < 32) : (O ||| ((1 : Int32) <<< (nI o &&& 31))) = O ↔ bt O o = true := by
  constructor
  · intro h
    have h0 : bt (O ||| ((1 : Int32) <<< (nI o &&& 31))) o = bt O o := by rw [h]
    rw [b_or, tw_bsh _ ho _ ho, decide_eq_true rfl, Bool.or_true] at h0
    exact h0.symm
  · intro h0
    apply b_ext
    intro j hj
    rw [b_or, tw_bsh _ ho j hj]
    by_cases h : j = o
    · rw [decide_eq_true h, Bool.or_true, h, h0]
    · rw [decide_eq_false h, Bool.or_false]
end
section
/-! arrays as lists of cubes: writing, removing, keeping what is not inside -/
theorem tw_ls_snoc (a b : Nat → Int32) (s l : Nat) : tw_ls a b s (l + 1) = tw_ls a b s l ++ [(a (s + l), b (s + l))] := tw_ls_app a b l s 1
theorem tw_ls_eq {a b a' b' : Nat → Int32} {l s : Nat} (h : ∀ k, s ≤ k → k < s + l → a' k = a k ∧ b' k = b k) : tw_ls a' b' s l = tw_ls a b s l := tw_ls_ext l s s (fun k hk => h (s + k) (by omega) (by omega))
theorem tw_ls_put (a b : Nat → Int32) (k : Nat) (x y : Int32) : tw_ls (upd a k x) (upd b k y) 0 (k + 1) = tw_ls a b 0 k ++ [(x, y)] := by
  rw [tw_ls_snoc, Nat.zero_add, pk_us, pk_us, tw_ls_eq (a := a) (b := b)]
  intro j _ hj
  exact ⟨pk_un (by omega), pk_un (by omega)⟩
/-- a list cut at a position -/
theorem tw_ls_cut (a b : Nat → Int32) {p c : Nat} (h : p < c) : tw_ls a b 0 c = tw_ls a b 0 p ++ (a p, b p) :: tw_ls a b (p + 1) (c - p - 1) := by
  obtain ⟨r, rfl⟩ : ∃ r, c = p + (r + 1) := ⟨c - p - 1, by omega⟩
  rw [tw_ls_app, Nat.zero_add, show p + (r + 1) - p - 1 = r from by omega]
  rfl
theorem tw_ls_set (a b : Nat → Int32) {p c : Nat} (x y : Int32) (h : p < c) : tw_ls (upd a p x) (upd b p y) 0 c = tw_ls a b 0 p ++ (x, y) :: tw_ls a b (p + 1) (c - p - 1) := by
  rw [tw_ls_cut _ _ h, pk_us, pk_us, tw_ls_eq (a := a) (b := b) (l := p), tw_ls_eq (a := a) (b := b) (l := c - p - 1)]
  · intro k h1 h2; exact ⟨pk_un (by omega), pk_un (by omega)⟩
  · intro k h1 h2; exact ⟨pk_un (by omega), pk_un (by omega)⟩
/-- what stays when the cubes inside c go, but for the keeper itself -/
noncomputable def tw_G (c : Int32 × Int32) (p : Nat) (a b : Nat → Int32) : Nat → List (Int32 × Int32)
  | 0 => []
  | k + 1 => tw_if (k = p ∨ ¬ tw_ins c (a k, b k)) (tw_G c p a b k ++ [(a k, b k)]) (tw_G c p a b k)
theorem tw_G_len (c : Int32 × Int32) (p : Nat) (a b : Nat → Int32) : ∀ k, (tw_G c p a b k).length ≤ k := by
  intro k
  induction k with
  | zero => exact Nat.le_refl _
  | succ k ih =>
    show (tw_if (k = p ∨ ¬ tw_ins c (a k, b k)) (tw_G c p a b k ++ [(a k, b k)]) (tw_G c p a b k)).length ≤ k + 1
    by_cases h : k = p ∨ ¬ tw_ins c (a k, b k)
    · rw [tw_if_t h, List.length_append, List.length_singleton]; omega
    · rw [tw_if_f h]; omega
theorem tw_fl_1 (c d : Int32 × Int32) : tw_fl c [d] = tw_if (tw_ins c d) [] [d] := rfl
theorem tw_G_lo (c : Int32 × Int32) (p : Nat) (a b : Nat → Int32) : ∀ k, k ≤ p → tw_G c p a b k = tw_fl c (tw_ls a b 0 k) := by
  intro k
  induction k with
  | zero => intro _; rfl
  | succ k ih =>
    intro hk
    rw [tw_ls_snoc, Nat.zero_add, tw_fl_app, tw_fl_1, ← ih (by omega)]
    show tw_if (k = p ∨ ¬ tw_ins c (a k, b k)) (tw_G c p a b k ++ [(a k, b k)]) (tw_G c p a b k) = _
    by_cases h : tw_ins c (a k, b k)
    · have h2 : ¬ (k = p ∨ ¬ tw_ins c (a k, b k)) := by
        rintro (e | e)
        · omega
        · exact e h
      rw [tw_if_f h2, tw_if_t h, List.append_nil]
    · rw [tw_if_t (Or.inr h), tw_if_f h]
theorem tw_G_hi (c : Int32 × Int32) (p : Nat) (a b : Nat → Int32) : ∀ j, tw_G c p a b (p + 1 + j) = tw_fl c (tw_ls a b 0 p) ++ [(a p, b p)] ++ tw_fl c (tw_ls a b (p + 1) j) := by
  intro j
  induction j with
  | zero =>
    show tw_if (p = p ∨ ¬ tw_ins c (a p, b p)) (tw_G c p a b p ++ [(a p, b p)]) (tw_G c p a b p) = _ ++ []
    rw [tw_if_t (Or.inl rfl), tw_G_lo c p a b p (Nat.le_refl _), List.append_nil]
  | succ j ih =>
    rw [tw_ls_snoc, tw_fl_app, tw_fl_1, ← List.append_assoc, ← ih]
    show tw_if (p + 1 + j = p ∨ ¬ tw_ins c (a (p + 1 + j), b (p + 1 + j))) (tw_G c p a b (p + 1 + j) ++ [(a (p + 1 + j), b (p + 1 + j))]) (tw_G c p a b (p + 1 + j)) = _
    by_cases h : tw_ins c (a (p + 1 + j), b (p + 1 + j))
    · have h2 : ¬ (p + 1 + j = p ∨ ¬ tw_ins c (a (p + 1 + j), b (p + 1 + j))) := by
        rintro (e | e)
        · omega
        · exact e h
      rw [tw_if_f h2, tw_if_t h, List.append_nil]
    · rw [tw_if_t (Or.inr h), tw_if_f h]
theorem tw_G_all (c : Int32 × Int32) {p n : Nat} (a b : Nat → Int32) (h : p < n) : tw_G c p a b n = tw_fl c (tw_ls a b 0 p) ++ [(a p, b p)] ++ tw_fl c (tw_ls a b (p + 1) (n - p - 1)) := by
  obtain ⟨r, rfl⟩ : ∃ r, n = p + 1 + r := ⟨n - p - 1, by omega⟩
  rw [tw_G_hi, show p + 1 + r - p - 1 = r from by omega]
/-- the arrays after the cube at p went -/
theorem tw_ls_rm {a b a' b' : Nat → Int32} {p c : Nat} (h : p < c) (h1 : ∀ k, k < p → a' k = a k ∧ b' k = b k) (h2 : ∀ k, p ≤ k → k < c - 1 → a' k = a (k + 1) ∧ b' k = b (k + 1)) : tw_ls a' b' 0 (c - 1) = tw_ls a b 0 p ++ tw_ls a b (p + 1) (c - p - 1) := by
  obtain ⟨r, rfl⟩ : ∃ r, c = p + (r + 1) := ⟨c - p - 1, by omega⟩
  rw [show p + (r + 1) - 1 = p + r from by omega, tw_ls_app, Nat.zero_add, show p + (r + 1) - p - 1 = r from by omega, tw_ls_eq (a := a) (b := b) (l := p), tw_ls_ext (a := a) (b := b) r (p + 1) p]
  · intro k hk
    have := h2 (p + k) (by omega) (by omega)
    rw [show p + 1 + k = p + k + 1 from by omega]
    exact this
  · intro k _ hk; exact h1 k (by omega)
end
section
/-! masks of outputs against points -/
theorem tw_subz {d c : Int32} : (d &&& (c ^^^ (-1))) = 0 ↔ ∀ j, j < 32 → bt d j = true → bt c j = true := by
  rw [tw_zero]
  constructor
  · intro h j hj hd
    have h2 := h j hj
    rw [b_and, tw_not c hj, hd, Bool.true_and] at h2
    cases hc : bt c j
    · rw [hc] at h2; exact Bool.noConfusion h2
    · rfl
  · intro h j hj
    rw [b_and, tw_not c hj]
    cases hd : bt d j
    · rfl
    · rw [h j hj hd]; rfl
theorem tw_insz {c d : Int32 × Int32} : tw_ins c d ↔ (d.1 &&& (c.1 ^^^ (-1))) = 0 ∧ (d.2 &&& (c.2 ^^^ (-1))) = 0 := by
  rw [tw_subz, tw_subz]
  exact Iff.rfl
theorem tw_impx {n q : Nat} {P D : List (Int32 × Int32)} {I O : Int32} (hq : q ≤ 4) (hO : ∀ o, bt O o = true → o < q) : tw_imp n q P D I O ↔ ∀ m, m < 2 ^ n → tw_ct n I m → ∀ o, o < 32 → bt O o = true → tw_hit n P m o ∨ tw_hit n D m o := by
  constructor
  · intro h m hm hc o _ ho
    exact h m hm o (hO o ho) hc ho
  · intro h m hm o ho hc hb
    exact h m hm hc o (by omega) hb
theorem tw_hasx {n q : Nat} {P D : List (Int32 × Int32)} {c : Int32 × Int32} {R : List (Int32 × Int32)} (hq : q ≤ 4) (hO : ∀ o, bt c.2 o = true → o < q) : tw_has n q P D c R ↔ ∃ m, m < 2 ^ n ∧ ∃ o, o < 32 ∧ tw_own n P D c R m o := by
  constructor
  · intro ⟨m, hm, o, ho, h⟩
    exact ⟨m, hm, o, by omega, h⟩
  · intro ⟨m, hm, o, ho, h⟩
    exact ⟨m, hm, o, hO o h.2.1, h⟩
theorem tw_rcx {n q : Nat} {P D : List (Int32 × Int32)} {c : Int32 × Int32} {R : List (Int32 × Int32)} {I O : Int32} (hq : q ≤ 4) (hO : ∀ o, bt c.2 o = true → o < q)
    (h1 : ∀ j, j < 32 → (bt I j = true ↔ ∃ m, m < 2 ^ n ∧ (∃ o, o < 32 ∧ tw_own n P D c R m o) ∧ ∃ i, i < n ∧ j = tw_at m i))
    (h2 : ∀ o, o < 32 → (bt O o = true ↔ ∃ m, m < 2 ^ n ∧ tw_own n P D c R m o)) : (I, O) = tw_rc n q P D c R := by
  unfold tw_rc
  refine Prod.ext ?_ ?_
  · apply tw_extP
    intro j hj
    rw [h1 j hj]
    dsimp only
    rw [tw_mk_b _ 32 (Nat.le_refl _) j hj]
    constructor
    · intro ⟨m, hm, ⟨o, ho, hw⟩, hi⟩
      exact ⟨hj, m, hm, ⟨o, hO o hw.2.1, hw⟩, hi⟩
    · intro ⟨_, m, hm, ⟨o, ho, hw⟩, hi⟩
      exact ⟨m, hm, ⟨o, by omega, hw⟩, hi⟩
  · apply tw_extP
    intro o ho
    rw [h2 o ho]
    dsimp only
    rw [tw_mk_b _ 32 (Nat.le_refl _) o ho]
    constructor
    · intro ⟨m, hm, hw⟩
      exact ⟨ho, hO o hw.2.1, m, hm, hw⟩
    · intro ⟨_, _, m, hm, hw⟩
      exact ⟨m, hm, hw⟩
/-- the mask of the outputs at which the cube c has the minterm for itself -/
theorem tw_ownx {n m : Nat} {P D R : List (Int32 × Int32)} {c : Int32 × Int32} {a d r : Int32} (hc : tw_ct n c.1 m)
    (ha : ∀ o, o < 32 → (bt a o = true ↔ tw_hit n P m o)) (hd : ∀ o, o < 32 → (bt d o = true ↔ tw_hit n D m o)) (hr : ∀ o, o < 32 → (bt r o = true ↔ tw_hit n R m o)) :
    ∀ o, o < 32 → (bt (((c.2 &&& a) &&& (d ^^^ (-1))) &&& (r ^^^ (-1))) o = true ↔ tw_own n P D c R m o) := by
  intro o ho
  rw [b_and, b_and, b_and, tw_not d ho, tw_not r ho, Bool.and_eq_true, Bool.and_eq_true, Bool.and_eq_true, ha o ho, Bool.not_eq_true', Bool.not_eq_true']
  have hd2 : bt d o = false ↔ ¬ tw_hit n D m o := by rw [← hd o ho]; cases bt d o <;> simp
  have hr2 : bt r o = false ↔ ¬ tw_hit n R m o := by rw [← hr o ho]; cases bt r o <;> simp
  rw [hd2, hr2]
  constructor
  · intro ⟨⟨⟨h1, h2⟩, h3⟩, h4⟩; exact ⟨hc, h1, ⟨h2, h3⟩, h4⟩
  · intro ⟨_, h1, ⟨h2, h3⟩, h4⟩; exact ⟨⟨⟨h1, h2⟩, h3⟩, h4⟩
theorem tw_offx {n m : Nat} {P D : List (Int32 × Int32)} {O a d : Int32}
    (ha : ∀ o, o < 32 → (bt a o = true ↔ tw_hit n P m o)) (hd : ∀ o, o < 32 → (bt d o = true ↔ tw_hit n D m o)) :
    (O &&& ((a ||| d) ^^^ (-1))) = 0 ↔ ∀ o, o < 32 → bt O o = true → tw_hit n P m o ∨ tw_hit n D m o := by
  rw [tw_subz]
  constructor
  · intro h o ho hb
    have h2 := h o ho hb
    rw [b_or, Bool.or_eq_true, ha o ho, hd o ho] at h2
    exact h2
  · intro h o ho hb
    rw [b_or, Bool.or_eq_true, ha o ho, hd o ho]
    exact h o ho hb
/-- hits among all cubes of the cover but the one at p -/
theorem tw_hit_but {n : Nat} {a b : Nat → Int32} {p c m o : Nat} (h : p < c) : tw_hit n (tw_ls a b 0 p ++ tw_ls a b (p + 1) (c - p - 1)) m o ↔ ∃ k, k < c ∧ k ≠ p ∧ tw_ct n (a k) m ∧ bt (b k) o = true := by
  rw [tw_hit_app, tw_hit_ls, tw_hit_ls]
  constructor
  · rintro (⟨k, h1, h2, h3⟩ | ⟨k, h1, h2, h3⟩)
    · exact ⟨k, by omega, by omega, h3⟩
    · exact ⟨k, by omega, by omega, h3⟩
  · intro ⟨k, h1, h2, h3⟩
    rcases Nat.lt_or_ge k p with h4 | h4
    · exact Or.inl ⟨k, by omega, by omega, h3⟩
    · exact Or.inr ⟨k, by omega, by omega, h3⟩
/-- literals by fields -/
theorem tw_lcf (I : Int32) (i : Nat) (hi : 2 * i + 1 < 32) : ((I >>> (nI (2 * i) &&& 31)) &&& 3 = 1 ∨ (I >>> (nI (2 * i) &&& 31)) &&& 3 = 2) ↔ ¬ bt I (2 * i) = bt I (2 * i + 1) := by
  rw [tw_fd1 I _ hi, tw_fd2 I _ hi]
  cases bt I (2 * i) <;> cases bt I (2 * i + 1) <;> simp
end
section
/-! the component's inner methods: each with a general post -/
/-- a valid input part, as both classes ask it -/
def tw_vi (n : Nat) (p : Int32) : Prop := ¬ p < 0 ∧ (p >>> ((2 * nI n) &&& 31)) = 0 ∧ ∀ j, j < n → ¬ ((p >>> ((2 * nI j) &&& 31)) &&& 3) = 0
def tw_vm (q : Nat) (p : Int32) : Prop := ∃ a, 1 ≤ a ∧ a < 2 ^ q ∧ p = nI a
theorem tw_pow4 {q : Nat} (h : q ≤ 4) : 2 ^ q ≤ 16 := Nat.pow_le_pow_right (by decide) h
theorem tw_ne1 {a : Nat} (h : a < 2 ^ 31) : ¬ nI a = -1 := by
  intro e
  have h2 : ¬ nI a < 0 := nI_pos h
  rw [e] at h2
  exact h2 (by decide)
section
variable {n q oc dc cc : Nat} {xc xp xs : Int32} {oI oO dI dO cI cO sI sO : Nat → Int32}
theorem xv_19 {post : Int32 → Prop} {p : Int32} (hn : n ≤ 8) : ∀ (f i : Nat), n < f + i → i ≤ n → ((∀ j, i ≤ j → j < n → ¬ ((p >>> ((2 * nI j) &&& 31)) &&& 3) = 0) → post 1) → ((∃ j, j < n ∧ ((p >>> ((2 * nI j) &&& 31)) &&& 3) = 0) → post 0) → wX_isInputPart_19 post p (nI n) (nI q) xc xp (nI oc) (nI dc) (nI cc) xs oI oO dI dO cI cO sI sO f (nI i) := by
  intro f
  induction f with
  | zero => intro i h1 h2; omega
  | succ f ih =>
    intro i h1 h2 k1 k0
    refine pk_le n i (fun h => k1 (fun j a b => absurd b (by omega))) (fun h => br_c (fun z => k0 ⟨i, h, z⟩) (fun z y ey => ?_))
    subst ey
    rw [nI_1]
    refine ih (i + 1) (by omega) (by omega) (fun hj => k1 (fun j a b => ?_)) k0
    by_cases e : j = i
    · rw [e]; exact z
    · exact hj j (by omega) b
theorem xv_isInputPart {post : Int32 → Prop} {p : Int32} (hn : n ≤ 8) (k1 : tw_vi n p → post 1) (k0 : ¬ tw_vi n p → post 0) : wpX_isInputPart post (nI n, nI q, xc, xp, nI oc, nI dc, nI cc, xs, oI, oO, dI, dO, cI, cO, sI, sO) p :=
  br_c (fun h => k0 (fun z => z.1 h)) (fun h => br_c (fun h2 => ⟨n + 1, xv_19 hn (n + 1) 0 (by omega) (by omega) (fun hj => k1 ⟨h, h2, fun j b => hj j (by omega) b⟩) (fun ⟨j, hj, z⟩ => k0 (fun v => v.2.2 j hj z))⟩) (fun h2 => k0 (fun z => h2 z.2.1)))
theorem xv_isOutputMask {post : Int32 → Prop} {p : Int32} (hq : q ≤ 4) (k1 : tw_vm q p → post 1) (k0 : ¬ tw_vm q p → post 0) : wpX_isOutputMask post (nI n, nI q, xc, xp, nI oc, nI dc, nI cc, xs, oI, oO, dI, dO, cI, cO, sI, sO) p := by
  have e : (1 : Int32) <<< (nI q &&& 31) = nI (2 ^ q) := tw_p2 q (by omega)
  have hp := tw_pow4 hq
  refine br_c (fun h => k0 ?_) (fun h => br_c (fun h2 => k0 ?_) (fun h2 => k1 ?_))
  · rintro ⟨a, h1, h2, rfl⟩
    exact absurd h (nI_nlt (b := 1) h1 (by omega))
  · rintro ⟨a, h1, h3, rfl⟩
    rw [e, nI_leI (by omega) (by omega)] at h2
    omega
  · have h0 : ¬ p < 0 := fun z => h (Int32.lt_trans z (by decide))
    obtain ⟨a, ha, rfl⟩ := nI_of h0
    have h3 : ¬ nI a < nI 1 := h
    rw [nI_ltI ha (by omega)] at h3
    rw [e, nI_leI (by omega) ha] at h2
    exact ⟨a, by omega, by omega, rfl⟩
theorem xv_placeFor {post : Int32 → Prop} {p0 p1 p2 : Int32} (hn : n ≤ 8) (hq : q ≤ 4) (ka : xp = 1 → post (-1)) (kb : ¬ xp = 1 → ¬ tw_vi n p0 → post (-2)) (kc : ¬ xp = 1 → tw_vi n p0 → ¬ tw_vm q p1 → post (-3)) (kd : ¬ xp = 1 → tw_vi n p0 → tw_vm q p1 → p2 < xc → post p2) (ke : ¬ xp = 1 → tw_vi n p0 → tw_vm q p1 → ¬ p2 < xc → post (-4)) : wpX_placeFor post (nI n, nI q, xc, xp, nI oc, nI dc, nI cc, xs, oI, oO, dI, dO, cI, cO, sI, sO) p0 p1 p2 :=
  br_c ka (fun h => xv_isInputPart hn (fun hv => br_f (by decide) (xv_isOutputMask hq (fun hm => br_f (by decide) (br_c (kd h hv hm) (ke h hv hm))) (fun hm => br_t rfl (kc h hv hm)))) (fun hv => br_t rfl (kb h hv)))
theorem xv_cl_oI_cI {post : SX → Prop} {c : Nat} (hc : c ≤ 16) (k : ∀ t : Nat → Int32, (∀ j, j < c → t j = oI j) → post (nI n, nI q, xc, xp, nI oc, nI dc, nI cc, xs, oI, oO, dI, dO, t, cO, sI, sO)) : ∀ (f i : Nat) (cI : Nat → Int32), c < f + i → i ≤ c → (∀ j, j < i → cI j = oI j) → wX_copyFirst__onInputs_coverInputs_2 post (nI c) (nI n) (nI q) xc xp (nI oc) (nI dc) (nI cc) xs f (nI i) oI oO dI dO cI cO sI sO := by
  intro f
  induction f with
  | zero => intro i D h1 h2; omega
  | succ f ih =>
    intro i D h1 h2 h3
    refine pk_le c i (fun h => k D (fun j hj => h3 j (by omega))) (fun h => ⟨vp_in_nI (by omega) (by decide), vp_in_nI (by omega) (by decide), fun y ey z ez => ?_⟩)
    subst ey ez
    rw [nI_1, nI_clamp (n := i) (by omega)]
    refine ih (i + 1) _ (by omega) (by omega) (fun j hj => ?_)
    by_cases e : j = i
    · subst e; exact pk_us
    · rw [pk_un e]; exact h3 j (by omega)
theorem xv_cp_oI_cI {post : SX → Prop} {c : Nat} (hc : c ≤ 16) (k : ∀ t : Nat → Int32, (∀ j, j < c → t j = oI j) → post (nI n, nI q, xc, xp, nI oc, nI dc, nI cc, xs, oI, oO, dI, dO, t, cO, sI, sO)) : wpX_copyFirst__onInputs_coverInputs post (nI n, nI q, xc, xp, nI oc, nI dc, nI cc, xs, oI, oO, dI, dO, cI, cO, sI, sO) (nI c) :=
  ⟨c + 1, xv_cl_oI_cI hc k (c + 1) 0 _ (by omega) (by omega) (fun j hj => absurd hj (by omega))⟩
theorem xv_cl_oO_cO {post : SX → Prop} {c : Nat} (hc : c ≤ 16) (k : ∀ t : Nat → Int32, (∀ j, j < c → t j = oO j) → post (nI n, nI q, xc, xp, nI oc, nI dc, nI cc, xs, oI, oO, dI, dO, cI, t, sI, sO)) : ∀ (f i : Nat) (cO : Nat → Int32), c < f + i → i ≤ c → (∀ j, j < i → cO j = oO j) → wX_copyFirst__onOutputs_coverOutputs_2 post (nI c) (nI n) (nI q) xc xp (nI oc) (nI dc) (nI cc) xs f (nI i) oI oO dI dO cI cO sI sO := by
  intro f
  induction f with
  | zero => intro i D h1 h2; omega
  | succ f ih =>
    intro i D h1 h2 h3
    refine pk_le c i (fun h => k D (fun j hj => h3 j (by omega))) (fun h => ⟨vp_in_nI (by omega) (by decide), vp_in_nI (by omega) (by decide), fun y ey z ez => ?_⟩)
    subst ey ez
    rw [nI_1, nI_clamp (n := i) (by omega)]
    refine ih (i + 1) _ (by omega) (by omega) (fun j hj => ?_)
    by_cases e : j = i
    · subst e; exact pk_us
    · rw [pk_un e]; exact h3 j (by omega)
theorem xv_cp_oO_cO {post : SX → Prop} {c : Nat} (hc : c ≤ 16) (k : ∀ t : Nat → Int32, (∀ j, j < c → t j = oO j) → post (nI n, nI q, xc, xp, nI oc, nI dc, nI cc, xs, oI, oO, dI, dO, cI, t, sI, sO)) : wpX_copyFirst__onOutputs_coverOutputs post (nI n, nI q, xc, xp, nI oc, nI dc, nI cc, xs, oI, oO, dI, dO, cI, cO, sI, sO) (nI c) :=
  ⟨c + 1, xv_cl_oO_cO hc k (c + 1) 0 _ (by omega) (by omega) (fun j hj => absurd hj (by omega))⟩
theorem xv_cl_cI_sI {post : SX → Prop} {c : Nat} (hc : c ≤ 16) (k : ∀ t : Nat → Int32, (∀ j, j < c → t j = cI j) → post (nI n, nI q, xc, xp, nI oc, nI dc, nI cc, xs, oI, oO, dI, dO, cI, cO, t, sO)) : ∀ (f i : Nat) (sI : Nat → Int32), c < f + i → i ≤ c → (∀ j, j < i → sI j = cI j) → wX_copyFirst__coverInputs_savedInputs_2 post (nI c) (nI n) (nI q) xc xp (nI oc) (nI dc) (nI cc) xs f (nI i) oI oO dI dO cI cO sI sO := by
  intro f
  induction f with
  | zero => intro i D h1 h2; omega
  | succ f ih =>
    intro i D h1 h2 h3
    refine pk_le c i (fun h => k D (fun j hj => h3 j (by omega))) (fun h => ⟨vp_in_nI (by omega) (by decide), vp_in_nI (by omega) (by decide), fun y ey z ez => ?_⟩)
    subst ey ez
    rw [nI_1, nI_clamp (n := i) (by omega)]
    refine ih (i + 1) _ (by omega) (by omega) (fun j hj => ?_)
    by_cases e : j = i
    · subst e; exact pk_us
    · rw [pk_un e]; exact h3 j (by omega)
theorem xv_cp_cI_sI {post : SX → Prop} {c : Nat} (hc : c ≤ 16) (k : ∀ t : Nat → Int32, (∀ j, j < c → t j = cI j) → post (nI n, nI q, xc, xp, nI oc, nI dc, nI cc, xs, oI, oO, dI, dO, cI, cO, t, sO)) : wpX_copyFirst__coverInputs_savedInputs post (nI n, nI q, xc, xp, nI oc, nI dc, nI cc, xs, oI, oO, dI, dO, cI, cO, sI, sO) (nI c) :=
  ⟨c + 1, xv_cl_cI_sI hc k (c + 1) 0 _ (by omega) (by omega) (fun j hj => absurd hj (by omega))⟩
theorem xv_cl_cO_sO {post : SX → Prop} {c : Nat} (hc : c ≤ 16) (k : ∀ t : Nat → Int32, (∀ j, j < c → t j = cO j) → post (nI n, nI q, xc, xp, nI oc, nI dc, nI cc, xs, oI, oO, dI, dO, cI, cO, sI, t)) : ∀ (f i : Nat) (sO : Nat → Int32), c < f + i → i ≤ c → (∀ j, j < i → sO j = cO j) → wX_copyFirst__coverOutputs_savedOutputs_2 post (nI c) (nI n) (nI q) xc xp (nI oc) (nI dc) (nI cc) xs f (nI i) oI oO dI dO cI cO sI sO := by
  intro f
  induction f with
  | zero => intro i D h1 h2; omega
  | succ f ih =>
    intro i D h1 h2 h3
    refine pk_le c i (fun h => k D (fun j hj => h3 j (by omega))) (fun h => ⟨vp_in_nI (by omega) (by decide), vp_in_nI (by omega) (by decide), fun y ey z ez => ?_⟩)
    subst ey ez
    rw [nI_1, nI_clamp (n := i) (by omega)]
    refine ih (i + 1) _ (by omega) (by omega) (fun j hj => ?_)
    by_cases e : j = i
    · subst e; exact pk_us
    · rw [pk_un e]; exact h3 j (by omega)
theorem xv_cp_cO_sO {post : SX → Prop} {c : Nat} (hc : c ≤ 16) (k : ∀ t : Nat → Int32, (∀ j, j < c → t j = cO j) → post (nI n, nI q, xc, xp, nI oc, nI dc, nI cc, xs, oI, oO, dI, dO, cI, cO, sI, t)) : wpX_copyFirst__coverOutputs_savedOutputs post (nI n, nI q, xc, xp, nI oc, nI dc, nI cc, xs, oI, oO, dI, dO, cI, cO, sI, sO) (nI c) :=
  ⟨c + 1, xv_cl_cO_sO hc k (c + 1) 0 _ (by omega) (by omega) (fun j hj => absurd hj (by omega))⟩
theorem xv_cl_sI_cI {post : SX → Prop} {c : Nat} (hc : c ≤ 16) (k : ∀ t : Nat → Int32, (∀ j, j < c → t j = sI j) → post (nI n, nI q, xc, xp, nI oc, nI dc, nI cc, xs, oI, oO, dI, dO, t, cO, sI, sO)) : ∀ (f i : Nat) (cI : Nat → Int32), c < f + i → i ≤ c → (∀ j, j < i → cI j = sI j) → wX_copyFirst__savedInputs_coverInputs_2 post (nI c) (nI n) (nI q) xc xp (nI oc) (nI dc) (nI cc) xs f (nI i) oI oO dI dO cI cO sI sO := by
  intro f
  induction f with
  | zero => intro i D h1 h2; omega
  | succ f ih =>
    intro i D h1 h2 h3
    refine pk_le c i (fun h => k D (fun j hj => h3 j (by omega))) (fun h => ⟨vp_in_nI (by omega) (by decide), vp_in_nI (by omega) (by decide), fun y ey z ez => ?_⟩)
    subst ey ez
    rw [nI_1, nI_clamp (n := i) (by omega)]
    refine ih (i + 1) _ (by omega) (by omega) (fun j hj => ?_)
    by_cases e : j = i
    · subst e; exact pk_us
    · rw [pk_un e]; exact h3 j (by omega)
theorem xv_cp_sI_cI {post : SX → Prop} {c : Nat} (hc : c ≤ 16) (k : ∀ t : Nat → Int32, (∀ j, j < c → t j = sI j) → post (nI n, nI q, xc, xp, nI oc, nI dc, nI cc, xs, oI, oO, dI, dO, t, cO, sI, sO)) : wpX_copyFirst__savedInputs_coverInputs post (nI n, nI q, xc, xp, nI oc, nI dc, nI cc, xs, oI, oO, dI, dO, cI, cO, sI, sO) (nI c) :=
  ⟨c + 1, xv_cl_sI_cI hc k (c + 1) 0 _ (by omega) (by omega) (fun j hj => absurd hj (by omega))⟩
theorem xv_cl_sO_cO {post : SX → Prop} {c : Nat} (hc : c ≤ 16) (k : ∀ t : Nat → Int32, (∀ j, j < c → t j = sO j) → post (nI n, nI q, xc, xp, nI oc, nI dc, nI cc, xs, oI, oO, dI, dO, cI, t, sI, sO)) : ∀ (f i : Nat) (cO : Nat → Int32), c < f + i → i ≤ c → (∀ j, j < i → cO j = sO j) → wX_copyFirst__savedOutputs_coverOutputs_2 post (nI c) (nI n) (nI q) xc xp (nI oc) (nI dc) (nI cc) xs f (nI i) oI oO dI dO cI cO sI sO := by
  intro f
  induction f with
  | zero => intro i D h1 h2; omega
  | succ f ih =>
    intro i D h1 h2 h3
    refine pk_le c i (fun h => k D (fun j hj => h3 j (by omega))) (fun h => ⟨vp_in_nI (by omega) (by decide), vp_in_nI (by omega) (by decide), fun y ey z ez => ?_⟩)
    subst ey ez
    rw [nI_1, nI_clamp (n := i) (by omega)]
    refine ih (i + 1) _ (by omega) (by omega) (fun j hj => ?_)
    by_cases e : j = i
    · subst e; exact pk_us
    · rw [pk_un e]; exact h3 j (by omega)
theorem xv_cp_sO_cO {post : SX → Prop} {c : Nat} (hc : c ≤ 16) (k : ∀ t : Nat → Int32, (∀ j, j < c → t j = sO j) → post (nI n, nI q, xc, xp, nI oc, nI dc, nI cc, xs, oI, oO, dI, dO, cI, t, sI, sO)) : wpX_copyFirst__savedOutputs_coverOutputs post (nI n, nI q, xc, xp, nI oc, nI dc, nI cc, xs, oI, oO, dI, dO, cI, cO, sI, sO) (nI c) :=
  ⟨c + 1, xv_cl_sO_cO hc k (c + 1) 0 _ (by omega) (by omega) (fun j hj => absurd hj (by omega))⟩
theorem xv_begin {post : Int32 → SX → Prop} (hoc : oc ≤ 16) (k : ∀ a b : Nat → Int32, tw_ls a b 0 oc = tw_ls oI oO 0 oc → post (nI oc) (nI n, nI q, xc, 1, nI oc, nI dc, nI oc, xs, oI, oO, dI, dO, a, b, sI, sO)) : wpX_begin post (nI n, nI q, xc, xp, nI oc, nI dc, nI cc, xs, oI, oO, dI, dO, cI, cO, sI, sO) := by
  unfold wpX_begin
  refine xv_cp_oI_cI hoc (fun a ha => ?_)
  refine xv_cp_oO_cO hoc (fun b hb => ?_)
  exact k a b (tw_ls_eq (fun j _ hj => ⟨ha j (by omega), hb j (by omega)⟩))
theorem xv_pm4 {post : Int32 → Prop} {m : Nat} (hn : n ≤ 8) (hm : m < 2 ^ 31) (k : post (tw_pm m n)) : ∀ (f i : Nat), n < f + i → i ≤ n → wX_partOfMinterm_4 post (nI m) (nI n) (nI q) xc xp (nI oc) (nI dc) (nI cc) xs oI oO dI dO cI cO sI sO f (tw_pm m i) (nI i) := by
  intro f
  induction f with
  | zero => intro i h1 h2; omega
  | succ f ih =>
    intro i h1 h2
    refine pk_le n i (fun h => ?_) (fun h y ey z ez w ew => ?_)
    · have e : i = n := by omega
      rw [e]; exact k
    · subst ew ez ey
      rw [nI_1, tw_mbit hm (by omega), tw_2x, nI_add]
      exact ih (i + 1) (by omega) (by omega)
theorem xv_pm {post : Int32 → Prop} {m : Nat} (hn : n ≤ 8) (hm : m < 2 ^ 31) (k : post (tw_pm m n)) : wpX_partOfMinterm post (nI n, nI q, xc, xp, nI oc, nI dc, nI cc, xs, oI, oO, dI, dO, cI, cO, sI, sO) (nI m) :=
  ⟨n + 1, xv_pm4 hn hm k (n + 1) 0 (by omega) (by omega)⟩
theorem xv_ol_oI {post : Int32 → Prop} {c : Nat} {M lo : Int32} (hc : c ≤ 16) (k : ∀ r : Int32, (∀ o, o < 32 → (bt r o = true ↔ ∃ j, j < c ∧ ¬ nI j = lo ∧ (oI j &&& M) = M ∧ bt (oO j) o = true)) → post r) : ∀ (f i : Nat) (r : Int32), c < f + i → i ≤ c → (∀ o, o < 32 → (bt r o = true ↔ ∃ j, j < i ∧ ¬ nI j = lo ∧ (oI j &&& M) = M ∧ bt (oO j) o = true)) → wX_outputsAt__onInputs_onOutputs_6 post M (nI c) lo (nI n) (nI q) xc xp (nI oc) (nI dc) (nI cc) xs oI oO dI dO cI cO sI sO f r (nI i) := by
  intro f
  induction f with
  | zero => intro i r h1 h2; omega
  | succ f ih =>
    intro i r h1 h2 h3
    refine pk_le c i (fun h => ?_) (fun h => br_c (fun e y ey => ?_) (fun e => ⟨vp_in_nI (by omega) (by decide), br_c (fun e2 => ⟨vp_in_nI (by omega) (by decide), fun y ey z ez => ?_⟩) (fun e2 y ey => ?_)⟩))
    · have e : i = c := by omega
      subst e
      exact k r h3
    · subst ey
      rw [nI_1]
      refine ih (i + 1) r (by omega) (by omega) (fun o ho => ?_)
      rw [h3 o ho]
      constructor
      · intro ⟨j, a, b⟩; exact ⟨j, by omega, b⟩
      · intro ⟨j, a, b⟩
        by_cases ej : j = i
        · subst ej; exact absurd e b.1
        · exact ⟨j, by omega, b⟩
    · rw [nI_clamp (n := i) (by omega)] at e2 ey
      subst ey ez
      rw [nI_1]
      refine ih (i + 1) _ (by omega) (by omega) (fun o ho => ?_)
      rw [b_or, Bool.or_eq_true, h3 o ho]
      constructor
      · rintro (⟨j, a, b⟩ | b)
        · exact ⟨j, by omega, b⟩
        · exact ⟨i, by omega, e, e2, b⟩
      · intro ⟨j, a, b⟩
        by_cases ej : j = i
        · subst ej; exact Or.inr b.2.2
        · exact Or.inl ⟨j, by omega, b⟩
    · rw [nI_clamp (n := i) (by omega)] at e2
      subst ey
      rw [nI_1]
      refine ih (i + 1) r (by omega) (by omega) (fun o ho => ?_)
      rw [h3 o ho]
      constructor
      · intro ⟨j, a, b⟩; exact ⟨j, by omega, b⟩
      · intro ⟨j, a, b⟩
        by_cases ej : j = i
        · subst ej; exact absurd b.2.1 e2
        · exact ⟨j, by omega, b⟩
theorem xv_oa_oI {post : Int32 → Prop} {c m : Nat} (hn : n ≤ 8) (hc : c ≤ 16) (k : ∀ r : Int32, (∀ o, o < 32 → (bt r o = true ↔ tw_hit n (tw_ls oI oO 0 c) m o)) → post r) : wpX_outputsAt__onInputs_onOutputs post (nI n, nI q, xc, xp, nI oc, nI dc, nI cc, xs, oI, oO, dI, dO, cI, cO, sI, sO) (tw_pm m n) (nI c) (-1) := by
  refine ⟨c + 1, xv_ol_oI hc (fun r hr => k r (fun o ho => ?_)) (c + 1) 0 0 (by omega) (by omega) (fun o ho => ?_)⟩
  · rw [hr o ho, tw_hit_ls]
    constructor
    · intro ⟨j, a, b, c2, d⟩; exact ⟨j, by omega, by omega, (tw_pm_ct (by omega)).mp c2, d⟩
    · intro ⟨j, a, b, c2, d⟩; exact ⟨j, by omega, tw_ne1 (by omega), (tw_pm_ct (by omega)).mpr c2, d⟩
  · rw [b_0]
    constructor
    · intro h; exact Bool.noConfusion h
    · intro ⟨j, a, b⟩; omega
theorem xv_ol_dI {post : Int32 → Prop} {c : Nat} {M lo : Int32} (hc : c ≤ 16) (k : ∀ r : Int32, (∀ o, o < 32 → (bt r o = true ↔ ∃ j, j < c ∧ ¬ nI j = lo ∧ (dI j &&& M) = M ∧ bt (dO j) o = true)) → post r) : ∀ (f i : Nat) (r : Int32), c < f + i → i ≤ c → (∀ o, o < 32 → (bt r o = true ↔ ∃ j, j < i ∧ ¬ nI j = lo ∧ (dI j &&& M) = M ∧ bt (dO j) o = true)) → wX_outputsAt__dcInputs_dcOutputs_6 post M (nI c) lo (nI n) (nI q) xc xp (nI oc) (nI dc) (nI cc) xs oI oO dI dO cI cO sI sO f r (nI i) := by
  intro f
  induction f with
  | zero => intro i r h1 h2; omega
  | succ f ih =>
    intro i r h1 h2 h3
    refine pk_le c i (fun h => ?_) (fun h => br_c (fun e y ey => ?_) (fun e => ⟨vp_in_nI (by omega) (by decide), br_c (fun e2 => ⟨vp_in_nI (by omega) (by decide), fun y ey z ez => ?_⟩) (fun e2 y ey => ?_)⟩))
    · have e : i = c := by omega
      subst e
      exact k r h3
    · subst ey
      rw [nI_1]
      refine ih (i + 1) r (by omega) (by omega) (fun o ho => ?_)
      rw [h3 o ho]
      constructor
      · intro ⟨j, a, b⟩; exact ⟨j, by omega, b⟩
      · intro ⟨j, a, b⟩
        by_cases ej : j = i
        · subst ej; exact absurd e b.1
        · exact ⟨j, by omega, b⟩
    · rw [nI_clamp (n := i) (by omega)] at e2 ey
      subst ey ez
      rw [nI_1]
      refine ih (i + 1) _ (by omega) (by omega) (fun o ho => ?_)
      rw [b_or, Bool.or_eq_true, h3 o ho]
      constructor
      · rintro (⟨j, a, b⟩ | b)
        · exact ⟨j, by omega, b⟩
        · exact ⟨i, by omega, e, e2, b⟩
      · intro ⟨j, a, b⟩
        by_cases ej : j = i
        · subst ej; exact Or.inr b.2.2
        · exact Or.inl ⟨j, by omega, b⟩
    · rw [nI_clamp (n := i) (by omega)] at e2
      subst ey
      rw [nI_1]
      refine ih (i + 1) r (by omega) (by omega) (fun o ho => ?_)
      rw [h3 o ho]
      constructor
      · intro ⟨j, a, b⟩; exact ⟨j, by omega, b⟩
      · intro ⟨j, a, b⟩
        by_cases ej : j = i
        · subst ej; exact absurd b.2.1 e2
        · exact ⟨j, by omega, b⟩
theorem xv_oa_dI {post : Int32 → Prop} {c m : Nat} (hn : n ≤ 8) (hc : c ≤ 16) (k : ∀ r : Int32, (∀ o, o < 32 → (bt r o = true ↔ tw_hit n (tw_ls dI dO 0 c) m o)) → post r) : wpX_outputsAt__dcInputs_dcOutputs post (nI n, nI q, xc, xp, nI oc, nI dc, nI cc, xs, oI, oO, dI, dO, cI, cO, sI, sO) (tw_pm m n) (nI c) (-1) := by
  refine ⟨c + 1, xv_ol_dI hc (fun r hr => k r (fun o ho => ?_)) (c + 1) 0 0 (by omega) (by omega) (fun o ho => ?_)⟩
  · rw [hr o ho, tw_hit_ls]
    constructor
    · intro ⟨j, a, b, c2, d⟩; exact ⟨j, by omega, by omega, (tw_pm_ct (by omega)).mp c2, d⟩
    · intro ⟨j, a, b, c2, d⟩; exact ⟨j, by omega, tw_ne1 (by omega), (tw_pm_ct (by omega)).mpr c2, d⟩
  · rw [b_0]
    constructor
    · intro h; exact Bool.noConfusion h
    · intro ⟨j, a, b⟩; omega
theorem xv_ol_cI {post : Int32 → Prop} {c : Nat} {M lo : Int32} (hc : c ≤ 16) (k : ∀ r : Int32, (∀ o, o < 32 → (bt r o = true ↔ ∃ j, j < c ∧ ¬ nI j = lo ∧ (cI j &&& M) = M ∧ bt (cO j) o = true)) → post r) : ∀ (f i : Nat) (r : Int32), c < f + i → i ≤ c → (∀ o, o < 32 → (bt r o = true ↔ ∃ j, j < i ∧ ¬ nI j = lo ∧ (cI j &&& M) = M ∧ bt (cO j) o = true)) → wX_outputsAt__coverInputs_coverOutputs_6 post M (nI c) lo (nI n) (nI q) xc xp (nI oc) (nI dc) (nI cc) xs oI oO dI dO cI cO sI sO f r (nI i) := by
  intro f
  induction f with
  | zero => intro i r h1 h2; omega
  | succ f ih =>
    intro i r h1 h2 h3
    refine pk_le c i (fun h => ?_) (fun h => br_c (fun e y ey => ?_) (fun e => ⟨vp_in_nI (by omega) (by decide), br_c (fun e2 => ⟨vp_in_nI (by omega) (by decide), fun y ey z ez => ?_⟩) (fun e2 y ey => ?_)⟩))
    · have e : i = c := by omega
      subst e
      exact k r h3
    · subst ey
      rw [nI_1]
      refine ih (i + 1) r (by omega) (by omega) (fun o ho => ?_)
      rw [h3 o ho]
      constructor
      · intro ⟨j, a, b⟩; exact ⟨j, by omega, b⟩
      · intro ⟨j, a, b⟩
        by_cases ej : j = i
        · subst ej; exact absurd e b.1
        · exact ⟨j, by omega, b⟩
    · rw [nI_clamp (n := i) (by omega)] at e2 ey
      subst ey ez
      rw [nI_1]
      refine ih (i + 1) _ (by omega) (by omega) (fun o ho => ?_)
      rw [b_or, Bool.or_eq_true, h3 o ho]
      constructor
      · rintro (⟨j, a, b⟩ | b)
        · exact ⟨j, by omega, b⟩
        · exact ⟨i, by omega, e, e2, b⟩
      · intro ⟨j, a, b⟩
        by_cases ej : j = i
        · subst ej; exact Or.inr b.2.2
        · exact Or.inl ⟨j, by omega, b⟩
    · rw [nI_clamp (n := i) (by omega)] at e2
      subst ey
      rw [nI_1]
      refine ih (i + 1) r (by omega) (by omega) (fun o ho => ?_)
      rw [h3 o ho]
      constructor
      · intro ⟨j, a, b⟩; exact ⟨j, by omega, b⟩
      · intro ⟨j, a, b⟩
        by_cases ej : j = i
        · subst ej; exact absurd b.2.1 e2
        · exact ⟨j, by omega, b⟩
theorem xv_oa_cI {post : Int32 → Prop} {c m : Nat} (hn : n ≤ 8) (hc : c ≤ 16) (k : ∀ r : Int32, (∀ o, o < 32 → (bt r o = true ↔ tw_hit n (tw_ls cI cO 0 c) m o)) → post r) : wpX_outputsAt__coverInputs_coverOutputs post (nI n, nI q, xc, xp, nI oc, nI dc, nI cc, xs, oI, oO, dI, dO, cI, cO, sI, sO) (tw_pm m n) (nI c) (-1) := by
  refine ⟨c + 1, xv_ol_cI hc (fun r hr => k r (fun o ho => ?_)) (c + 1) 0 0 (by omega) (by omega) (fun o ho => ?_)⟩
  · rw [hr o ho, tw_hit_ls]
    constructor
    · intro ⟨j, a, b, c2, d⟩; exact ⟨j, by omega, by omega, (tw_pm_ct (by omega)).mp c2, d⟩
    · intro ⟨j, a, b, c2, d⟩; exact ⟨j, by omega, tw_ne1 (by omega), (tw_pm_ct (by omega)).mpr c2, d⟩
  · rw [b_0]
    constructor
    · intro h; exact Bool.noConfusion h
    · intro ⟨j, a, b⟩; omega
theorem xv_ob {post : Int32 → Prop} {p m : Nat} (hn : n ≤ 8) (hc : cc ≤ 16) (hp : p < cc) (k : ∀ r : Int32, (∀ o, o < 32 → (bt r o = true ↔ tw_hit n (tw_ls cI cO 0 p ++ tw_ls cI cO (p + 1) (cc - p - 1)) m o)) → post r) : wpX_outputsAt__coverInputs_coverOutputs post (nI n, nI q, xc, xp, nI oc, nI dc, nI cc, xs, oI, oO, dI, dO, cI, cO, sI, sO) (tw_pm m n) (nI cc) (nI p) := by
  refine ⟨cc + 1, xv_ol_cI hc (fun r hr => k r (fun o ho => ?_)) (cc + 1) 0 0 (by omega) (by omega) (fun o ho => ?_)⟩
  · rw [hr o ho, tw_hit_but hp]
    constructor
    · intro ⟨j, a, b, c2, d⟩
      rw [nI_eq (by omega) (by omega)] at b
      exact ⟨j, a, b, (tw_pm_ct (by omega)).mp c2, d⟩
    · intro ⟨j, a, b, c2, d⟩
      refine ⟨j, a, ?_, (tw_pm_ct (by omega)).mpr c2, d⟩
      rw [nI_eq (by omega) (by omega)]
      exact b
  · rw [b_0]
    constructor
    · intro h; exact Bool.noConfusion h
    · intro ⟨j, a, b⟩; omega
end
end
section
/-! the component: implicants, own points, removal, raising, dropping, literals -/
section
variable {n q oc dc cc : Nat} {xc xp xs : Int32} {oI oO dI dO cI cO sI sO : Nat → Int32}
theorem xv_av10 {post : Int32 → Prop} {I O : Int32} (hn : n ≤ 8) (ho : oc ≤ 16) (hd : dc ≤ 16)
    (k1 : (∀ m, m < 2 ^ n → tw_ct n I m → ∀ o, o < 32 → bt O o = true → tw_hit n (tw_ls oI oO 0 oc) m o ∨ tw_hit n (tw_ls dI dO 0 dc) m o) → post 1)
    (k0 : ¬ (∀ m, m < 2 ^ n → tw_ct n I m → ∀ o, o < 32 → bt O o = true → tw_hit n (tw_ls oI oO 0 oc) m o ∨ tw_hit n (tw_ls dI dO 0 dc) m o) → post 0) :
    ∀ (f i : Nat), 2 ^ n < f + i → i ≤ 2 ^ n → (∀ m, m < i → tw_ct n I m → ∀ o, o < 32 → bt O o = true → tw_hit n (tw_ls oI oO 0 oc) m o ∨ tw_hit n (tw_ls dI dO 0 dc) m o) → wX_avoidsOff_10 post I O (nI (2 ^ n)) (nI n) (nI q) xc xp (nI oc) (nI dc) (nI cc) xs oI oO dI dO cI cO sI sO f (nI i) := by
  have hp := tw_pow8 hn
  intro f
  induction f with
  | zero => intro i h1 h2; omega
  | succ f ih =>
    intro i h1 h2 h3
    refine pk_le (2 ^ n) i (fun h => k1 (fun m hm => h3 m (by omega))) (fun h => xv_pm hn (by omega) (br_c (fun e => xv_oa_oI hn ho (fun r1 e1 => xv_oa_dI hn hd (fun r2 e2 => br_c (fun z y ey => ?_) (fun z => k0 ?_)))) (fun e y ey => ?_)))
    · subst ey
      rw [nI_1]
      refine ih (i + 1) (by omega) (by omega) (fun m hm => ?_)
      by_cases em : m = i
      · subst em
        intro _
        exact (tw_offx e1 e2).mp z
      · exact h3 m (by omega)
    · intro hall
      exact z ((tw_offx e1 e2).mpr (hall i h ((tw_pm_ct (by omega)).mp e)))
    · subst ey
      rw [nI_1]
      refine ih (i + 1) (by omega) (by omega) (fun m hm => ?_)
      by_cases em : m = i
      · subst em
        intro hc
        exact absurd ((tw_pm_ct (by omega)).mpr hc) e
      · exact h3 m (by omega)
theorem xv_avoidsOff {post : Int32 → Prop} {I O : Int32} (hn : n ≤ 8) (hq : q ≤ 4) (ho : oc ≤ 16) (hd : dc ≤ 16) (hO : ∀ o, bt O o = true → o < q)
    (k1 : tw_imp n q (tw_ls oI oO 0 oc) (tw_ls dI dO 0 dc) I O → post 1) (k0 : ¬ tw_imp n q (tw_ls oI oO 0 oc) (tw_ls dI dO 0 dc) I O → post 0) : wpX_avoidsOff post (nI n, nI q, xc, xp, nI oc, nI dc, nI cc, xs, oI, oO, dI, dO, cI, cO, sI, sO) I O := by
  intro y ey
  rw [tw_p2 n (by omega)] at ey
  subst ey
  refine ⟨2 ^ n + 1, xv_av10 hn ho hd (fun h => k1 ((tw_impx hq hO).mpr h)) (fun h => k0 (fun z => h ((tw_impx hq hO).mp z))) (2 ^ n + 1) 0 (by omega) (Nat.zero_le _) (fun m hm => absurd hm (by omega))⟩
theorem xv_own {post : Int32 → Prop} {p m : Nat} (hn : n ≤ 8) (ho : oc ≤ 16) (hd : dc ≤ 16) (hc : cc ≤ 16) (hp : p < cc)
    (k : ∀ w : Int32, (∀ o, o < 32 → (bt w o = true ↔ tw_own n (tw_ls oI oO 0 oc) (tw_ls dI dO 0 dc) (cI p, cO p) (tw_ls cI cO 0 p ++ tw_ls cI cO (p + 1) (cc - p - 1)) m o)) → post w) : wpX_ownOutputs post (nI n, nI q, xc, xp, nI oc, nI dc, nI cc, xs, oI, oO, dI, dO, cI, cO, sI, sO) (nI p) (tw_pm m n) := by
  have hcl : (nI p).toNatClampNeg = p := nI_clamp (by omega)
  refine ⟨vp_in_nI (by omega) (by decide), br_c (fun e => xv_oa_oI hn ho (fun r1 e1 => xv_oa_dI hn hd (fun r2 e2 => xv_ob hn hc hp (fun r3 e3 => ⟨vp_in_nI (by omega) (by decide), ?_⟩)))) (fun e => ?_)⟩
  · rw [hcl] at e ⊢
    exact k _ (tw_ownx (c := (cI p, cO p)) ((tw_pm_ct (by omega)).mp e) e1 e2 e3)
  · rw [hcl] at e
    refine k 0 (fun o ho => ?_)
    rw [b_0]
    constructor
    · intro h; exact Bool.noConfusion h
    · intro h; exact absurd ((tw_pm_ct (by omega)).mpr h.1) e
theorem xv_has9 {post : Int32 → Prop} {p : Nat} (hn : n ≤ 8) (hq : q ≤ 4) (ho : oc ≤ 16) (hd : dc ≤ 16) (hc : cc ≤ 16) (hp : p < cc) (hO : ∀ o, bt (cO p) o = true → o < q)
    (k1 : tw_has n q (tw_ls oI oO 0 oc) (tw_ls dI dO 0 dc) (cI p, cO p) (tw_ls cI cO 0 p ++ tw_ls cI cO (p + 1) (cc - p - 1)) → post 1)
    (k0 : ¬ tw_has n q (tw_ls oI oO 0 oc) (tw_ls dI dO 0 dc) (cI p, cO p) (tw_ls cI cO 0 p ++ tw_ls cI cO (p + 1) (cc - p - 1)) → post 0) :
    ∀ (f i : Nat), 2 ^ n < f + i → i ≤ 2 ^ n → (∀ m, m < i → ∀ o, o < 32 → ¬ tw_own n (tw_ls oI oO 0 oc) (tw_ls dI dO 0 dc) (cI p, cO p) (tw_ls cI cO 0 p ++ tw_ls cI cO (p + 1) (cc - p - 1)) m o) → wX_hasOwnPoint_9 post (nI p) (nI (2 ^ n)) (nI n) (nI q) xc xp (nI oc) (nI dc) (nI cc) xs oI oO dI dO cI cO sI sO f (nI i) := by
  have hpw := tw_pow8 hn
  intro f
  induction f with
  | zero => intro i h1 h2; omega
  | succ f ih =>
    intro i h1 h2 h3
    refine pk_le (2 ^ n) i (fun h => k0 ?_) (fun h => xv_pm hn (by omega) (xv_own hn ho hd hc hp (fun w hw => br_c (fun z y ey => ?_) (fun z => k1 ?_))))
    · intro hh
      obtain ⟨m, hm, o, ho2, hw⟩ := (tw_hasx hq hO).mp hh
      exact h3 m (by omega) o ho2 hw
    · subst ey
      rw [nI_1]
      refine ih (i + 1) (by omega) (by omega) (fun m hm => ?_)
      by_cases em : m = i
      · subst em
        intro o ho2 hh
        have h4 := (hw o ho2).mpr hh
        rw [z, b_0] at h4
        exact Bool.noConfusion h4
      · exact h3 m (by omega)
    · obtain ⟨o, ho2, hb⟩ := tw_nz.mp z
      exact (tw_hasx hq hO).mpr ⟨i, h, o, ho2, (hw o ho2).mp hb⟩
theorem xv_has {post : Int32 → Prop} {p : Nat} (hn : n ≤ 8) (hq : q ≤ 4) (ho : oc ≤ 16) (hd : dc ≤ 16) (hc : cc ≤ 16) (hp : p < cc) (hO : ∀ o, bt (cO p) o = true → o < q)
    (k1 : tw_has n q (tw_ls oI oO 0 oc) (tw_ls dI dO 0 dc) (cI p, cO p) (tw_ls cI cO 0 p ++ tw_ls cI cO (p + 1) (cc - p - 1)) → post 1)
    (k0 : ¬ tw_has n q (tw_ls oI oO 0 oc) (tw_ls dI dO 0 dc) (cI p, cO p) (tw_ls cI cO 0 p ++ tw_ls cI cO (p + 1) (cc - p - 1)) → post 0) : wpX_hasOwnPoint post (nI n, nI q, xc, xp, nI oc, nI dc, nI cc, xs, oI, oO, dI, dO, cI, cO, sI, sO) (nI p) := by
  intro y ey
  rw [tw_p2 n (by omega)] at ey
  subst ey
  exact ⟨2 ^ n + 1, xv_has9 hn hq ho hd hc hp hO k1 k0 (2 ^ n + 1) 0 (by omega) (Nat.zero_le _) (fun m hm => absurd hm (by omega))⟩
theorem xv_sh15 {post : Int32 → SX → Prop} {p : Nat} (hn : n ≤ 8) (hq : q ≤ 4) (ho : oc ≤ 16) (hd : dc ≤ 16) (hc : cc ≤ 16) (hp : p < cc) (hO : ∀ o, bt (cO p) o = true → o < q)
    (k1 : tw_has n q (tw_ls oI oO 0 oc) (tw_ls dI dO 0 dc) (cI p, cO p) (tw_ls cI cO 0 p ++ tw_ls cI cO (p + 1) (cc - p - 1)) → ∀ I O : Int32, (I, O) = tw_rc n q (tw_ls oI oO 0 oc) (tw_ls dI dO 0 dc) (cI p, cO p) (tw_ls cI cO 0 p ++ tw_ls cI cO (p + 1) (cc - p - 1)) → post 1 (nI n, nI q, xc, xp, nI oc, nI dc, nI cc, xs, oI, oO, dI, dO, upd cI p I, upd cO p O, sI, sO))
    (k0 : ¬ tw_has n q (tw_ls oI oO 0 oc) (tw_ls dI dO 0 dc) (cI p, cO p) (tw_ls cI cO 0 p ++ tw_ls cI cO (p + 1) (cc - p - 1)) → post 0 (nI n, nI q, xc, xp, nI oc, nI dc, nI cc, xs, oI, oO, dI, dO, cI, cO, sI, sO)) :
    ∀ (f i : Nat) (I O : Int32), 2 ^ n < f + i → i ≤ 2 ^ n →
    (∀ j, j < 32 → (bt I j = true ↔ ∃ m, m < i ∧ (∃ o, o < 32 ∧ tw_own n (tw_ls oI oO 0 oc) (tw_ls dI dO 0 dc) (cI p, cO p) (tw_ls cI cO 0 p ++ tw_ls cI cO (p + 1) (cc - p - 1)) m o) ∧ ∃ i, i < n ∧ j = tw_at m i)) →
    (∀ o, o < 32 → (bt O o = true ↔ ∃ m, m < i ∧ tw_own n (tw_ls oI oO 0 oc) (tw_ls dI dO 0 dc) (cI p, cO p) (tw_ls cI cO 0 p ++ tw_ls cI cO (p + 1) (cc - p - 1)) m o)) →
    wX_shrinkToOwnPoints_15 post (nI p) (nI (2 ^ n)) (nI n) (nI q) xc xp (nI oc) (nI dc) (nI cc) xs oI oO dI dO cI cO sI sO f I O (nI i) := by
  have hpw := tw_pow8 hn
  have hcl : (nI p).toNatClampNeg = p := nI_clamp (by omega)
  intro f
  induction f with
  | zero => intro i I O h1 h2; omega
  | succ f ih =>
    intro i I O h1 h2 h3 h4
    refine pk_le (2 ^ n) i (fun h => br_c (fun z => k0 ?_) (fun z => ⟨vp_in_nI (by omega) (by decide), fun a ea => ⟨vp_in_nI (by omega) (by decide), fun b eb => ?_⟩⟩)) (fun h => xv_pm hn (by omega) (xv_own hn ho hd hc hp (fun w hw => br_c (fun z y ey => ?_) (fun z y ey y2 ey2 y3 ey3 => ?_))))
    · intro hh
      obtain ⟨m, hm, o, ho2, hw⟩ := (tw_hasx hq hO).mp hh
      have h5 := (h4 o ho2).mpr ⟨m, by omega, hw⟩
      rw [z, b_0] at h5
      exact Bool.noConfusion h5
    · have ei : i = 2 ^ n := by omega
      subst ei
      rw [hcl] at ea eb
      subst ea eb
      obtain ⟨o, ho2, hb⟩ := tw_nz.mp z
      obtain ⟨m, hm, hw⟩ := (h4 o ho2).mp hb
      exact k1 ((tw_hasx hq hO).mpr ⟨m, hm, o, ho2, hw⟩) I O (tw_rcx hq hO h3 h4)
    · subst ey
      rw [nI_1]
      have hno : ∀ o, o < 32 → ¬ tw_own n (tw_ls oI oO 0 oc) (tw_ls dI dO 0 dc) (cI p, cO p) (tw_ls cI cO 0 p ++ tw_ls cI cO (p + 1) (cc - p - 1)) i o := by
        intro o ho2 hh
        have h5 := (hw o ho2).mpr hh
        rw [z, b_0] at h5
        exact Bool.noConfusion h5
      refine ih (i + 1) I O (by omega) (by omega) (fun j hj => ?_) (fun o ho2 => ?_)
      · rw [h3 j hj]
        constructor
        · intro ⟨m, hm, r⟩; exact ⟨m, by omega, r⟩
        · intro ⟨m, hm, ⟨o, ho2, hw2⟩, r⟩
          by_cases em : m = i
          · subst em; exact absurd hw2 (hno o ho2)
          · exact ⟨m, by omega, ⟨o, ho2, hw2⟩, r⟩
      · rw [h4 o ho2]
        constructor
        · intro ⟨m, hm, r⟩; exact ⟨m, by omega, r⟩
        · intro ⟨m, hm, hw2⟩
          by_cases em : m = i
          · subst em; exact absurd hw2 (hno o ho2)
          · exact ⟨m, by omega, hw2⟩
    · subst ey ey2 ey3
      rw [nI_1]
      obtain ⟨o1, ho1, hb1⟩ := tw_nz.mp z
      refine ih (i + 1) _ _ (by omega) (by omega) (fun j hj => ?_) (fun o ho2 => ?_)
      · rw [b_or, Bool.or_eq_true, h3 j hj, tw_pm_b i n (by omega) j hj]
        constructor
        · rintro (⟨m, hm, r⟩ | r)
          · exact ⟨m, by omega, r⟩
          · exact ⟨i, by omega, ⟨o1, ho1, (hw o1 ho1).mp hb1⟩, r⟩
        · intro ⟨m, hm, hw2, r⟩
          by_cases em : m = i
          · subst em; exact Or.inr r
          · exact Or.inl ⟨m, by omega, hw2, r⟩
      · rw [b_or, Bool.or_eq_true, h4 o ho2, hw o ho2]
        constructor
        · rintro (⟨m, hm, r⟩ | r)
          · exact ⟨m, by omega, r⟩
          · exact ⟨i, by omega, r⟩
        · intro ⟨m, hm, hw2⟩
          by_cases em : m = i
          · subst em; exact Or.inr hw2
          · exact Or.inl ⟨m, by omega, hw2⟩
theorem xv_shrink {post : Int32 → SX → Prop} {p : Nat} (hn : n ≤ 8) (hq : q ≤ 4) (ho : oc ≤ 16) (hd : dc ≤ 16) (hc : cc ≤ 16) (hp : p < cc) (hO : ∀ o, bt (cO p) o = true → o < q)
    (k1 : tw_has n q (tw_ls oI oO 0 oc) (tw_ls dI dO 0 dc) (cI p, cO p) (tw_ls cI cO 0 p ++ tw_ls cI cO (p + 1) (cc - p - 1)) → ∀ I O : Int32, (I, O) = tw_rc n q (tw_ls oI oO 0 oc) (tw_ls dI dO 0 dc) (cI p, cO p) (tw_ls cI cO 0 p ++ tw_ls cI cO (p + 1) (cc - p - 1)) → post 1 (nI n, nI q, xc, xp, nI oc, nI dc, nI cc, xs, oI, oO, dI, dO, upd cI p I, upd cO p O, sI, sO))
    (k0 : ¬ tw_has n q (tw_ls oI oO 0 oc) (tw_ls dI dO 0 dc) (cI p, cO p) (tw_ls cI cO 0 p ++ tw_ls cI cO (p + 1) (cc - p - 1)) → post 0 (nI n, nI q, xc, xp, nI oc, nI dc, nI cc, xs, oI, oO, dI, dO, cI, cO, sI, sO)) : wpX_shrinkToOwnPoints post (nI n, nI q, xc, xp, nI oc, nI dc, nI cc, xs, oI, oO, dI, dO, cI, cO, sI, sO) (nI p) := by
  intro y ey
  rw [tw_p2 n (by omega)] at ey
  subst ey
  refine ⟨2 ^ n + 1, xv_sh15 hn hq ho hd hc hp hO k1 k0 (2 ^ n + 1) 0 0 0 (by omega) (Nat.zero_le _) (fun j hj => ?_) (fun o ho => ?_)⟩
  · rw [b_0]
    constructor
    · intro h; exact Bool.noConfusion h
    · intro ⟨m, hm, _⟩; omega
  · rw [b_0]
    constructor
    · intro h; exact Bool.noConfusion h
    · intro ⟨m, hm, _⟩; omega
theorem xv_rm4 {post : SX → Prop} {p : Nat} {a0 b0 : Nat → Int32} (hc : cc ≤ 16) (hp : p < cc)
    (k : ∀ a b : Nat → Int32, tw_ls a b 0 (cc - 1) = tw_ls a0 b0 0 p ++ tw_ls a0 b0 (p + 1) (cc - p - 1) → post (nI n, nI q, xc, xp, nI oc, nI dc, nI (cc - 1), xs, oI, oO, dI, dO, a, b, sI, sO)) :
    ∀ (f i : Nat) (cI cO : Nat → Int32), cc < f + i → p < i → i ≤ cc → (∀ j, j < p → cI j = a0 j ∧ cO j = b0 j) → (∀ j, p ≤ j → j < i - 1 → cI j = a0 (j + 1) ∧ cO j = b0 (j + 1)) → (∀ j, i ≤ j → cI j = a0 j ∧ cO j = b0 j) → wX_removeAt_4 post (nI n) (nI q) xc xp (nI oc) (nI dc) (nI cc) xs f (nI i) oI oO dI dO cI cO sI sO := by
  intro f
  induction f with
  | zero => intro i a b h1 h2 h3; omega
  | succ f ih =>
    intro i a b h1 h2 h3 g1 g2 g3
    refine pk_le cc i (fun h y ey => ?_) (fun h => ⟨vp_in_nI (by omega) (by decide), ?_⟩)
    · have e : i = cc := by omega
      subst e
      obtain ⟨r, rfl⟩ : ∃ r, i = r + 1 := ⟨i - 1, by omega⟩
      rw [nI_pred] at ey
      subst ey
      exact k a b (tw_ls_rm hp g1 (fun j b1 b2 => g2 j b1 b2))
    · obtain ⟨r, rfl⟩ : ∃ r, i = r + 1 := ⟨i - 1, by omega⟩
      rw [nI_pred, nI_clamp (n := r) (by omega), nI_clamp (n := r + 1) (by omega)]
      refine ⟨vp_in_nI (by omega) (by decide), fun y ey => ⟨vp_in_nI (by omega) (by decide), vp_in_nI (by omega) (by decide), fun z ez w ew => ?_⟩⟩
      subst ey ez ew
      rw [nI_1]
      have h5 := g3 (r + 1) (by omega)
      refine ih (r + 1 + 1) _ _ (by omega) (by omega) (by omega) (fun j hj => ?_) (fun j b1 b2 => ?_) (fun j hj => ?_)
      · rw [pk_un (by omega), pk_un (by omega)]; exact g1 j hj
      · by_cases ej : j = r
        · subst ej; rw [pk_us, pk_us]; exact h5
        · rw [pk_un ej, pk_un ej]; exact g2 j b1 (by omega)
      · rw [pk_un (by omega), pk_un (by omega)]; exact g3 j (by omega)
theorem xv_removeAt {post : SX → Prop} {p : Nat} (hc : cc ≤ 16) (hp : p < cc)
    (k : ∀ a b : Nat → Int32, tw_ls a b 0 (cc - 1) = tw_ls cI cO 0 p ++ tw_ls cI cO (p + 1) (cc - p - 1) → post (nI n, nI q, xc, xp, nI oc, nI dc, nI (cc - 1), xs, oI, oO, dI, dO, a, b, sI, sO)) : wpX_removeAt post (nI n, nI q, xc, xp, nI oc, nI dc, nI cc, xs, oI, oO, dI, dO, cI, cO, sI, sO) (nI p) := by
  intro y ey
  rw [nI_1] at ey
  subst ey
  exact ⟨cc + 1, xv_rm4 hc hp k (cc + 1) (p + 1) cI cO (by omega) (by omega) (by omega) (fun j _ => ⟨rfl, rfl⟩) (fun j h1 h2 => absurd h2 (by omega)) (fun j _ => ⟨rfl, rfl⟩)⟩
end
end
section
/-! the component: raising a cube, dropping what lies inside it, literals -/
theorem tw_ri_same {n q i : Nat} {P D : List (Int32 × Int32)} {O I : Int32} (h : tw_ri n q P D O I i ||| ((3 : Int32) <<< (nI (2 * i) &&& 31)) = tw_ri n q P D O I i) : tw_ri n q P D O I (i + 1) = tw_ri n q P D O I i := by
  show tw_if (tw_imp n q P D (tw_ri n q P D O I i ||| ((3 : Int32) <<< (nI (2 * i) &&& 31))) O) (tw_ri n q P D O I i ||| ((3 : Int32) <<< (nI (2 * i) &&& 31))) (tw_ri n q P D O I i) = _
  rw [h]
  by_cases z : tw_imp n q P D (tw_ri n q P D O I i) O
  · exact tw_if_t z
  · exact tw_if_f z
theorem tw_ri_t {n q i : Nat} {P D : List (Int32 × Int32)} {O I : Int32} (h : tw_imp n q P D (tw_ri n q P D O I i ||| ((3 : Int32) <<< (nI (2 * i) &&& 31))) O) : tw_ri n q P D O I (i + 1) = tw_ri n q P D O I i ||| ((3 : Int32) <<< (nI (2 * i) &&& 31)) := tw_if_t h
theorem tw_ri_f {n q i : Nat} {P D : List (Int32 × Int32)} {O I : Int32} (h : ¬ tw_imp n q P D (tw_ri n q P D O I i ||| ((3 : Int32) <<< (nI (2 * i) &&& 31))) O) : tw_ri n q P D O I (i + 1) = tw_ri n q P D O I i := tw_if_f h
theorem tw_ro_same {n q i : Nat} {P D : List (Int32 × Int32)} {O I : Int32} (h : tw_ro n q P D I O i ||| ((1 : Int32) <<< (nI i &&& 31)) = tw_ro n q P D I O i) : tw_ro n q P D I O (i + 1) = tw_ro n q P D I O i := by
  show tw_if (tw_imp n q P D I (tw_ro n q P D I O i ||| ((1 : Int32) <<< (nI i &&& 31)))) (tw_ro n q P D I O i ||| ((1 : Int32) <<< (nI i &&& 31))) (tw_ro n q P D I O i) = _
  rw [h]
  by_cases z : tw_imp n q P D I (tw_ro n q P D I O i)
  · exact tw_if_t z
  · exact tw_if_f z
theorem tw_ro_t {n q i : Nat} {P D : List (Int32 × Int32)} {O I : Int32} (h : tw_imp n q P D I (tw_ro n q P D I O i ||| ((1 : Int32) <<< (nI i &&& 31)))) : tw_ro n q P D I O (i + 1) = tw_ro n q P D I O i ||| ((1 : Int32) <<< (nI i &&& 31)) := tw_if_t h
theorem tw_ro_f {n q i : Nat} {P D : List (Int32 × Int32)} {O I : Int32} (h : ¬ tw_imp n q P D I (tw_ro n q P D I O i ||| ((1 : Int32) <<< (nI i &&& 31)))) : tw_ro n q P D I O (i + 1) = tw_ro n q P D I O i := tw_if_f h
theorem tw_ro_up {q i : Nat} {O : Int32} (hq : q ≤ 4) (hi : i < q) (h : ∀ o, bt O o = true → o < q) : ∀ o, bt (O ||| ((1 : Int32) <<< (nI i &&& 31))) o = true → o < q := by
  intro o ho
  have hl := tw_lt32 ho
  rw [b_or, tw_bsh i (by omega) o hl, Bool.or_eq_true, decide_eq_true_eq] at ho
  rcases ho with h2 | h2
  · exact h o h2
  · omega
section
variable {n q oc dc cc : Nat} {xc xp xs : Int32} {oI oO dI dO cI cO sI sO : Nat → Int32}
theorem xv_ri2 {post : SX → Prop} {p : Nat} {a0 : Nat → Int32} (hn : n ≤ 8) (hq : q ≤ 4) (ho : oc ≤ 16) (hd : dc ≤ 16) (hp : p < 16) (hO : ∀ o, bt (cO p) o = true → o < q)
    (k : ∀ a : Nat → Int32, a p = tw_ri n q (tw_ls oI oO 0 oc) (tw_ls dI dO 0 dc) (cO p) (a0 p) n → (∀ j, ¬ j = p → a j = a0 j) → post (nI n, nI q, xc, xp, nI oc, nI dc, nI cc, xs, oI, oO, dI, dO, a, cO, sI, sO)) :
    ∀ (f i : Nat) (cI : Nat → Int32), n < f + i → i ≤ n → cI p = tw_ri n q (tw_ls oI oO 0 oc) (tw_ls dI dO 0 dc) (cO p) (a0 p) i → (∀ j, ¬ j = p → cI j = a0 j) → wX_raiseInputs_2 post (nI p) (nI n) (nI q) xc xp (nI oc) (nI dc) (nI cc) xs f (nI i) oI oO dI dO cI cO sI sO := by
  have hcl : (nI p).toNatClampNeg = p := nI_clamp (by omega)
  have hin : vp_in (nI p) 16 := vp_in_nI hp (by decide)
  intro f
  induction f with
  | zero => intro i a h1 h2; omega
  | succ f ih =>
    intro i a h1 h2 h3 h4
    refine pk_le n i (fun h => ?_) (fun h => ?_)
    · have e : i = n := by omega
      subst e
      exact k a h3 h4
    · rw [hcl, tw_2x]
      refine ⟨hin, fun x ex => ⟨hin, br_c (fun z y ey => ?_) (fun z => ⟨hin, xv_avoidsOff hn hq ho hd hO (fun hi => br_f (by decide) ⟨hin, fun b eb y ey => ?_⟩) (fun hi => br_t rfl (fun y ey => ?_))⟩)⟩⟩
      · subst ex ey
        rw [nI_1]
        rw [h3] at z
        exact ih (i + 1) a (by omega) (by omega) (by rw [tw_ri_same z]; exact h3) h4
      · subst ex ey eb
        rw [nI_1]
        rw [h3] at hi
        refine ih (i + 1) _ (by omega) (by omega) ?_ (fun j hj => ?_)
        · rw [pk_us, tw_ri_t hi, h3]
        · rw [pk_un hj]; exact h4 j hj
      · subst ex ey
        rw [nI_1]
        rw [h3] at hi
        exact ih (i + 1) a (by omega) (by omega) (by rw [tw_ri_f hi]; exact h3) h4
theorem xv_raiseInputs {post : SX → Prop} {p : Nat} (hn : n ≤ 8) (hq : q ≤ 4) (ho : oc ≤ 16) (hd : dc ≤ 16) (hp : p < 16) (hO : ∀ o, bt (cO p) o = true → o < q)
    (k : ∀ a : Nat → Int32, a p = tw_ri n q (tw_ls oI oO 0 oc) (tw_ls dI dO 0 dc) (cO p) (cI p) n → (∀ j, ¬ j = p → a j = cI j) → post (nI n, nI q, xc, xp, nI oc, nI dc, nI cc, xs, oI, oO, dI, dO, a, cO, sI, sO)) : wpX_raiseInputs post (nI n, nI q, xc, xp, nI oc, nI dc, nI cc, xs, oI, oO, dI, dO, cI, cO, sI, sO) (nI p) :=
  ⟨n + 1, xv_ri2 hn hq ho hd hp hO k (n + 1) 0 cI (by omega) (by omega) rfl (fun _ _ => rfl)⟩
theorem xv_ro2 {post : SX → Prop} {p : Nat} {b0 : Nat → Int32} (hn : n ≤ 8) (hq : q ≤ 4) (ho : oc ≤ 16) (hd : dc ≤ 16) (hp : p < 16) (hO : ∀ o, bt (b0 p) o = true → o < q)
    (k : ∀ b : Nat → Int32, b p = tw_ro n q (tw_ls oI oO 0 oc) (tw_ls dI dO 0 dc) (cI p) (b0 p) q → (∀ j, ¬ j = p → b j = b0 j) → post (nI n, nI q, xc, xp, nI oc, nI dc, nI cc, xs, oI, oO, dI, dO, cI, b, sI, sO)) :
    ∀ (f i : Nat) (cO : Nat → Int32), q < f + i → i ≤ q → cO p = tw_ro n q (tw_ls oI oO 0 oc) (tw_ls dI dO 0 dc) (cI p) (b0 p) i → (∀ j, ¬ j = p → cO j = b0 j) → wX_raiseOutputs_2 post (nI p) (nI n) (nI q) xc xp (nI oc) (nI dc) (nI cc) xs f (nI i) oI oO dI dO cI cO sI sO := by
  have hcl : (nI p).toNatClampNeg = p := nI_clamp (by omega)
  have hin : vp_in (nI p) 16 := vp_in_nI hp (by decide)
  intro f
  induction f with
  | zero => intro i a h1 h2; omega
  | succ f ih =>
    intro i a h1 h2 h3 h4
    refine pk_le q i (fun h => ?_) (fun h => ?_)
    · have e : i = q := by omega
      subst e
      exact k a h3 h4
    · rw [hcl]
      have hOi : ∀ o, bt (a p) o = true → o < q := by rw [h3]; exact tw_ro_ok hq hO i h2
      refine ⟨hin, fun x ex => ?_⟩
      have hOx : ∀ o, bt x o = true → o < q := by rw [ex]; exact tw_ro_up hq h hOi
      refine ⟨hin, br_c (fun z y ey => ?_) (fun z => ⟨hin, xv_avoidsOff hn hq ho hd hOx (fun hi => br_f (by decide) ⟨hin, fun b eb y ey => ?_⟩) (fun hi => br_t rfl (fun y ey => ?_))⟩)⟩
      · subst ex ey
        rw [nI_1]
        rw [h3] at z
        exact ih (i + 1) a (by omega) (by omega) (by rw [tw_ro_same z]; exact h3) h4
      · subst ex ey eb
        rw [nI_1]
        rw [h3] at hi
        refine ih (i + 1) _ (by omega) (by omega) ?_ (fun j hj => ?_)
        · rw [pk_us, tw_ro_t hi, h3]
        · rw [pk_un hj]; exact h4 j hj
      · subst ex ey
        rw [nI_1]
        rw [h3] at hi
        exact ih (i + 1) a (by omega) (by omega) (by rw [tw_ro_f hi]; exact h3) h4
theorem xv_raiseOutputs {post : SX → Prop} {p : Nat} (hn : n ≤ 8) (hq : q ≤ 4) (ho : oc ≤ 16) (hd : dc ≤ 16) (hp : p < 16) (hO : ∀ o, bt (cO p) o = true → o < q)
    (k : ∀ b : Nat → Int32, b p = tw_ro n q (tw_ls oI oO 0 oc) (tw_ls dI dO 0 dc) (cI p) (cO p) q → (∀ j, ¬ j = p → b j = cO j) → post (nI n, nI q, xc, xp, nI oc, nI dc, nI cc, xs, oI, oO, dI, dO, cI, b, sI, sO)) : wpX_raiseOutputs post (nI n, nI q, xc, xp, nI oc, nI dc, nI cc, xs, oI, oO, dI, dO, cI, cO, sI, sO) (nI p) :=
  ⟨q + 1, xv_ro2 hn hq ho hd hp hO k (q + 1) 0 cO (by omega) (by omega) rfl (fun _ _ => rfl)⟩
theorem xv_dr88 {post : Int32 → SX → Prop} {J23 : Int32 → Int32 → Int32 → (Nat → Int32) → (Nat → Int32) → (Nat → Int32) → (Nat → Int32) → (Nat → Int32) → (Nat → Int32) → (Nat → Int32) → (Nat → Int32) → Prop} {x1 x2 x3 x5 : Int32} {kp i : Nat} (hk : kp < 16) (hi : i < 16)
    (k : J23 (nI (kp + 1)) x5 (nI (i + 1)) oI oO dI dO (upd cI kp (cI i)) (upd cO kp (cO i)) sI sO) : wX_dropCubesInside_88 post J23 x1 x2 x3 (nI kp) x5 (nI i) (nI n) (nI q) xc xp (nI oc) (nI dc) (nI cc) xs oI oO dI dO cI cO sI sO := by
  unfold wX_dropCubesInside_88
  rw [nI_clamp (n := kp) (by omega), nI_clamp (n := i) (by omega)]
  refine ⟨vp_in_nI hi (by decide), vp_in_nI hk (by decide), fun a ea => ⟨vp_in_nI hi (by decide), vp_in_nI hk (by decide), fun b eb y ey z ez => ?_⟩⟩
  subst ea eb ey ez
  rw [nI_1, nI_1]
  exact k
theorem xv_dr23 {post : Int32 → SX → Prop} {p : Nat} {c1 c2 : Int32} {a0 b0 : Nat → Int32} (hc : cc ≤ 16) (hp : p < cc)
    (k : ∀ (L : Nat) (a b : Nat → Int32), L = (tw_G (c1, c2) p a0 b0 cc).length → tw_ls a b 0 L = tw_G (c1, c2) p a0 b0 cc → post (nI (tw_fl (c1, c2) (tw_ls a0 b0 0 p)).length) (nI n, nI q, xc, xp, nI oc, nI dc, nI L, xs, oI, oO, dI, dO, a, b, sI, sO)) :
    ∀ (f i kp kn : Nat) (cI cO : Nat → Int32), cc < f + i → i ≤ cc → kp = (tw_G (c1, c2) p a0 b0 i).length → tw_ls cI cO 0 kp = tw_G (c1, c2) p a0 b0 i → (∀ j, i ≤ j → cI j = a0 j ∧ cO j = b0 j) → (i ≤ p → kn = p) → (p < i → kn = (tw_fl (c1, c2) (tw_ls a0 b0 0 p)).length) →
    wX_dropCubesInside_23 post (nI p) c1 c2 (nI n) (nI q) xc xp (nI oc) (nI dc) (nI cc) xs f (nI kp) (nI kn) (nI i) oI oO dI dO cI cO sI sO := by
  intro f
  induction f with
  | zero => intro i kp kn a b h1 h2; omega
  | succ f ih =>
    intro i kp kn cI cO h1 h2 h3 h4 h5 h6 h7
    have hkp : kp ≤ i := by rw [h3]; exact tw_G_len _ _ _ _ i
    refine pk_le cc i (fun h => ?_) (fun h => ?_)
    · have e : i = cc := by omega
      subst e
      rw [h7 hp]
      exact k kp cI cO h3 h4
    · rw [nI_clamp (n := i) (by omega)]
      obtain ⟨e1, e2⟩ := h5 i (Nat.le_refl _)
      have keep : ∀ kn' : Nat, (i = p ∨ ¬ tw_ins (c1, c2) (a0 i, b0 i)) → (i + 1 ≤ p → kn' = p) → (p < i + 1 → kn' = (tw_fl (c1, c2) (tw_ls a0 b0 0 p)).length) → wX_dropCubesInside_88 post (wX_dropCubesInside_23 post (nI p) c1 c2 (nI n) (nI q) xc xp (nI oc) (nI dc) (nI cc) xs f) (nI p) c1 c2 (nI kp) (nI kn') (nI i) (nI n) (nI q) xc xp (nI oc) (nI dc) (nI cc) xs oI oO dI dO cI cO sI sO := by
        intro kn' hk g1 g2
        refine xv_dr88 (by omega) (by omega) (ih (i + 1) (kp + 1) kn' _ _ (by omega) (by omega) ?_ ?_ (fun j hj => ?_) g1 g2)
        · show _ = (tw_if (i = p ∨ ¬ tw_ins (c1, c2) (a0 i, b0 i)) (tw_G (c1, c2) p a0 b0 i ++ [(a0 i, b0 i)]) (tw_G (c1, c2) p a0 b0 i)).length
          rw [tw_if_t hk, List.length_append, List.length_singleton, ← h3]
        · show _ = tw_if (i = p ∨ ¬ tw_ins (c1, c2) (a0 i, b0 i)) (tw_G (c1, c2) p a0 b0 i ++ [(a0 i, b0 i)]) (tw_G (c1, c2) p a0 b0 i)
          rw [tw_if_t hk, tw_ls_put, h4, e1, e2]
        · rw [pk_un (by omega), pk_un (by omega)]
          exact h5 j (by omega)
      have key : ∀ z : Int32, (z = 0 ↔ ¬ tw_ins (c1, c2) (a0 i, b0 i)) → wX_dropCubesInside_65 post (wX_dropCubesInside_23 post (nI p) c1 c2 (nI n) (nI q) xc xp (nI oc) (nI dc) (nI cc) xs f) (nI p) c1 c2 (nI kp) (nI kn) (nI i) z (nI n) (nI q) xc xp (nI oc) (nI dc) (nI cc) xs oI oO dI dO cI cO sI sO := by
        intro z hz
        refine pk_eq i p (fun e => br_t (by rw [e]) (keep kp (Or.inl e) (fun g => absurd g (by omega)) (fun _ => ?_))) (fun e => br_f ?_ (br_c (fun z0 => keep kn (Or.inr (hz.mp z0)) (fun g => h6 (by omega)) (fun g => h7 (by omega))) (fun z0 y ey => ?_)))
        · rw [h3, e, tw_G_lo _ _ _ _ p (Nat.le_refl _)]
        · rw [nI_eq (by omega) (by omega)]; exact e
        · subst ey
          rw [nI_1]
          have hin : tw_ins (c1, c2) (a0 i, b0 i) := Classical.byContradiction (fun g => z0 (hz.mpr g))
          have hk : ¬ (i = p ∨ ¬ tw_ins (c1, c2) (a0 i, b0 i)) := by
            rintro (g | g)
            · exact e g
            · exact g hin
          have hG : tw_G (c1, c2) p a0 b0 (i + 1) = tw_G (c1, c2) p a0 b0 i := tw_if_f hk
          exact ih (i + 1) kp kn cI cO (by omega) (by omega) (by rw [hG]; exact h3) (by rw [hG]; exact h4) (fun j hj => h5 j (by omega)) (fun g => h6 (by omega)) (fun g => h7 (by omega))
      refine ⟨vp_in_nI (by omega) (by decide), br_c (fun g1 => ⟨vp_in_nI (by omega) (by decide), br_c (fun g2 => key 1 ?_) (fun g2 => key 0 ?_)⟩) (fun g1 => key 0 ?_)⟩
      · rw [tw_insz]
        rw [e1] at g1
        rw [e2] at g2
        exact ⟨fun z => absurd z (by decide), fun z => absurd ⟨g1, g2⟩ z⟩
      · rw [tw_insz]
        rw [e2] at g2
        exact ⟨fun _ z => g2 z.2, fun _ => rfl⟩
      · rw [tw_insz]
        rw [e1] at g1
        exact ⟨fun _ z => g1 z.1, fun _ => rfl⟩
theorem xv_drop {post : Int32 → SX → Prop} {p : Nat} (hc : cc ≤ 16) (hp : p < cc)
    (k : ∀ (L : Nat) (a b : Nat → Int32), tw_ls a b 0 L = tw_fl (cI p, cO p) (tw_ls cI cO 0 p) ++ [(cI p, cO p)] ++ tw_fl (cI p, cO p) (tw_ls cI cO (p + 1) (cc - p - 1)) → post (nI (tw_fl (cI p, cO p) (tw_ls cI cO 0 p)).length) (nI n, nI q, xc, xp, nI oc, nI dc, nI L, xs, oI, oO, dI, dO, a, b, sI, sO)) : wpX_dropCubesInside post (nI n, nI q, xc, xp, nI oc, nI dc, nI cc, xs, oI, oO, dI, dO, cI, cO, sI, sO) (nI p) := by
  have hcl : (nI p).toNatClampNeg = p := nI_clamp (by omega)
  have hin : vp_in (nI p) 16 := vp_in_nI (by omega) (by decide)
  refine ⟨hin, fun x ex => ⟨hin, fun y ey => ⟨cc + 1, ?_⟩⟩⟩
  rw [hcl] at ex ey
  subst ex ey
  refine xv_dr23 hc hp (fun L a b _ h => k L a b ?_) (cc + 1) 0 0 p cI cO (by omega) (by omega) rfl rfl (fun j _ => ⟨rfl, rfl⟩) (fun _ => rfl) (fun g => absurd g (by omega))
  rw [h, tw_G_all _ _ _ hp]
theorem xv_lo4 {post : Int32 → Prop} {I : Int32} (hn : n ≤ 8) (k : post (nI (tw_lc I n))) : ∀ (f i : Nat), n < f + i → i ≤ n → wX_literalsOf_4 post I (nI n) (nI q) xc xp (nI oc) (nI dc) (nI cc) xs oI oO dI dO cI cO sI sO f (nI (tw_lc I i)) (nI i) := by
  intro f
  induction f with
  | zero => intro i h1 h2; omega
  | succ f ih =>
    intro i h1 h2
    refine pk_le n i (fun h => ?_) (fun h x ex => ?_)
    · have e : i = n := by omega
      subst e; exact k
    · rw [tw_2x] at ex
      subst ex
      have hf := tw_lcf I i (by omega)
      have hs : ∀ y z : Int32, (bt I (2 * i) = bt I (2 * i + 1) → y = nI (tw_lc I i)) → (¬ bt I (2 * i) = bt I (2 * i + 1) → y = nI (tw_lc I i) + 1) → z = nI i + 1 → wX_literalsOf_4 post I (nI n) (nI q) xc xp (nI oc) (nI dc) (nI cc) xs oI oO dI dO cI cO sI sO f y z := by
        intro y z g1 g2 ez
        have ey : y = nI (tw_lc I (i + 1)) := by
          show y = nI (tw_lc I i + (if bt I (2 * i) = bt I (2 * i + 1) then 0 else 1))
          by_cases g : bt I (2 * i) = bt I (2 * i + 1)
          · rw [if_pos g, g1 g]; rfl
          · rw [if_neg g, g2 g, nI_1]
        subst ey ez
        rw [nI_1]
        exact ih (i + 1) (by omega) (by omega)
      refine br_c (fun g y ey z ez => hs y z (fun e => absurd e (hf.mp (Or.inl g))) (fun _ => ey) ez) (fun g => br_c (fun g2 y ey z ez => hs y z (fun e => absurd e (hf.mp (Or.inr g2))) (fun _ => ey) ez) (fun g2 z ez => hs _ z (fun _ => rfl) (fun e => ?_) ez))
      rcases hf.mpr e with g3 | g3
      · exact absurd g3 g
      · exact absurd g3 g2
theorem xv_literalsOf {post : Int32 → Prop} {I : Int32} (hn : n ≤ 8) (k : post (nI (tw_lc I n))) : wpX_literalsOf post (nI n, nI q, xc, xp, nI oc, nI dc, nI cc, xs, oI, oO, dI, dO, cI, cO, sI, sO) I :=
  ⟨n + 1, xv_lo4 hn k (n + 1) 0 (by omega) (by omega)⟩
theorem xv_lc4 {post : Int32 → Prop} (hn : n ≤ 8) (hc : cc ≤ 16) (k : post (nI (tw_li n (tw_ls cI cO 0 cc)))) : ∀ (f i : Nat), cc < f + i → i ≤ cc → wX_literalCount_4 post (nI n) (nI q) xc xp (nI oc) (nI dc) (nI cc) xs oI oO dI dO cI cO sI sO f (nI (tw_li n (tw_ls cI cO 0 i))) (nI i) := by
  intro f
  induction f with
  | zero => intro i h1 h2; omega
  | succ f ih =>
    intro i h1 h2
    refine pk_le cc i (fun h => ?_) (fun h => ⟨vp_in_nI (by omega) (by decide), xv_literalsOf hn (fun y ey z ez => ?_)⟩)
    · have e : i = cc := by omega
      subst e; exact k
    · rw [nI_clamp (n := i) (by omega), nI_add] at ey
      have e2 : tw_li n (tw_ls cI cO 0 (i + 1)) = tw_li n (tw_ls cI cO 0 i) + tw_lc (cI i) n := by
        rw [tw_ls_snoc, tw_li_app, Nat.zero_add]
        rfl
      rw [← e2] at ey
      subst ey ez
      rw [nI_1]
      exact ih (i + 1) (by omega) (by omega)
theorem xv_literalCount {post : Int32 → Prop} (hn : n ≤ 8) (hc : cc ≤ 16) (k : post (nI (tw_li n (tw_ls cI cO 0 cc)))) : wpX_literalCount post (nI n, nI q, xc, xp, nI oc, nI dc, nI cc, xs, oI, oO, dI, dO, cI, cO, sI, sO) :=
  ⟨cc + 1, xv_lc4 hn hc k (cc + 1) 0 (by omega) (by omega)⟩
end
end
section
/-! the component: the passes and the public methods -/
theorem tw_ls_split {a b : Nat → Int32} {L : Nat} {U V : List (Int32 × Int32)} (h : tw_ls a b 0 L = U ++ V) : L = U.length + V.length ∧ tw_ls a b 0 U.length = U ∧ tw_ls a b U.length (L - U.length) = V := by
  have hl : L = U.length + V.length := by
    have h2 := congrArg List.length h
    rw [tw_ls_len, List.length_append] at h2
    exact h2
  refine ⟨hl, ?_⟩
  have h3 : L = U.length + (L - U.length) := by omega
  rw [h3, tw_ls_app, Nat.zero_add] at h
  have h4 := List.append_inj h (tw_ls_len a b _ _)
  exact h4
theorem tw_ls_cons {a b : Nat → Int32} {p c : Nat} (h : p < c) : tw_ls a b p (c - p) = (a p, b p) :: tw_ls a b (p + 1) (c - p - 1) := by
  obtain ⟨r, rfl⟩ : ∃ r, c = p + (r + 1) := ⟨c - p - 1, by omega⟩
  rw [show p + (r + 1) - p = r + 1 from by omega]
  rfl
theorem tw_ls_two {a b : Nat → Int32} {p c : Nat} (h : p ≤ c) : tw_ls a b 0 c = tw_ls a b 0 p ++ tw_ls a b p (c - p) := by
  obtain ⟨r, rfl⟩ : ∃ r, c = p + r := ⟨c - p, by omega⟩
  rw [tw_ls_app, Nat.zero_add, show p + r - p = r from by omega]
theorem tw_ls_nil {a b : Nat → Int32} {p c : Nat} (h : c ≤ p) : tw_ls a b p (c - p) = [] := by
  rw [show c - p = 0 from by omega]
  rfl
theorem tw_ex_nil {n q : Nat} {P D A : List (Int32 × Int32)} : ∀ g, tw_ex n q P D g A [] = A := by
  intro g
  cases g with
  | zero => simp only [tw_ex, List.append_nil]
  | succ g => simp only [tw_ex]
theorem tw_val_at {q p c : Nat} {a b : Nat → Int32} (h : tw_val q (tw_ls a b 0 c)) (hp : p < c) : ∀ o, bt (b p) o = true → o < q := h (a p, b p) ((tw_ls_mem a b c 0).mpr ⟨p, by omega, by omega, rfl⟩)
/-- one step of expand, as lists: what is cut off the arrays after the drop -/
theorem tw_ex_step {n q g p c L : Nat} {P D : List (Int32 × Int32)} {a b a1 b1 a2 b2 : Nat → Int32} (hq : q ≤ 4) (hp : p < c) (hv : tw_val q (tw_ls a b 0 c))
    (ha : a1 p = tw_ri n q P D (b p) (a p) n) (ha' : ∀ j, ¬ j = p → a1 j = a j) (hb : b1 p = tw_ro n q P D (a1 p) (b p) q) (hb' : ∀ j, ¬ j = p → b1 j = b j)
    (hL : tw_ls a2 b2 0 L = tw_fl (a1 p, b1 p) (tw_ls a1 b1 0 p) ++ [(a1 p, b1 p)] ++ tw_fl (a1 p, b1 p) (tw_ls a1 b1 (p + 1) (c - p - 1))) :
    (tw_fl (a1 p, b1 p) (tw_ls a1 b1 0 p)).length + 1 ≤ L ∧ L ≤ c ∧ L - ((tw_fl (a1 p, b1 p) (tw_ls a1 b1 0 p)).length + 1) ≤ c - p - 1 ∧ tw_val q (tw_ls a2 b2 0 L) ∧
    tw_ex n q P D g (tw_ls a2 b2 0 ((tw_fl (a1 p, b1 p) (tw_ls a1 b1 0 p)).length + 1)) (tw_ls a2 b2 ((tw_fl (a1 p, b1 p) (tw_ls a1 b1 0 p)).length + 1) (L - ((tw_fl (a1 p, b1 p) (tw_ls a1 b1 0 p)).length + 1))) = tw_ex n q P D (g + 1) (tw_ls a b 0 p) (tw_ls a b p (c - p)) := by
  have e1 : tw_ls a1 b1 0 p = tw_ls a b 0 p := tw_ls_eq (fun j _ hj => ⟨ha' j (by omega), hb' j (by omega)⟩)
  have e2 : tw_ls a1 b1 (p + 1) (c - p - 1) = tw_ls a b (p + 1) (c - p - 1) := tw_ls_eq (fun j hj _ => ⟨ha' j (by omega), hb' j (by omega)⟩)
  have e3 : (a1 p, b1 p) = tw_rz n q P D (a p, b p) := by
    unfold tw_rz
    rw [hb, ha]
  rw [e1, e2] at hL
  rw [e1]
  rw [e3] at hL ⊢
  generalize hc' : tw_rz n q P D (a p, b p) = c' at hL ⊢
  obtain ⟨s1, s2, s3⟩ := tw_ls_split hL
  rw [List.length_append, List.length_singleton] at s1 s2 s3
  have l1 := tw_fl_len c' (tw_ls a b 0 p)
  have l2 := tw_fl_len c' (tw_ls a b (p + 1) (c - p - 1))
  rw [tw_ls_len] at l1 l2
  refine ⟨by omega, by omega, by omega, ?_, ?_⟩
  · rw [hL]
    rw [tw_ls_cut a b hp] at hv
    refine tw_val_app (tw_val_app (tw_val_fl (tw_val_l hv)) (tw_val_1 ?_)) (tw_val_fl (tw_val_c (tw_val_r hv)).2)
    rw [← hc']
    exact tw_rz_ok hq (tw_val_c (tw_val_r hv)).1
  · rw [s2, s3, tw_ls_cons hp]
    simp only [tw_ex]
    rw [hc']
section
variable {n q oc dc cc : Nat} {xc xp xs : Int32} {oI oO dI dO cI cO sI sO : Nat → Int32}
theorem xv_ex13 {post : Int32 → SX → Prop} (hn : n ≤ 8) (hq : q ≤ 4) (ho : oc ≤ 16) (hd : dc ≤ 16) :
    ∀ (g st p cc : Nat) (cI cO : Nat → Int32), st + g ≤ 16 → p ≤ cc → cc ≤ 16 → cc - p ≤ g → tw_val q (tw_ls cI cO 0 cc) →
    (∀ (L : Nat) (a b : Nat → Int32), L ≤ 16 → tw_ls a b 0 L = tw_ex n q (tw_ls oI oO 0 oc) (tw_ls dI dO 0 dc) g (tw_ls cI cO 0 p) (tw_ls cI cO p (cc - p)) → post (nI L) (nI n, nI q, xc, xp, nI oc, nI dc, nI L, xs, oI, oO, dI, dO, a, b, sI, sO)) →
    wX_expand_13 post (g + 1) (nI p) (nI st) (nI n) (nI q) xc xp (nI oc) (nI dc) (nI cc) xs oI oO dI dO cI cO sI sO := by
  intro g
  induction g with
  | zero =>
    intro st p cc cI cO h1 h2 h3 h4 hv k
    have kk : post (nI cc) (nI n, nI q, xc, xp, nI oc, nI dc, nI cc, xs, oI, oO, dI, dO, cI, cO, sI, sO) := by
      refine k cc cI cO h3 ?_
      rw [tw_ls_nil (by omega), tw_ex_nil, show cc = p from by omega]
    exact pk_le 16 st (fun _ => kk) (fun _ => pk_le cc p (fun _ => kk) (fun h => absurd h (by omega)))
  | succ g ih =>
    intro st p cc cI cO h1 h2 h3 h4 hv k
    refine pk_le 16 st (fun h => absurd h (by omega)) (fun _ => pk_le cc p (fun h => k cc cI cO h3 ?_) (fun h => ?_))
    · rw [tw_ls_nil h, tw_ex_nil, show cc = p from by omega]
    · have hO := tw_val_at hv h
      refine xv_raiseInputs hn hq ho hd (by omega) hO (fun a ha ha' => ?_)
      refine xv_raiseOutputs hn hq ho hd (by omega) hO (fun b hb hb' => ?_)
      refine xv_drop h3 h (fun L a2 b2 hL y ey z ez => ?_)
      obtain ⟨s1, s2, s3, s4, s5⟩ := tw_ex_step (g := g) hq h hv ha ha' hb hb' hL
      rw [nI_1] at ey ez
      subst ey ez
      exact ih (st + 1) _ L a2 b2 (by omega) s1 (by omega) (by omega) s4 (fun L2 a3 b3 g1 g2 => k L2 a3 b3 g1 (by rw [g2, s5]))
theorem xv_expand {post : Int32 → SX → Prop} (hn : n ≤ 8) (hq : q ≤ 4) (ho : oc ≤ 16) (hd : dc ≤ 16) (hc : cc ≤ 16) (hv : tw_val q (tw_ls cI cO 0 cc)) (k0 : xp = 0 → post (-1) (nI n, nI q, xc, xp, nI oc, nI dc, nI cc, xs, oI, oO, dI, dO, cI, cO, sI, sO))
    (k : ¬ xp = 0 → ∀ (L : Nat) (a b : Nat → Int32), L ≤ 16 → tw_ls a b 0 L = tw_ex n q (tw_ls oI oO 0 oc) (tw_ls dI dO 0 dc) 16 [] (tw_ls cI cO 0 cc) → post (nI L) (nI n, nI q, xc, xp, nI oc, nI dc, nI L, xs, oI, oO, dI, dO, a, b, sI, sO)) : wpX_expand post (nI n, nI q, xc, xp, nI oc, nI dc, nI cc, xs, oI, oO, dI, dO, cI, cO, sI, sO) :=
  br_c k0 (fun h => ⟨17, xv_ex13 hn hq ho hd 16 0 0 cc cI cO (by omega) (by omega) hc (by omega) hv (k h)⟩)
theorem tw_val_rm {q p c : Nat} {a b a' b' : Nat → Int32} (hp : p < c) (hv : tw_val q (tw_ls a b 0 c)) (h : tw_ls a' b' 0 (c - 1) = tw_ls a b 0 p ++ tw_ls a b (p + 1) (c - p - 1)) : tw_val q (tw_ls a' b' 0 (c - 1)) ∧ tw_ls a' b' 0 p = tw_ls a b 0 p ∧ tw_ls a' b' p (c - 1 - p) = tw_ls a b (p + 1) (c - p - 1) := by
  have hs := tw_ls_split h
  rw [tw_ls_len] at hs
  rw [tw_ls_cut a b hp] at hv
  exact ⟨by rw [h]; exact tw_val_app (tw_val_l hv) (tw_val_c (tw_val_r hv)).2, hs.2.1, hs.2.2⟩
theorem xv_ir13 {post : Int32 → SX → Prop} (hn : n ≤ 8) (hq : q ≤ 4) (ho : oc ≤ 16) (hd : dc ≤ 16) :
    ∀ (g st p cc : Nat) (cI cO : Nat → Int32), st + g ≤ 16 → p ≤ cc → cc ≤ 16 → cc - p = g → tw_val q (tw_ls cI cO 0 cc) →
    (∀ (L : Nat) (a b : Nat → Int32), L ≤ 16 → tw_ls a b 0 L = tw_ir n q (tw_ls oI oO 0 oc) (tw_ls dI dO 0 dc) (tw_ls cI cO 0 p) (tw_ls cI cO p (cc - p)) → post (nI L) (nI n, nI q, xc, xp, nI oc, nI dc, nI L, xs, oI, oO, dI, dO, a, b, sI, sO)) →
    wX_irredundant_13 post (g + 1) (nI p) (nI st) (nI n) (nI q) xc xp (nI oc) (nI dc) (nI cc) xs oI oO dI dO cI cO sI sO := by
  intro g
  induction g with
  | zero =>
    intro st p cc cI cO h1 h2 h3 h4 hv k
    have kk : post (nI cc) (nI n, nI q, xc, xp, nI oc, nI dc, nI cc, xs, oI, oO, dI, dO, cI, cO, sI, sO) := by
      refine k cc cI cO h3 ?_
      rw [tw_ls_nil (by omega), show cc = p from by omega]
      simp only [tw_ir]
    exact pk_le 16 st (fun _ => kk) (fun _ => pk_le cc p (fun _ => kk) (fun h => absurd h (by omega)))
  | succ g ih =>
    intro st p cc cI cO h1 h2 h3 h4 hv k
    refine pk_le 16 st (fun h => absurd h (by omega)) (fun _ => pk_le cc p (fun h => absurd h (by omega)) (fun h => ?_))
    have hO := tw_val_at hv h
    rw [tw_ls_cons h] at k
    simp only [tw_ir] at k
    refine xv_has hn hq ho hd h3 h hO (fun hh => br_f (by decide) (fun y ey z ez => ?_)) (fun hh => br_t rfl (xv_removeAt h3 h (fun a b hab z ez => ?_)))
    · rw [nI_1] at ey ez
      subst ey ez
      rw [tw_if_t hh] at k
      refine ih (st + 1) (p + 1) cc cI cO (by omega) (by omega) h3 (by omega) hv ?_
      rw [tw_ls_snoc, Nat.zero_add, show cc - (p + 1) = cc - p - 1 from by omega]
      exact k
    · rw [nI_1] at ez
      subst ez
      rw [tw_if_f hh] at k
      obtain ⟨s1, s2, s3⟩ := tw_val_rm h hv hab
      refine ih (st + 1) p (cc - 1) a b (by omega) (by omega) (by omega) (by omega) s1 ?_
      rw [s2, s3]
      exact k
theorem xv_irredundant {post : Int32 → SX → Prop} (hn : n ≤ 8) (hq : q ≤ 4) (ho : oc ≤ 16) (hd : dc ≤ 16) (hc : cc ≤ 16) (hv : tw_val q (tw_ls cI cO 0 cc)) (k0 : xp = 0 → post (-1) (nI n, nI q, xc, xp, nI oc, nI dc, nI cc, xs, oI, oO, dI, dO, cI, cO, sI, sO))
    (k : ¬ xp = 0 → ∀ (L : Nat) (a b : Nat → Int32), L ≤ 16 → tw_ls a b 0 L = tw_ir n q (tw_ls oI oO 0 oc) (tw_ls dI dO 0 dc) [] (tw_ls cI cO 0 cc) → post (nI L) (nI n, nI q, xc, xp, nI oc, nI dc, nI L, xs, oI, oO, dI, dO, a, b, sI, sO)) : wpX_irredundant post (nI n, nI q, xc, xp, nI oc, nI dc, nI cc, xs, oI, oO, dI, dO, cI, cO, sI, sO) :=
  br_c k0 (fun h => ⟨cc + 1, xv_ir13 hn hq ho hd cc 0 0 cc cI cO (by omega) (by omega) hc (by omega) hv (k h)⟩)
theorem tw_val_set {q p c : Nat} {a b : Nat → Int32} {I O : Int32} (hp : p < c) (hv : tw_val q (tw_ls a b 0 c)) (hO : ∀ o, bt O o = true → o < q) : tw_val q (tw_ls (upd a p I) (upd b p O) 0 c) ∧ tw_ls (upd a p I) (upd b p O) 0 (p + 1) = tw_ls a b 0 p ++ [(I, O)] ∧ tw_ls (upd a p I) (upd b p O) (p + 1) (c - (p + 1)) = tw_ls a b (p + 1) (c - p - 1) := by
  rw [tw_ls_cut a b hp] at hv
  refine ⟨?_, tw_ls_put a b p I O, ?_⟩
  · rw [tw_ls_set a b I O hp]
    intro d hd
    rcases List.mem_append.mp hd with h | h
    · exact tw_val_l hv d h
    · rcases List.mem_cons.mp h with e | h2
      · rw [e]; exact hO
      · exact (tw_val_c (tw_val_r hv)).2 d h2
  · rw [show c - (p + 1) = c - p - 1 from by omega]
    exact tw_ls_eq (fun j hj _ => ⟨pk_un (by omega), pk_un (by omega)⟩)
theorem xv_rd13 {post : Int32 → SX → Prop} (hn : n ≤ 8) (hq : q ≤ 4) (ho : oc ≤ 16) (hd : dc ≤ 16) :
    ∀ (g st p cc : Nat) (cI cO : Nat → Int32), st + g ≤ 16 → p ≤ cc → cc ≤ 16 → cc - p = g → tw_val q (tw_ls cI cO 0 cc) →
    (∀ (L : Nat) (a b : Nat → Int32), L ≤ 16 → tw_ls a b 0 L = tw_rd n q (tw_ls oI oO 0 oc) (tw_ls dI dO 0 dc) (tw_ls cI cO 0 p) (tw_ls cI cO p (cc - p)) → post (nI L) (nI n, nI q, xc, xp, nI oc, nI dc, nI L, xs, oI, oO, dI, dO, a, b, sI, sO)) →
    wX_reduce_13 post (g + 1) (nI p) (nI st) (nI n) (nI q) xc xp (nI oc) (nI dc) (nI cc) xs oI oO dI dO cI cO sI sO := by
  intro g
  induction g with
  | zero =>
    intro st p cc cI cO h1 h2 h3 h4 hv k
    have kk : post (nI cc) (nI n, nI q, xc, xp, nI oc, nI dc, nI cc, xs, oI, oO, dI, dO, cI, cO, sI, sO) := by
      refine k cc cI cO h3 ?_
      rw [tw_ls_nil (by omega), show cc = p from by omega]
      simp only [tw_rd]
    exact pk_le 16 st (fun _ => kk) (fun _ => pk_le cc p (fun _ => kk) (fun h => absurd h (by omega)))
  | succ g ih =>
    intro st p cc cI cO h1 h2 h3 h4 hv k
    refine pk_le 16 st (fun h => absurd h (by omega)) (fun _ => pk_le cc p (fun h => absurd h (by omega)) (fun h => ?_))
    have hO := tw_val_at hv h
    rw [tw_ls_cons h] at k
    simp only [tw_rd] at k
    refine xv_shrink hn hq ho hd h3 h hO (fun hh I O hIO => br_f (by decide) (fun y ey z ez => ?_)) (fun hh => br_t rfl (xv_removeAt h3 h (fun a b hab z ez => ?_)))
    · rw [nI_1] at ey ez
      subst ey ez
      rw [tw_if_t hh, ← hIO] at k
      have hOk : ∀ o, bt O o = true → o < q := by
        have h5 : O = (tw_rc n q (tw_ls oI oO 0 oc) (tw_ls dI dO 0 dc) (cI p, cO p) (tw_ls cI cO 0 p ++ tw_ls cI cO (p + 1) (cc - p - 1))).2 := congrArg Prod.snd hIO
        rw [h5]
        exact tw_rc_ok
      obtain ⟨s1, s2, s3⟩ := tw_val_set (I := I) (O := O) h hv hOk
      refine ih (st + 1) (p + 1) cc _ _ (by omega) (by omega) h3 (by omega) s1 ?_
      rw [s2, s3]
      exact k
    · rw [nI_1] at ez
      subst ez
      rw [tw_if_f hh] at k
      obtain ⟨s1, s2, s3⟩ := tw_val_rm h hv hab
      refine ih (st + 1) p (cc - 1) a b (by omega) (by omega) (by omega) (by omega) s1 ?_
      rw [s2, s3]
      exact k
theorem xv_reduce {post : Int32 → SX → Prop} (hn : n ≤ 8) (hq : q ≤ 4) (ho : oc ≤ 16) (hd : dc ≤ 16) (hc : cc ≤ 16) (hv : tw_val q (tw_ls cI cO 0 cc)) (k0 : xp = 0 → post (-1) (nI n, nI q, xc, xp, nI oc, nI dc, nI cc, xs, oI, oO, dI, dO, cI, cO, sI, sO))
    (k : ¬ xp = 0 → ∀ (L : Nat) (a b : Nat → Int32), L ≤ 16 → tw_ls a b 0 L = tw_rd n q (tw_ls oI oO 0 oc) (tw_ls dI dO 0 dc) [] (tw_ls cI cO 0 cc) → post (nI L) (nI n, nI q, xc, xp, nI oc, nI dc, nI L, xs, oI, oO, dI, dO, a, b, sI, sO)) : wpX_reduce post (nI n, nI q, xc, xp, nI oc, nI dc, nI cc, xs, oI, oO, dI, dO, cI, cO, sI, sO) :=
  br_c k0 (fun h => ⟨cc + 1, xv_rd13 hn hq ho hd cc 0 0 cc cI cO (by omega) (by omega) hc (by omega) hv (k h)⟩)
theorem xv_saveCover {post : SX → Prop} (hc : cc ≤ 16) (k : ∀ a b : Nat → Int32, tw_ls a b 0 cc = tw_ls cI cO 0 cc → post (nI n, nI q, xc, xp, nI oc, nI dc, nI cc, nI cc, oI, oO, dI, dO, cI, cO, a, b)) : wpX_saveCover post (nI n, nI q, xc, xp, nI oc, nI dc, nI cc, xs, oI, oO, dI, dO, cI, cO, sI, sO) := by
  unfold wpX_saveCover
  refine xv_cp_cI_sI hc (fun a ha => ?_)
  refine xv_cp_cO_sO hc (fun b hb => ?_)
  exact k a b (tw_ls_eq (fun j _ hj => ⟨ha j (by omega), hb j (by omega)⟩))
theorem xv_restoreCover {post : SX → Prop} {sc : Nat} (hc : sc ≤ 16) (k : ∀ a b : Nat → Int32, tw_ls a b 0 sc = tw_ls sI sO 0 sc → post (nI n, nI q, xc, xp, nI oc, nI dc, nI sc, nI sc, oI, oO, dI, dO, a, b, sI, sO)) : wpX_restoreCover post (nI n, nI q, xc, xp, nI oc, nI dc, nI cc, nI sc, oI, oO, dI, dO, cI, cO, sI, sO) := by
  unfold wpX_restoreCover
  refine xv_cp_sI_cI hc (fun a ha => ?_)
  refine xv_cp_sO_cO hc (fun b hb => ?_)
  exact k a b (tw_ls_eq (fun j _ hj => ⟨ha j (by omega), hb j (by omega)⟩))
end
/-- what improve makes of the cover, before it is weighed -/
noncomputable def tw_im (n q : Nat) (P D L : List (Int32 × Int32)) : List (Int32 × Int32) := tw_ir n q P D [] (tw_ex n q P D 16 [] (tw_rd n q P D [] L))
def tw_bet (n : Nat) (A B : List (Int32 × Int32)) : Prop := A.length < B.length ∨ (A.length = B.length ∧ tw_li n A < tw_li n B)
theorem tw_li_lt {n : Nat} {a b : Nat → Int32} {c : Nat} (hn : n ≤ 8) (hc : c ≤ 16) : tw_li n (tw_ls a b 0 c) < 2 ^ 31 := by
  have h := tw_li_le n (tw_ls a b 0 c)
  rw [tw_ls_len] at h
  have h2 : n * c ≤ 8 * 16 := Nat.mul_le_mul hn hc
  omega
section
variable {n q oc dc cc : Nat} {xc xp xs : Int32} {oI oO dI dO cI cO sI sO : Nat → Int32}
theorem xv_improve {post : Int32 → SX → Prop} (hn : n ≤ 8) (hq : q ≤ 4) (ho : oc ≤ 16) (hd : dc ≤ 16) (hc : cc ≤ 16) (hv : tw_val q (tw_ls cI cO 0 cc)) (k0 : xp = 0 → post (-1) (nI n, nI q, xc, xp, nI oc, nI dc, nI cc, xs, oI, oO, dI, dO, cI, cO, sI, sO))
    (k1 : ¬ xp = 0 → tw_bet n (tw_im n q (tw_ls oI oO 0 oc) (tw_ls dI dO 0 dc) (tw_ls cI cO 0 cc)) (tw_ls cI cO 0 cc) → ∀ (L : Nat) (a b s t : Nat → Int32) (x : Int32), L ≤ 16 → tw_ls a b 0 L = tw_im n q (tw_ls oI oO 0 oc) (tw_ls dI dO 0 dc) (tw_ls cI cO 0 cc) → post 1 (nI n, nI q, xc, xp, nI oc, nI dc, nI L, x, oI, oO, dI, dO, a, b, s, t))
    (k2 : ¬ xp = 0 → ¬ tw_bet n (tw_im n q (tw_ls oI oO 0 oc) (tw_ls dI dO 0 dc) (tw_ls cI cO 0 cc)) (tw_ls cI cO 0 cc) → ∀ (a b s t : Nat → Int32) (x : Int32), tw_ls a b 0 cc = tw_ls cI cO 0 cc → post 0 (nI n, nI q, xc, xp, nI oc, nI dc, nI cc, x, oI, oO, dI, dO, a, b, s, t)) : wpX_improve post (nI n, nI q, xc, xp, nI oc, nI dc, nI cc, xs, oI, oO, dI, dO, cI, cO, sI, sO) := by
  refine br_c k0 (fun h => xv_literalCount hn hc ?_)
  refine xv_saveCover hc (fun s t hst => ?_)
  refine xv_reduce hn hq ho hd hc hv (fun z => absurd z h) (fun _ L1 a1 b1 hL1 h1 => ?_)
  have hv1 : tw_val q (tw_ls a1 b1 0 L1) := by rw [h1]; exact (tw_rd_keep _ _ tw_val_nil hv).1
  refine xv_expand hn hq ho hd hL1 hv1 (fun z => absurd z h) (fun _ L2 a2 b2 hL2 h2 => ?_)
  have hv2 : tw_val q (tw_ls a2 b2 0 L2) := by rw [h2]; exact (tw_ex_keep hq _ _ _ tw_val_nil hv1).1
  refine xv_irredundant hn hq ho hd hL2 hv2 (fun z => absurd z h) (fun _ L3 a3 b3 hL3 h3 => ?_)
  have h4 : tw_ls a3 b3 0 L3 = tw_im n q (tw_ls oI oO 0 oc) (tw_ls dI dO 0 dc) (tw_ls cI cO 0 cc) := by
    unfold tw_im
    rw [h3, h2, h1]
  have hl3 := tw_li_lt (a := a3) (b := b3) hn hL3
  have hl0 := tw_li_lt (a := cI) (b := cO) hn hc
  have hlen : (tw_im n q (tw_ls oI oO 0 oc) (tw_ls dI dO 0 dc) (tw_ls cI cO 0 cc)).length = L3 := by rw [← h4, tw_ls_len]
  have hlen0 : (tw_ls cI cO 0 cc).length = cc := tw_ls_len _ _ _ _
  refine xv_literalCount hn hL3 ?_
  have back : ¬ tw_bet n (tw_im n q (tw_ls oI oO 0 oc) (tw_ls dI dO 0 dc) (tw_ls cI cO 0 cc)) (tw_ls cI cO 0 cc) → wX_improve_69 post (nI n) (nI q) xc xp (nI oc) (nI dc) (nI L3) (nI cc) oI oO dI dO a3 b3 s t := by
    intro hb
    unfold wX_improve_69
    refine xv_restoreCover hc (fun a b hab => ?_)
    exact k2 h hb a b s t (nI cc) (by rw [hab, hst])
  refine pk_le cc L3 (fun g => pk_eq L3 cc (fun g2 => ?_) (fun g2 => back ?_)) (fun g => k1 h ?_ L3 a3 b3 s t _ hL3 h4)
  · refine pk_le (tw_li n (tw_ls cI cO 0 cc)) (tw_li n (tw_ls a3 b3 0 L3)) (fun g3 => back ?_) (fun g3 => k1 h ?_ L3 a3 b3 s t _ hL3 h4)
    · unfold tw_bet
      rw [hlen, hlen0, ← h4]
      omega
    · unfold tw_bet
      rw [hlen, hlen0, ← h4]
      omega
  · unfold tw_bet
    rw [hlen, hlen0]
    omega
  · unfold tw_bet
    rw [hlen, hlen0]
    omega
theorem xv_isPoint {post : Int32 → Prop} {v w : Int32} (hn : n ≤ 8) (hq : q ≤ 4) (k1 : ∀ m o, m < 2 ^ n → o < q → v = nI m → w = nI o → post 1) (k0 : (¬ ∃ m o, m < 2 ^ n ∧ o < q ∧ v = nI m ∧ w = nI o) → post 0) : wpX_isPoint post (nI n, nI q, xc, xp, nI oc, nI dc, nI cc, xs, oI, oO, dI, dO, cI, cO, sI, sO) v w := by
  have e : (1 : Int32) <<< (nI n &&& 31) = nI (2 ^ n) := tw_p2 n (by omega)
  have hp := tw_pow8 hn
  refine br_c (fun h => k0 ?_) (fun h => br_c (fun h2 => k0 ?_) (fun h2 => br_c (fun h3 => k0 ?_) (fun h3 => br_c (fun h4 => k0 ?_) (fun h4 => ?_))))
  · rintro ⟨m, o, h5, h6, rfl, rfl⟩
    exact nI_pos (by omega) h
  · rintro ⟨m, o, h5, h6, rfl, rfl⟩
    rw [e, nI_leI (by omega) (by omega)] at h2
    omega
  · rintro ⟨m, o, h5, h6, rfl, rfl⟩
    exact nI_pos (by omega) h3
  · rintro ⟨m, o, h5, h6, rfl, rfl⟩
    rw [nI_leI (by omega) (by omega)] at h4
    omega
  · obtain ⟨m, hm, rfl⟩ := nI_of h
    obtain ⟨o, ho, rfl⟩ := nI_of h3
    rw [e, nI_leI (by omega) hm] at h2
    rw [nI_leI (by omega) ho] at h4
    exact k1 m o (by omega) (by omega) rfl rfl
theorem xv_evaluate {post : Int32 → Prop} {v w : Int32} (hn : n ≤ 8) (hq : q ≤ 4) (hc : cc ≤ 16) (k1 : ∀ m o, m < 2 ^ n → o < q → v = nI m → w = nI o → post (tw_if (tw_hit n (tw_ls cI cO 0 cc) m o) 1 0)) (k0 : (¬ ∃ m o, m < 2 ^ n ∧ o < q ∧ v = nI m ∧ w = nI o) → post (-5)) : wpX_evaluate post (nI n, nI q, xc, xp, nI oc, nI dc, nI cc, xs, oI, oO, dI, dO, cI, cO, sI, sO) v w := by
  have hp := tw_pow8 hn
  unfold wpX_evaluate
  refine xv_isPoint hn hq (fun m o hm ho ev ew => br_f (by decide) ?_) (fun h => br_t rfl (k0 h))
  subst ev ew
  refine xv_pm hn (by omega) (xv_oa_cI hn hc (fun r hr => ?_))
  rw [tw_bit1 r o (by omega)]
  have h2 := k1 m o hm ho rfl rfl
  by_cases g : tw_hit n (tw_ls cI cO 0 cc) m o
  · rw [tw_if_t g] at h2
    rw [if_pos ((hr o (by omega)).mpr g)]
    exact h2
  · rw [tw_if_f g] at h2
    rw [if_neg (fun z => g ((hr o (by omega)).mp z))]
    exact h2
theorem xv_function {post : Int32 → Prop} {v w : Int32} (hn : n ≤ 8) (hq : q ≤ 4) (ho : oc ≤ 16) (hd : dc ≤ 16) (k1 : ∀ m o, m < 2 ^ n → o < q → v = nI m → w = nI o → post (tw_if (tw_hit n (tw_ls dI dO 0 dc) m o) 2 (tw_if (tw_hit n (tw_ls oI oO 0 oc) m o) 1 0))) (k0 : (¬ ∃ m o, m < 2 ^ n ∧ o < q ∧ v = nI m ∧ w = nI o) → post (-5)) : wpX_function post (nI n, nI q, xc, xp, nI oc, nI dc, nI cc, xs, oI, oO, dI, dO, cI, cO, sI, sO) v w := by
  have hp := tw_pow8 hn
  unfold wpX_function
  refine xv_isPoint hn hq (fun m o hm ho2 ev ew => br_f (by decide) ?_) (fun h => br_t rfl (k0 h))
  subst ev ew
  refine xv_pm hn (by omega) (xv_oa_dI hn hd (fun r hr => ?_))
  rw [tw_bit1 r o (by omega)]
  have h2 := k1 m o hm ho2 rfl rfl
  by_cases g : tw_hit n (tw_ls dI dO 0 dc) m o
  · rw [tw_if_t g] at h2
    rw [if_pos ((hr o (by omega)).mpr g)]
    exact br_t rfl h2
  · rw [tw_if_f g] at h2
    rw [if_neg (fun z => g ((hr o (by omega)).mp z))]
    refine br_f (by decide) (xv_oa_oI hn ho (fun r2 hr2 => ?_))
    rw [tw_bit1 r2 o (by omega)]
    by_cases g2 : tw_hit n (tw_ls oI oO 0 oc) m o
    · rw [tw_if_t g2] at h2
      rw [if_pos ((hr2 o (by omega)).mpr g2)]
      exact br_t rfl h2
    · rw [tw_if_f g2] at h2
      rw [if_neg (fun z => g2 ((hr2 o (by omega)).mp z))]
      exact br_f (by decide) h2
theorem tw_vm_ok {q : Nat} {p : Int32} (hq : q ≤ 4) (h : tw_vm q p) : ∀ o, bt p o = true → o < q := by
  obtain ⟨a, h1, h2, rfl⟩ := h
  intro o ho
  have hp := tw_pow4 hq
  have hl := tw_lt32 ho
  have e : bt (nI a) o = a.testBit o := by
    show (BitVec.ofNat 32 a).getLsbD o = _
    rw [BitVec.getLsbD_ofNat, decide_eq_true hl, Bool.true_and]
  rw [e] at ho
  rcases Nat.lt_or_ge o q with g | g
  · exact g
  · rw [Nat.testBit_lt_two_pow (Nat.lt_of_lt_of_le h2 (Nat.pow_le_pow_right (by decide) g))] at ho
    exact Bool.noConfusion ho
theorem xv_isImplicant {post : Int32 → Prop} {v w : Int32} (hn : n ≤ 8) (hq : q ≤ 4) (ho : oc ≤ 16) (hd : dc ≤ 16) (k1 : tw_vi n v → tw_vm q w → tw_imp n q (tw_ls oI oO 0 oc) (tw_ls dI dO 0 dc) v w → post 1) (k2 : tw_vi n v → tw_vm q w → ¬ tw_imp n q (tw_ls oI oO 0 oc) (tw_ls dI dO 0 dc) v w → post 0) (k3 : ¬ tw_vi n v → post 0) (k4 : tw_vi n v → ¬ tw_vm q w → post 0) : wpX_isImplicant post (nI n, nI q, xc, xp, nI oc, nI dc, nI cc, xs, oI, oO, dI, dO, cI, cO, sI, sO) v w := by
  unfold wpX_isImplicant
  refine xv_isInputPart hn (fun hv => br_f (by decide) ?_) (fun hv => br_t rfl (k3 hv))
  refine xv_isOutputMask hq (fun hm => br_f (by decide) ?_) (fun hm => br_t rfl (k4 hv hm))
  exact xv_avoidsOff hn hq ho hd (tw_vm_ok hq hm) (fun hi => br_f (by decide) (k1 hv hm hi)) (fun hi => br_t rfl (k2 hv hm hi))
end
end
section
/-! the reference's inner methods: each with a general post -/
section
variable {n q oc dc cc : Nat} {xc xp : Int32} {oI oO dI dO cI cO sI sO : Nat → Int32}
theorem yv_21 {post : Int32 → Prop} {p : Int32} (hn : n ≤ 8) : ∀ (f i : Nat), n < f + i → i ≤ n → ((∀ j, i ≤ j → j < n → ¬ ((p >>> ((2 * nI j) &&& 31)) &&& 3) = 0) → post 1) → ((∃ j, j < n ∧ ((p >>> ((2 * nI j) &&& 31)) &&& 3) = 0) → post 0) → wY_validInput_21 post p (nI n) (nI q) xc (nI oc) (nI dc) (nI cc) xp oI oO dI dO cI cO sI sO f (nI i) := by
  intro f
  induction f with
  | zero => intro i h1 h2; omega
  | succ f ih =>
    intro i h1 h2 k1 k0
    refine pk_le n i (fun h => k1 (fun j a b => absurd b (by omega))) (fun h => br_c (fun z => k0 ⟨i, h, z⟩) (fun z y ey => ?_))
    subst ey
    rw [nI_1]
    refine ih (i + 1) (by omega) (by omega) (fun hj => k1 (fun j a b => ?_)) k0
    by_cases e : j = i
    · rw [e]; exact z
    · exact hj j (by omega) b
theorem yv_validInput {post : Int32 → Prop} {p : Int32} (hn : n ≤ 8) (k1 : tw_vi n p → post 1) (k0 : ¬ tw_vi n p → post 0) : wpY_validInput post (nI n, nI q, xc, nI oc, nI dc, nI cc, xp, oI, oO, dI, dO, cI, cO, sI, sO) p :=
  br_c (fun h => br_c (fun h2 => ⟨n + 1, yv_21 hn (n + 1) 0 (by omega) (by omega) (fun hj => k1 ⟨Int32.not_lt.mpr h, h2, fun j b => hj j (by omega) b⟩) (fun ⟨j, hj, z⟩ => k0 (fun v => v.2.2 j hj z))⟩) (fun h2 => k0 (fun z => h2 z.2.1))) (fun h => k0 (fun z => h (Int32.not_lt.mp z.1)))
theorem yv_validMask {post : Int32 → Prop} {p : Int32} (hq : q ≤ 4) (k1 : tw_vm q p → post 1) (k0 : ¬ tw_vm q p → post 0) : wpY_validMask post (nI n, nI q, xc, nI oc, nI dc, nI cc, xp, oI, oO, dI, dO, cI, cO, sI, sO) p := by
  have hp := tw_pow4 hq
  have hp0 : 0 < 2 ^ q := Nat.two_pow_pos q
  have e : (1 : Int32) <<< (nI q &&& 31) - 1 = nI (2 ^ q - 1) := by
    rw [tw_p2 q (by omega)]
    exact pk_sub (b := 1) hp0
  refine br_c (fun h => k0 ?_) (fun h => br_c (fun h2 => k0 ?_) (fun h2 => k1 ?_))
  · rintro ⟨a, h1, h2, rfl⟩
    exact absurd h (nI_nlt (b := 1) h1 (by omega))
  · rintro ⟨a, h1, h3, rfl⟩
    rw [e, nI_ltI (by omega) (by omega)] at h2
    omega
  · have h0 : ¬ p < 0 := fun z => h (Int32.lt_trans z (by decide))
    obtain ⟨a, ha, rfl⟩ := nI_of h0
    have h3 : ¬ nI a < nI 1 := h
    rw [nI_ltI ha (by omega)] at h3
    rw [e, nI_ltI (by omega) ha] at h2
    exact ⟨a, by omega, by omega, rfl⟩
theorem tw_bitz {x : Int32} {k : Nat} (hk : k < 32) : ((x >>> (nI k &&& 31)) &&& 1) = 0 ↔ ¬ bt x k = true := by
  rw [tw_bit1 x k hk]
  cases bt x k <;> decide
theorem yv_ct14 {post : Int32 → Prop} {I : Int32} {m : Nat} (hn : n ≤ 8) (hm : m < 2 ^ 31) (k1 : tw_ct n I m → post 1) (k0 : ¬ tw_ct n I m → post 0) : ∀ (f i : Nat), n < f + i → i ≤ n → (∀ j, j < i → bt I (tw_at m j) = true) → wY_contains_14 post I (nI m) (nI n) (nI q) xc (nI oc) (nI dc) (nI cc) xp oI oO dI dO cI cO sI sO f (nI i) := by
  intro f
  induction f with
  | zero => intro i h1 h2; omega
  | succ f ih =>
    intro i h1 h2 h3
    refine pk_le n i (fun h => k1 (fun j hj => h3 j (by omega))) (fun h x ex => ?_)
    have hl : tw_at m i < 32 := by have := tw_at_lt (m := m) h; omega
    rw [tw_mbit hm (by omega)] at ex
    subst ex
    rw [tw_2x, nI_add]
    refine br_c (fun z => k0 (fun hc => ?_)) (fun z y ey => ?_)
    · exact (tw_bitz hl).mp z (hc i h)
    · subst ey
      rw [nI_1]
      refine ih (i + 1) (by omega) (by omega) (fun j hj => ?_)
      by_cases e : j = i
      · subst e
        exact Classical.byContradiction (fun g => z ((tw_bitz hl).mpr g))
      · exact h3 j (by omega)
theorem yv_contains {post : Int32 → Prop} {I O : Int32} {m o : Nat} (hn : n ≤ 8) (hm : m < 2 ^ 31) (ho : o < 32) (k1 : tw_ct n I m → bt O o = true → post 1) (k0 : ¬ (tw_ct n I m ∧ bt O o = true) → post 0) : wpY_contains post (nI n, nI q, xc, nI oc, nI dc, nI cc, xp, oI, oO, dI, dO, cI, cO, sI, sO) I O (nI m) (nI o) := by
  refine br_c (fun z => k0 (fun h => (tw_bitz ho).mp z h.2)) (fun z => ⟨n + 1, ?_⟩)
  have hb : bt O o = true := Classical.byContradiction (fun g => z ((tw_bitz ho).mpr g))
  exact yv_ct14 hn hm (fun h => k1 h hb) (fun h => k0 (fun g => h g.1)) (n + 1) 0 (by omega) (by omega) (fun j hj => absurd hj (by omega))
theorem yv_f47 {post : Int32 → Prop} {m o : Nat} (hn : n ≤ 8) (hm : m < 2 ^ 31) (ho : o < 32) (hc : oc ≤ 16) (k1 : tw_hit n (tw_ls oI oO 0 oc) m o → post 1) (k0 : ¬ tw_hit n (tw_ls oI oO 0 oc) m o → post 0) : ∀ (f i : Nat), oc < f + i → i ≤ oc → (∀ j, j < i → ¬ (tw_ct n (oI j) m ∧ bt (oO j) o = true)) → wY_func_47 post (nI m) (nI o) (nI n) (nI q) xc (nI oc) (nI dc) (nI cc) xp oI oO dI dO cI cO sI sO f (nI i) := by
  intro f
  induction f with
  | zero => intro i h1 h2; omega
  | succ f ih =>
    intro i h1 h2 h3
    refine pk_le oc i (fun h => k0 ?_) (fun h => pk_le 16 i (fun g => absurd g (by omega)) (fun _ => ⟨vp_in_nI (by omega) (by decide), vp_in_nI (by omega) (by decide), ?_⟩))
    · rw [tw_hit_ls]
      rintro ⟨j, g1, g2, g3⟩
      exact h3 j (by omega) g3
    · rw [nI_clamp (n := i) (by omega)]
      refine yv_contains hn hm ho (fun g1 g2 => br_f (by decide) (k1 (tw_hit_ls.mpr ⟨i, by omega, by omega, g1, g2⟩))) (fun g => br_t rfl (fun y ey => ?_))
      subst ey
      rw [nI_1]
      refine ih (i + 1) (by omega) (by omega) (fun j hj => ?_)
      by_cases e : j = i
      · subst e; exact g
      · exact h3 j (by omega)
theorem yv_f2 {post : Int32 → Prop} {m o : Nat} (hn : n ≤ 8) (hm : m < 2 ^ 31) (ho : o < 32) (hc : oc ≤ 16) (hd : dc ≤ 16) (kd : tw_hit n (tw_ls dI dO 0 dc) m o → post 2) (k1 : ¬ tw_hit n (tw_ls dI dO 0 dc) m o → tw_hit n (tw_ls oI oO 0 oc) m o → post 1) (k0 : ¬ tw_hit n (tw_ls dI dO 0 dc) m o → ¬ tw_hit n (tw_ls oI oO 0 oc) m o → post 0) : ∀ (f i : Nat), dc < f + i → i ≤ dc → (∀ j, j < i → ¬ (tw_ct n (dI j) m ∧ bt (dO j) o = true)) → wY_func_2 post (nI m) (nI o) (nI n) (nI q) xc (nI oc) (nI dc) (nI cc) xp oI oO dI dO cI cO sI sO f (nI i) := by
  intro f
  induction f with
  | zero => intro i h1 h2; omega
  | succ f ih =>
    intro i h1 h2 h3
    refine pk_le dc i (fun h => ?_) (fun h => pk_le 16 i (fun g => absurd g (by omega)) (fun _ => ⟨vp_in_nI (by omega) (by decide), vp_in_nI (by omega) (by decide), ?_⟩))
    · have hn2 : ¬ tw_hit n (tw_ls dI dO 0 dc) m o := by
        rw [tw_hit_ls]
        rintro ⟨j, g1, g2, g3⟩
        exact h3 j (by omega) g3
      exact ⟨oc + 1, yv_f47 hn hm ho hc (k1 hn2) (k0 hn2) (oc + 1) 0 (by omega) (by omega) (fun j hj => absurd hj (by omega))⟩
    · rw [nI_clamp (n := i) (by omega)]
      refine yv_contains hn hm ho (fun g1 g2 => br_f (by decide) (kd (tw_hit_ls.mpr ⟨i, by omega, by omega, g1, g2⟩))) (fun g => br_t rfl (fun y ey => ?_))
      subst ey
      rw [nI_1]
      refine ih (i + 1) (by omega) (by omega) (fun j hj => ?_)
      by_cases e : j = i
      · subst e; exact g
      · exact h3 j (by omega)
theorem yv_func {post : Int32 → Prop} {m o : Nat} (hn : n ≤ 8) (hm : m < 2 ^ 31) (ho : o < 32) (hc : oc ≤ 16) (hd : dc ≤ 16) (kd : tw_hit n (tw_ls dI dO 0 dc) m o → post 2) (k1 : ¬ tw_hit n (tw_ls dI dO 0 dc) m o → tw_hit n (tw_ls oI oO 0 oc) m o → post 1) (k0 : ¬ tw_hit n (tw_ls dI dO 0 dc) m o → ¬ tw_hit n (tw_ls oI oO 0 oc) m o → post 0) : wpY_func post (nI n, nI q, xc, nI oc, nI dc, nI cc, xp, oI, oO, dI, dO, cI, cO, sI, sO) (nI m) (nI o) :=
  ⟨dc + 1, yv_f2 hn hm ho hc hd kd k1 k0 (dc + 1) 0 (by omega) (by omega) (fun j hj => absurd hj (by omega))⟩
theorem yv_ev31 {post : Int32 → Prop} {m o : Nat} (hn : n ≤ 8) (hm : m < 2 ^ 31) (ho : o < 32) (hc : cc ≤ 16) (k1 : tw_hit n (tw_ls cI cO 0 cc) m o → post 1) (k0 : ¬ tw_hit n (tw_ls cI cO 0 cc) m o → post 0) : ∀ (f i : Nat), cc < f + i → i ≤ cc → (∀ j, j < i → ¬ (tw_ct n (cI j) m ∧ bt (cO j) o = true)) → wY_evaluate_31 post (nI m) (nI o) (nI n) (nI q) xc (nI oc) (nI dc) (nI cc) xp oI oO dI dO cI cO sI sO f (nI i) := by
  intro f
  induction f with
  | zero => intro i h1 h2; omega
  | succ f ih =>
    intro i h1 h2 h3
    refine pk_le cc i (fun h => k0 ?_) (fun h => pk_le 16 i (fun g => absurd g (by omega)) (fun _ => ⟨vp_in_nI (by omega) (by decide), vp_in_nI (by omega) (by decide), ?_⟩))
    · rw [tw_hit_ls]
      rintro ⟨j, g1, g2, g3⟩
      exact h3 j (by omega) g3
    · rw [nI_clamp (n := i) (by omega)]
      refine yv_contains hn hm ho (fun g1 g2 => br_f (by decide) (k1 (tw_hit_ls.mpr ⟨i, by omega, by omega, g1, g2⟩))) (fun g => br_t rfl (fun y ey => ?_))
      subst ey
      rw [nI_1]
      refine ih (i + 1) (by omega) (by omega) (fun j hj => ?_)
      by_cases e : j = i
      · subst e; exact g
      · exact h3 j (by omega)
theorem yv_im19 {post : Int32 → Prop} {J10 : Int32 → Prop} {I O x3 : Int32} {m : Nat} (hn : n ≤ 8) (hq : q ≤ 4) (hm : m < 2 ^ 30) (hc : oc ≤ 16) (hd : dc ≤ 16)
    (kJ : (∀ o, o < q → tw_ct n I m → bt O o = true → tw_hit n (tw_ls oI oO 0 oc) m o ∨ tw_hit n (tw_ls dI dO 0 dc) m o) → J10 (nI (m + 1)))
    (k0 : (∃ o, o < q ∧ ¬ (tw_ct n I m → bt O o = true → tw_hit n (tw_ls oI oO 0 oc) m o ∨ tw_hit n (tw_ls dI dO 0 dc) m o)) → post 0) :
    ∀ (f i : Nat), q < f + i → i ≤ q → (∀ o, o < i → tw_ct n I m → bt O o = true → tw_hit n (tw_ls oI oO 0 oc) m o ∨ tw_hit n (tw_ls dI dO 0 dc) m o) → wY_implicant_19 post J10 I O x3 (nI m) (nI n) (nI q) xc (nI oc) (nI dc) (nI cc) xp oI oO dI dO cI cO sI sO f (nI i) := by
  intro f
  induction f with
  | zero => intro i h1 h2; omega
  | succ f ih =>
    intro i h1 h2 h3
    have nx : (tw_ct n I m → bt O i = true → tw_hit n (tw_ls oI oO 0 oc) m i ∨ tw_hit n (tw_ls dI dO 0 dc) m i) → i < q → ∀ y : Int32, y = nI i + 1 → wY_implicant_19 post J10 I O x3 (nI m) (nI n) (nI q) xc (nI oc) (nI dc) (nI cc) xp oI oO dI dO cI cO sI sO f y := by
      intro g hi y ey
      subst ey
      rw [nI_1]
      refine ih (i + 1) (by omega) (by omega) (fun o ho => ?_)
      by_cases e : o = i
      · subst e; exact g
      · exact h3 o (by omega)
    refine pk_le q i (fun h y ey => ?_) (fun h => yv_contains hn (by omega) (by omega) (fun g1 g2 => br_f (by decide) (yv_func hn (by omega) (by omega) hc hd (fun a => br_f (by decide) (nx (fun _ _ => Or.inr a) h)) (fun _ a => br_f (by decide) (nx (fun _ _ => Or.inl a) h)) (fun a b => br_t rfl (k0 ⟨i, h, fun g => ?_⟩)))) (fun g => br_t rfl (nx (fun g1 g2 => absurd ⟨g1, g2⟩ g) h)))
    · subst ey
      rw [nI_1]
      exact kJ (fun o ho => h3 o (by omega))
    · rcases g g1 g2 with c | c
      · exact b c
      · exact a c
theorem yv_im10 {post : Int32 → Prop} {I O : Int32} (hn : n ≤ 8) (hq : q ≤ 4) (hc : oc ≤ 16) (hd : dc ≤ 16)
    (k1 : tw_imp n q (tw_ls oI oO 0 oc) (tw_ls dI dO 0 dc) I O → post 1) (k0 : ¬ tw_imp n q (tw_ls oI oO 0 oc) (tw_ls dI dO 0 dc) I O → post 0) :
    ∀ (f i : Nat), 2 ^ n < f + i → i ≤ 2 ^ n → (∀ m, m < i → ∀ o, o < q → tw_ct n I m → bt O o = true → tw_hit n (tw_ls oI oO 0 oc) m o ∨ tw_hit n (tw_ls dI dO 0 dc) m o) → wY_implicant_10 post I O (nI (2 ^ n)) (nI n) (nI q) xc (nI oc) (nI dc) (nI cc) xp oI oO dI dO cI cO sI sO f (nI i) := by
  have hp := tw_pow8 hn
  intro f
  induction f with
  | zero => intro i h1 h2; omega
  | succ f ih =>
    intro i h1 h2 h3
    refine pk_le (2 ^ n) i (fun h => k1 (fun m hm => h3 m (by omega))) (fun h => ⟨q + 1, yv_im19 hn hq (by omega) hc hd (fun g => ?_) (fun ⟨o, ho, g⟩ => k0 (fun z => g (z i h o ho))) (q + 1) 0 (by omega) (by omega) (fun o ho => absurd ho (by omega))⟩)
    refine ih (i + 1) (by omega) (by omega) (fun m hm => ?_)
    by_cases e : m = i
    · subst e; exact g
    · exact h3 m (by omega)
theorem yv_implicant {post : Int32 → Prop} {I O : Int32} (hn : n ≤ 8) (hq : q ≤ 4) (hc : oc ≤ 16) (hd : dc ≤ 16)
    (k1 : tw_imp n q (tw_ls oI oO 0 oc) (tw_ls dI dO 0 dc) I O → post 1) (k0 : ¬ tw_imp n q (tw_ls oI oO 0 oc) (tw_ls dI dO 0 dc) I O → post 0) : wpY_implicant post (nI n, nI q, xc, nI oc, nI dc, nI cc, xp, oI, oO, dI, dO, cI, cO, sI, sO) I O := by
  intro y ey
  rw [tw_p2 n (by omega)] at ey
  subst ey
  exact ⟨2 ^ n + 1, yv_im10 hn hq hc hd k1 k0 (2 ^ n + 1) 0 (by omega) (Nat.zero_le _) (fun m hm => absurd hm (by omega))⟩
theorem yv_co3 {post : Int32 → Prop} {m o p : Nat} (hn : n ≤ 8) (hm : m < 2 ^ 31) (ho : o < 32) (hc : cc ≤ 16) (hp : p < cc) (k1 : tw_hit n (tw_ls cI cO 0 p ++ tw_ls cI cO (p + 1) (cc - p - 1)) m o → post 1) (k0 : ¬ tw_hit n (tw_ls cI cO 0 p ++ tw_ls cI cO (p + 1) (cc - p - 1)) m o → post 0) : ∀ (f i : Nat), cc < f + i → i ≤ cc → (∀ j, j < i → ¬ j = p → ¬ (tw_ct n (cI j) m ∧ bt (cO j) o = true)) → wY_coveredByOther_3 post (nI m) (nI o) (nI p) (nI n) (nI q) xc (nI oc) (nI dc) (nI cc) xp oI oO dI dO cI cO sI sO f (nI i) := by
  intro f
  induction f with
  | zero => intro i h1 h2; omega
  | succ f ih =>
    intro i h1 h2 h3
    refine pk_le cc i (fun h => k0 ?_) (fun h => pk_le 16 i (fun g => absurd g (by omega)) (fun _ => pk_eq i p (fun e y ey => ?_) (fun e => ⟨vp_in_nI (by omega) (by decide), vp_in_nI (by omega) (by decide), ?_⟩)))
    · rw [tw_hit_but hp]
      rintro ⟨j, g1, g2, g3⟩
      exact h3 j (by omega) g2 g3
    · subst ey
      rw [nI_1]
      refine ih (i + 1) (by omega) (by omega) (fun j hj hjp => h3 j (by omega) hjp)
    · rw [nI_clamp (n := i) (by omega)]
      refine yv_contains hn hm ho (fun g1 g2 => br_f (by decide) (k1 ((tw_hit_but hp).mpr ⟨i, h, e, g1, g2⟩))) (fun g => br_t rfl (fun y ey => ?_))
      subst ey
      rw [nI_1]
      refine ih (i + 1) (by omega) (by omega) (fun j hj hjp => ?_)
      by_cases e2 : j = i
      · subst e2; exact g
      · exact h3 j (by omega) hjp
theorem yv_covered {post : Int32 → Prop} {m o p : Nat} (hn : n ≤ 8) (hm : m < 2 ^ 31) (ho : o < 32) (hc : cc ≤ 16) (hp : p < cc) (k1 : tw_hit n (tw_ls cI cO 0 p ++ tw_ls cI cO (p + 1) (cc - p - 1)) m o → post 1) (k0 : ¬ tw_hit n (tw_ls cI cO 0 p ++ tw_ls cI cO (p + 1) (cc - p - 1)) m o → post 0) : wpY_coveredByOther post (nI n, nI q, xc, nI oc, nI dc, nI cc, xp, oI, oO, dI, dO, cI, cO, sI, sO) (nI m) (nI o) (nI p) :=
  ⟨cc + 1, yv_co3 hn hm ho hc hp k1 k0 (cc + 1) 0 (by omega) (by omega) (fun j hj => absurd hj (by omega))⟩
/-- the threefold question of hasPrivate and doReduce -/
theorem yv_chk {A1 A2 A3 B : Prop} {m o p : Nat} (hn : n ≤ 8) (hm : m < 2 ^ 31) (ho : o < 32) (hoc : oc ≤ 16) (hdc : dc ≤ 16) (hc : cc ≤ 16) (hp : p < cc)
    (kb : tw_own n (tw_ls oI oO 0 oc) (tw_ls dI dO 0 dc) (cI p, cO p) (tw_ls cI cO 0 p ++ tw_ls cI cO (p + 1) (cc - p - 1)) m o → B)
    (ka : ¬ tw_own n (tw_ls oI oO 0 oc) (tw_ls dI dO 0 dc) (cI p, cO p) (tw_ls cI cO 0 p ++ tw_ls cI cO (p + 1) (cc - p - 1)) m o → A1 ∧ A2 ∧ A3) :
    wpY_contains (fun r => (r = 0 → A1) ∧ (¬ r = 0 → wpY_func (fun r2 => (r2 = 1 → wpY_coveredByOther (fun r3 => (r3 = 0 → B) ∧ (¬ r3 = 0 → A3)) (nI n, nI q, xc, nI oc, nI dc, nI cc, xp, oI, oO, dI, dO, cI, cO, sI, sO) (nI m) (nI o) (nI p)) ∧ (¬ r2 = 1 → A2)) (nI n, nI q, xc, nI oc, nI dc, nI cc, xp, oI, oO, dI, dO, cI, cO, sI, sO) (nI m) (nI o))) (nI n, nI q, xc, nI oc, nI dc, nI cc, xp, oI, oO, dI, dO, cI, cO, sI, sO) (cI p) (cO p) (nI m) (nI o) :=
  yv_contains hn hm ho (fun g1 g2 => br_f (by decide) (yv_func hn hm ho hoc hdc (fun a => br_f (by decide) (ka (fun z => z.2.2.1.2 a)).2.1) (fun a b => br_t rfl (yv_covered hn hm ho hc hp (fun g3 => br_f (by decide) (ka (fun z => z.2.2.2 g3)).2.2) (fun g3 => br_t rfl (kb ⟨g1, g2, ⟨b, a⟩, g3⟩)))) (fun a b => br_f (by decide) (ka (fun z => b z.2.2.1.1)).2.1))) (fun g => br_t rfl (ka (fun z => g ⟨z.1, z.2.1⟩)).1)
theorem yv_rm2 {post : SY → Prop} {p : Nat} {a0 b0 : Nat → Int32} (hc : cc ≤ 16) (hp : p < cc)
    (k : ∀ a b : Nat → Int32, tw_ls a b 0 (cc - 1) = tw_ls a0 b0 0 p ++ tw_ls a0 b0 (p + 1) (cc - p - 1) → post (nI n, nI q, xc, nI oc, nI dc, nI (cc - 1), xp, oI, oO, dI, dO, a, b, sI, sO)) :
    ∀ (f i : Nat) (cI cO : Nat → Int32), cc ≤ f + i → p ≤ i → i < cc → (∀ j, j < p → cI j = a0 j ∧ cO j = b0 j) → (∀ j, p ≤ j → j < i → cI j = a0 (j + 1) ∧ cO j = b0 (j + 1)) → (∀ j, i < j → cI j = a0 j ∧ cO j = b0 j) → wY_removeAt_2 post (nI n) (nI q) xc (nI oc) (nI dc) (nI cc) xp f (nI i) oI oO dI dO cI cO sI sO := by
  obtain ⟨c, rfl⟩ : ∃ c, cc = c + 1 := ⟨cc - 1, by omega⟩
  rw [Nat.add_sub_cancel] at k
  intro f
  induction f with
  | zero => intro i a b h1 h2 h3; omega
  | succ f ih =>
    intro i a b h1 h2 h3 g1 g2 g3
    have fin : c ≤ i → ∀ y : Int32, y = nI (c + 1) - 1 → post (nI n, nI q, xc, nI oc, nI dc, y, xp, oI, oO, dI, dO, a, b, sI, sO) := by
      intro h y ey
      rw [nI_pred] at ey
      subst ey
      have e : i = c := by omega
      subst e
      refine k a b ?_
      have h5 := tw_ls_rm (a := a0) (b := b0) (a' := a) (b' := b) hp g1 (fun j b1 b2 => g2 j b1 (by omega))
      rw [Nat.add_sub_cancel] at h5
      exact h5
    refine pk_le c i (fun h => fin h) (fun h => pk_le 15 i (fun g => absurd g (by omega)) (fun _ => ?_)) (hx := nI_pred c)
    rw [nI_1, nI_clamp (n := i) (by omega), nI_clamp (n := i + 1) (by omega)]
    refine ⟨vp_in_nI (by omega) (by decide), vp_in_nI (by omega) (by decide), fun y ey => ⟨vp_in_nI (by omega) (by decide), vp_in_nI (by omega) (by decide), fun z ez w ew => ?_⟩⟩
    subst ey ez ew
    have h5 := g3 (i + 1) (by omega)
    refine ih (i + 1) _ _ (by omega) (by omega) (by omega) (fun j hj => ?_) (fun j b1 b2 => ?_) (fun j hj => ?_)
    · rw [pk_un (by omega), pk_un (by omega)]; exact g1 j hj
    · by_cases ej : j = i
      · subst ej; rw [pk_us, pk_us]; exact h5
      · rw [pk_un ej, pk_un ej]; exact g2 j b1 (by omega)
    · rw [pk_un (by omega), pk_un (by omega)]; exact g3 j (by omega)
theorem yv_removeAt {post : SY → Prop} {p : Nat} (hc : cc ≤ 16) (hp : p < cc)
    (k : ∀ a b : Nat → Int32, tw_ls a b 0 (cc - 1) = tw_ls cI cO 0 p ++ tw_ls cI cO (p + 1) (cc - p - 1) → post (nI n, nI q, xc, nI oc, nI dc, nI (cc - 1), xp, oI, oO, dI, dO, a, b, sI, sO)) : wpY_removeAt post (nI n, nI q, xc, nI oc, nI dc, nI cc, xp, oI, oO, dI, dO, cI, cO, sI, sO) (nI p) :=
  ⟨cc, yv_rm2 hc hp k cc p cI cO (by omega) (by omega) (by omega) (fun j _ => ⟨rfl, rfl⟩) (fun j h1 h2 => absurd h2 (by omega)) (fun j _ => ⟨rfl, rfl⟩)⟩
theorem yv_pp4 {post : Int32 → Prop} {m : Nat} (hn : n ≤ 8) (hm : m < 2 ^ 31) (k : post (tw_pm m n)) : ∀ (f i : Nat), n < f + i → i ≤ n → wY_pointPart_4 post (nI m) (nI n) (nI q) xc (nI oc) (nI dc) (nI cc) xp oI oO dI dO cI cO sI sO f (tw_pm m i) (nI i) := by
  intro f
  induction f with
  | zero => intro i h1 h2; omega
  | succ f ih =>
    intro i h1 h2
    refine pk_le n i (fun h => ?_) (fun h y ey z ez => ?_)
    · have e : i = n := by omega
      rw [e]; exact k
    · rw [tw_mbit hm (by omega), tw_2x, nI_add] at ey
      subst ez ey
      rw [nI_1]
      exact ih (i + 1) (by omega) (by omega)
theorem yv_pointPart {post : Int32 → Prop} {m : Nat} (hn : n ≤ 8) (hm : m < 2 ^ 31) (k : post (tw_pm m n)) : wpY_pointPart post (nI n, nI q, xc, nI oc, nI dc, nI cc, xp, oI, oO, dI, dO, cI, cO, sI, sO) (nI m) :=
  ⟨n + 1, yv_pp4 hn hm k (n + 1) 0 (by omega) (by omega)⟩
theorem yv_li20 {post : Int32 → Prop} {J4 : Int32 → Int32 → Prop} {s t : Nat} (hn : n ≤ 8) (ht : t < 16) (k : J4 (nI (s + tw_lc (cI t) n)) (nI (t + 1))) : ∀ (f i : Nat), n < f + i → i ≤ n → wY_literals_20 post J4 (nI t) (nI n) (nI q) xc (nI oc) (nI dc) (nI cc) xp oI oO dI dO cI cO sI sO f (nI (s + tw_lc (cI t) i)) (nI i) := by
  intro f
  induction f with
  | zero => intro i h1 h2; omega
  | succ f ih =>
    intro i h1 h2
    refine pk_le n i (fun h y ey => ?_) (fun h => ⟨vp_in_nI ht (by decide), fun x ex => ?_⟩)
    · have e : i = n := by omega
      subst e ey
      rw [nI_1]; exact k
    · rw [tw_2x, nI_clamp (n := t) (by omega)] at ex
      subst ex
      have hf := tw_lcf (cI t) i (by omega)
      have hs : ∀ y z : Int32, (bt (cI t) (2 * i) = bt (cI t) (2 * i + 1) → y = nI (s + tw_lc (cI t) i)) → (¬ bt (cI t) (2 * i) = bt (cI t) (2 * i + 1) → y = nI (s + tw_lc (cI t) i) + 1) → z = nI i + 1 → wY_literals_20 post J4 (nI t) (nI n) (nI q) xc (nI oc) (nI dc) (nI cc) xp oI oO dI dO cI cO sI sO f y z := by
        intro y z g1 g2 ez
        have ey : y = nI (s + tw_lc (cI t) (i + 1)) := by
          show y = nI (s + (tw_lc (cI t) i + (if bt (cI t) (2 * i) = bt (cI t) (2 * i + 1) then 0 else 1)))
          by_cases g : bt (cI t) (2 * i) = bt (cI t) (2 * i + 1)
          · rw [if_pos g, g1 g]; rfl
          · rw [if_neg g, g2 g, nI_1, Nat.add_assoc]
        subst ey ez
        rw [nI_1]
        exact ih (i + 1) (by omega) (by omega)
      refine br_c (fun g y ey z ez => hs y z (fun e => absurd e (hf.mp (Or.inl g))) (fun _ => ey) ez) (fun g => br_c (fun g2 y ey z ez => hs y z (fun e => absurd e (hf.mp (Or.inr g2))) (fun _ => ey) ez) (fun g2 z ez => hs _ z (fun _ => rfl) (fun e => ?_) ez))
      rcases hf.mpr e with g3 | g3
      · exact absurd g3 g
      · exact absurd g3 g2
theorem yv_li4 {post : Int32 → Prop} (hn : n ≤ 8) (hc : cc ≤ 16) (k : post (nI (tw_li n (tw_ls cI cO 0 cc)))) : ∀ (f i : Nat), cc < f + i → i ≤ cc → wY_literals_4 post (nI n) (nI q) xc (nI oc) (nI dc) (nI cc) xp oI oO dI dO cI cO sI sO f (nI (tw_li n (tw_ls cI cO 0 i))) (nI i) := by
  intro f
  induction f with
  | zero => intro i h1 h2; omega
  | succ f ih =>
    intro i h1 h2
    refine pk_le cc i (fun h => ?_) (fun h => pk_le 16 i (fun g => absurd g (by omega)) (fun _ => ⟨n + 1, ?_⟩))
    · have e : i = cc := by omega
      subst e; exact k
    · have e2 : tw_li n (tw_ls cI cO 0 (i + 1)) = tw_li n (tw_ls cI cO 0 i) + tw_lc (cI i) n := by
        rw [tw_ls_snoc, tw_li_app, Nat.zero_add]
        rfl
      refine yv_li20 (s := tw_li n (tw_ls cI cO 0 i)) hn (by omega) ?_ (n + 1) 0 (by omega) (by omega)
      rw [← e2]
      exact ih (i + 1) (by omega) (by omega)
theorem yv_literals {post : Int32 → Prop} (hn : n ≤ 8) (hc : cc ≤ 16) (k : post (nI (tw_li n (tw_ls cI cO 0 cc)))) : wpY_literals post (nI n, nI q, xc, nI oc, nI dc, nI cc, xp, oI, oO, dI, dO, cI, cO, sI, sO) :=
  ⟨cc + 1, yv_li4 hn hc k (cc + 1) 0 (by omega) (by omega)⟩
end
end
section
/-! the reference: the passes -/
theorem tw_dec (i : Nat) : nI i + (-1) = nI i - 1 := (Int32.sub_eq_add_neg _ _).symm
theorem tw_rcy {n q : Nat} {P D : List (Int32 × Int32)} {c : Int32 × Int32} {R : List (Int32 × Int32)} {I O : Int32}
    (h1 : ∀ j, j < 32 → (bt I j = true ↔ ∃ m, m < 2 ^ n ∧ (∃ o, o < q ∧ tw_own n P D c R m o) ∧ ∃ i, i < n ∧ j = tw_at m i))
    (h2 : ∀ o, o < 32 → (bt O o = true ↔ ∃ m, m < 2 ^ n ∧ o < q ∧ tw_own n P D c R m o)) : (I, O) = tw_rc n q P D c R := by
  unfold tw_rc
  refine Prod.ext ?_ ?_
  · apply tw_extP
    intro j hj
    rw [h1 j hj]
    dsimp only
    rw [tw_mk_b _ 32 (Nat.le_refl _) j hj]
    exact ⟨fun h => ⟨hj, h⟩, fun h => h.2⟩
  · apply tw_extP
    intro o ho
    rw [h2 o ho]
    dsimp only
    rw [tw_mk_b _ 32 (Nat.le_refl _) o ho]
    exact ⟨fun ⟨m, a, b, c2⟩ => ⟨ho, b, m, a, c2⟩, fun ⟨_, b, m, a, c2⟩ => ⟨m, a, b, c2⟩⟩
theorem tw_ls_hd {a b a0 b0 : Nat → Int32} {i L : Nat} {U : List (Int32 × Int32)} (h : tw_ls a b 0 L = tw_ls a0 b0 0 (i + 1) ++ U) : i < L ∧ a i = a0 i ∧ b i = b0 i ∧ tw_ls a b 0 i = tw_ls a0 b0 0 i ∧ tw_ls a b (i + 1) (L - i - 1) = U := by
  obtain ⟨s1, s2, s3⟩ := tw_ls_split h
  rw [tw_ls_len] at s1 s2 s3
  have h3 := tw_ls_inj (i + 1) 0 0 s2
  have h4 := h3 i (by omega)
  rw [Nat.zero_add] at h4
  refine ⟨by omega, h4.1, h4.2, ?_, ?_⟩
  · apply tw_ls_eq
    intro j _ hj
    have h5 := h3 j (by omega)
    rw [Nat.zero_add] at h5
    exact h5
  · rw [show L - i - 1 = L - (i + 1) from by omega]
    exact s3
theorem tw_fl_in {c d : Int32 × Int32} {L : List (Int32 × Int32)} (h : tw_ins c d) : tw_fl c (d :: L) = tw_fl c L := tw_if_t h
theorem tw_fl_out {c d : Int32 × Int32} {L : List (Int32 × Int32)} (h : ¬ tw_ins c d) : tw_fl c (d :: L) = d :: tw_fl c L := tw_if_f h
/-- the drop from above: the cubes from i on are settled, U is what stays of them, x is where the keeper stands -/
def tw_iv (c : Int32 × Int32) (p cc : Nat) (a0 b0 : Nat → Int32) (i x : Nat) (U : List (Int32 × Int32)) : Prop :=
  (p < i ∧ x = p ∧ U = tw_fl c (tw_ls a0 b0 i (cc - i))) ∨ (i ≤ p ∧ x = i + (tw_fl c (tw_ls a0 b0 i (p - i))).length ∧ U = tw_fl c (tw_ls a0 b0 i (p - i)) ++ [c] ++ tw_fl c (tw_ls a0 b0 (p + 1) (cc - p - 1)))
theorem tw_iv_keep {c : Int32 × Int32} {p cc i x : Nat} {a0 b0 : Nat → Int32} {U : List (Int32 × Int32)} (hi : i < cc) (hc : (a0 p, b0 p) = c) (h : tw_iv c p cc a0 b0 (i + 1) x U) (hk : i = x ∨ ¬ tw_ins c (a0 i, b0 i)) : tw_iv c p cc a0 b0 i x ((a0 i, b0 i) :: U) := by
  rcases h with ⟨h1, h2, h3⟩ | ⟨h1, h2, h3⟩
  · by_cases e : i = p
    · refine Or.inr ⟨by omega, ?_, ?_⟩
      · rw [e, Nat.sub_self]
        show x = p + 0
        omega
      · rw [e, Nat.sub_self, h3, e, hc]
        show _ = [] ++ [c] ++ _
        rw [List.nil_append, show cc - (p + 1) = cc - p - 1 from by omega]
        rfl
    · have hk2 : ¬ tw_ins c (a0 i, b0 i) := by
        rcases hk with g | g
        · omega
        · exact g
      refine Or.inl ⟨by omega, h2, ?_⟩
      rw [tw_ls_cons hi, tw_fl_out hk2, h3, show cc - (i + 1) = cc - i - 1 from by omega]
  · have hk2 : ¬ tw_ins c (a0 i, b0 i) := by
      rcases hk with g | g
      · omega
      · exact g
    refine Or.inr ⟨by omega, ?_, ?_⟩
    · rw [tw_ls_cons (show i < p from by omega), tw_fl_out hk2, List.length_cons, h2, show p - (i + 1) = p - i - 1 from by omega]
      omega
    · rw [tw_ls_cons (show i < p from by omega), tw_fl_out hk2, h3, show p - (i + 1) = p - i - 1 from by omega]
      rfl
theorem tw_iv_drop {c : Int32 × Int32} {p cc i x : Nat} {a0 b0 : Nat → Int32} {U : List (Int32 × Int32)} (hi : i < cc) (h : tw_iv c p cc a0 b0 (i + 1) x U) (hx : ¬ i = x) (hin : tw_ins c (a0 i, b0 i)) : tw_iv c p cc a0 b0 i (if x ≤ i then x else x - 1) U ∧ (x ≤ i ↔ p ≤ i) := by
  rcases h with ⟨h1, h2, h3⟩ | ⟨h1, h2, h3⟩
  · refine ⟨?_, by omega⟩
    rw [if_pos (by omega)]
    refine Or.inl ⟨by omega, h2, ?_⟩
    rw [tw_ls_cons hi, tw_fl_in hin, h3, show cc - (i + 1) = cc - i - 1 from by omega]
  · refine ⟨?_, by omega⟩
    rw [if_neg (by omega)]
    refine Or.inr ⟨by omega, ?_, ?_⟩
    · rw [tw_ls_cons (show i < p from by omega), tw_fl_in hin, h2, show p - (i + 1) = p - i - 1 from by omega]
      omega
    · rw [tw_ls_cons (show i < p from by omega), tw_fl_in hin, h3, show p - (i + 1) = p - i - 1 from by omega]
section
variable {n q oc dc cc : Nat} {xc xp : Int32} {oI oO dI dO cI cO sI sO : Nat → Int32}
theorem yv_dr164 {post : SY → Prop} {J4 : Int32 → Int32 → Int32 → Int32 → Int32 → Int32 → Int32 → Int32 → Int32 → (Nat → Int32) → (Nat → Int32) → (Nat → Int32) → (Nat → Int32) → (Nat → Int32) → (Nat → Int32) → (Nat → Int32) → (Nat → Int32) → Prop} {p c0 st : Nat} {c1 c2 : Int32} {a0 b0 : Nat → Int32} (hc0 : c0 ≤ 16) (hp : p < c0) (hcp : (a0 p, b0 p) = (c1, c2))
    (k : ∀ (L : Nat) (a b : Nat → Int32), tw_ls a b 0 L = tw_fl (c1, c2) (tw_ls a0 b0 0 p) ++ [(c1, c2)] ++ tw_fl (c1, c2) (tw_ls a0 b0 (p + 1) (c0 - p - 1)) → J4 (nI ((tw_fl (c1, c2) (tw_ls a0 b0 0 p)).length + 1)) (nI (st + 1)) (nI n) (nI q) xc (nI oc) (nI dc) (nI L) xp oI oO dI dO a b sI sO) :
    ∀ (i f x cc : Nat) (cI cO : Nat → Int32) (U : List (Int32 × Int32)), i < f → i ≤ c0 → cc ≤ 16 → x < 16 → tw_ls cI cO 0 cc = tw_ls a0 b0 0 i ++ U → tw_iv (c1, c2) p c0 a0 b0 i x U → wY_doExpand_164 post J4 (nI st) c1 c2 f (nI x) (nI i - 1) (nI n) (nI q) xc (nI oc) (nI dc) (nI cc) xp oI oO dI dO cI cO sI sO := by
  intro i
  induction i with
  | zero =>
    intro f x cc cI cO U h1 h2 h3 hx h4 h5
    obtain ⟨f, rfl⟩ : ∃ g, f = g + 1 := ⟨f - 1, by omega⟩
    refine br_t (by decide) (fun y ey z ez => ?_)
    rw [nI_1] at ey ez
    subst ey ez
    rcases h5 with ⟨g1, _, _⟩ | ⟨g1, g2, g3⟩
    · omega
    · rw [Nat.sub_zero] at g2 g3
      rw [g2, Nat.zero_add]
      refine k cc cI cO ?_
      rw [h4, g3]
      rfl
  | succ i ih =>
    intro f x cc cI cO U h1 h2 h3 hx h4 h5
    obtain ⟨f, rfl⟩ : ∃ g, f = g + 1 := ⟨f - 1, by omega⟩
    obtain ⟨s1, s2, s3, s4, s5⟩ := tw_ls_hd h4
    have nx : (i = x ∨ ¬ tw_ins (c1, c2) (a0 i, b0 i)) → ∀ y : Int32, y = nI i + (-1) → wY_doExpand_164 post J4 (nI st) c1 c2 f (nI x) y (nI n) (nI q) xc (nI oc) (nI dc) (nI cc) xp oI oO dI dO cI cO sI sO := by
      intro g y ey
      rw [tw_dec] at ey
      subst ey
      refine ih f x cc cI cO _ (by omega) (by omega) h3 hx ?_ (tw_iv_keep (by omega) hcp h5 g)
      rw [h4, tw_ls_snoc, Nat.zero_add, List.append_assoc]
      rfl
    rw [nI_pred]
    refine br_f (nI_pos (by omega)) (pk_eq i x (fun e => nx (Or.inl e)) (fun e => ?_))
    rw [nI_clamp (n := i) (by omega), s2, s3]
    refine ⟨vp_in_nI (by omega) (by decide), br_c (fun g1 => ⟨vp_in_nI (by omega) (by decide), br_c (fun g2 => ?_) (fun g2 => nx (Or.inr (fun z => g2 (tw_insz.mp z).2)))⟩) (fun g1 => nx (Or.inr (fun z => g1 (tw_insz.mp z).1)))⟩
    have hin : tw_ins (c1, c2) (a0 i, b0 i) := tw_insz.mpr ⟨g1, g2⟩
    obtain ⟨v1, v2⟩ := tw_iv_drop (by omega) h5 e hin
    refine yv_removeAt h3 s1 (fun a b hab => ?_)
    rw [s4, s5] at hab
    refine pk_le x i (fun g y ey => ?_) (fun g y ey z ez => ?_)
    · rw [tw_dec] at ey
      subst ey
      rw [if_pos g] at v1
      exact ih f x (cc - 1) a b U (by omega) (by omega) (by omega) hx hab v1
    · rw [tw_dec] at ez
      obtain ⟨w, rfl⟩ : ∃ w, x = w + 1 := ⟨x - 1, by omega⟩
      rw [pk_m1] at ey
      subst ey ez
      rw [if_neg (by omega), Nat.add_sub_cancel] at v1
      exact ih f w (cc - 1) a b U (by omega) (by omega) (by omega) (by omega) hab v1
theorem yv_90 {post : SY → Prop} {J4 : Int32 → Int32 → Int32 → Int32 → Int32 → Int32 → Int32 → Int32 → Int32 → (Nat → Int32) → (Nat → Int32) → (Nat → Int32) → (Nat → Int32) → (Nat → Int32) → (Nat → Int32) → (Nat → Int32) → (Nat → Int32) → Prop} {p st : Nat} {I O : Int32} (hn : n ≤ 8) (hq : q ≤ 4) (ho : oc ≤ 16) (hd : dc ≤ 16) (hc : cc ≤ 16) (hp : p < cc)
    (k : ∀ (L : Nat) (a b : Nat → Int32) (O' : Int32), O' = tw_ro n q (tw_ls oI oO 0 oc) (tw_ls dI dO 0 dc) I O q → tw_ls a b 0 L = tw_fl (I, O') (tw_ls (upd cI p I) (upd cO p O') 0 p) ++ [(I, O')] ++ tw_fl (I, O') (tw_ls (upd cI p I) (upd cO p O') (p + 1) (cc - p - 1)) → J4 (nI ((tw_fl (I, O') (tw_ls (upd cI p I) (upd cO p O') 0 p)).length + 1)) (nI (st + 1)) (nI n) (nI q) xc (nI oc) (nI dc) (nI L) xp oI oO dI dO a b sI sO) :
    ∀ (f i : Nat), q < f + i → i ≤ q → wY_doExpand_90 post J4 (nI p) (nI st) I (nI n) (nI q) xc (nI oc) (nI dc) (nI cc) xp oI oO dI dO cI cO sI sO f (tw_ro n q (tw_ls oI oO 0 oc) (tw_ls dI dO 0 dc) I O i) (nI i) := by
  intro f
  induction f with
  | zero => intro i h1 h2; omega
  | succ f ih =>
    intro i h1 h2
    refine pk_le q i (fun h => ?_) (fun h => br_c (fun z x ex => ?_) (fun z y ey => ?_))
    · have e : i = q := by omega
      subst e
      rw [nI_clamp (n := p) (by omega)]
      refine ⟨vp_in_nI (by omega) (by decide), fun a ea => ⟨vp_in_nI (by omega) (by decide), fun b eb y ey => ⟨cc + 1, ?_⟩⟩⟩
      subst ea eb ey
      refine yv_dr164 hc hp (by rw [pk_us, pk_us]) (fun L a b hab => k L a b _ rfl hab) cc (cc + 1) p cc _ _ [] (by omega) (by omega) hc (by omega) (by rw [List.append_nil]) (Or.inl ⟨hp, rfl, ?_⟩)
      rw [Nat.sub_self]
      rfl
    · subst ex
      refine yv_implicant hn hq ho hd (fun hi => br_f (by decide) (fun y ey => ?_)) (fun hi => br_t rfl (fun y ey => ?_))
      · subst ey
        rw [nI_1, ← tw_ro_t hi]
        exact ih (i + 1) (by omega) (by omega)
      · subst ey
        rw [nI_1, ← tw_ro_f hi]
        exact ih (i + 1) (by omega) (by omega)
    · subst ey
      have hb : bt (tw_ro n q (tw_ls oI oO 0 oc) (tw_ls dI dO 0 dc) I O i) i = true := Classical.byContradiction (fun g => z ((tw_bitz (by omega)).mpr g))
      rw [nI_1, ← tw_ro_same ((tw_raiseO (by omega)).mpr hb)]
      exact ih (i + 1) (by omega) (by omega)
theorem yv_36 {post : SY → Prop} {J4 : Int32 → Int32 → Int32 → Int32 → Int32 → Int32 → Int32 → Int32 → Int32 → (Nat → Int32) → (Nat → Int32) → (Nat → Int32) → (Nat → Int32) → (Nat → Int32) → (Nat → Int32) → (Nat → Int32) → (Nat → Int32) → Prop} {p st : Nat} {I O : Int32} (hn : n ≤ 8) (hq : q ≤ 4) (ho : oc ≤ 16) (hd : dc ≤ 16)
    (k : ∃ m, wY_doExpand_90 post J4 (nI p) (nI st) (tw_ri n q (tw_ls oI oO 0 oc) (tw_ls dI dO 0 dc) O I n) (nI n) (nI q) xc (nI oc) (nI dc) (nI cc) xp oI oO dI dO cI cO sI sO m O 0) :
    ∀ (f i : Nat), n < f + i → i ≤ n → wY_doExpand_36 post J4 (nI p) (nI st) O (nI n) (nI q) xc (nI oc) (nI dc) (nI cc) xp oI oO dI dO cI cO sI sO f (tw_ri n q (tw_ls oI oO 0 oc) (tw_ls dI dO 0 dc) O I i) (nI i) := by
  intro f
  induction f with
  | zero => intro i h1 h2; omega
  | succ f ih =>
    intro i h1 h2
    refine pk_le n i (fun h => ?_) (fun h => ?_)
    · have e : i = n := by omega
      subst e
      exact k
    · rw [tw_2x]
      refine br_c (fun z y ey => ?_) (fun z x ex => ?_)
      · subst ey
        rw [nI_1, ← tw_ri_same ((tw_raise (by omega)).mpr ((tw_fd3 _ _ (by omega)).mp z))]
        exact ih (i + 1) (by omega) (by omega)
      · subst ex
        refine yv_implicant hn hq ho hd (fun hi => br_f (by decide) (fun y ey => ?_)) (fun hi => br_t rfl (fun y ey => ?_))
        · subst ey
          rw [nI_1, ← tw_ri_t hi]
          exact ih (i + 1) (by omega) (by omega)
        · subst ey
          rw [nI_1, ← tw_ri_f hi]
          exact ih (i + 1) (by omega) (by omega)
theorem yv_ex4 {post : SY → Prop} (hn : n ≤ 8) (hq : q ≤ 4) (ho : oc ≤ 16) (hd : dc ≤ 16) :
    ∀ (g st p cc : Nat) (cI cO : Nat → Int32), st + g ≤ 64 → p ≤ cc → cc ≤ 16 → cc - p ≤ g → tw_val q (tw_ls cI cO 0 cc) →
    (∀ (L : Nat) (a b : Nat → Int32), L ≤ 16 → tw_ls a b 0 L = tw_ex n q (tw_ls oI oO 0 oc) (tw_ls dI dO 0 dc) g (tw_ls cI cO 0 p) (tw_ls cI cO p (cc - p)) → post (nI n, nI q, xc, nI oc, nI dc, nI L, xp, oI, oO, dI, dO, a, b, sI, sO)) →
    wY_doExpand_4 post (g + 1) (nI p) (nI st) (nI n) (nI q) xc (nI oc) (nI dc) (nI cc) xp oI oO dI dO cI cO sI sO := by
  intro g
  induction g with
  | zero =>
    intro st p cc cI cO h1 h2 h3 h4 hv k
    have kk : post (nI n, nI q, xc, nI oc, nI dc, nI cc, xp, oI, oO, dI, dO, cI, cO, sI, sO) := by
      refine k cc cI cO h3 ?_
      rw [tw_ls_nil (by omega), tw_ex_nil, show cc = p from by omega]
    exact pk_le 64 st (fun _ => kk) (fun _ => pk_le cc p (fun _ => kk) (fun h => absurd h (by omega)))
  | succ g ih =>
    intro st p cc cI cO h1 h2 h3 h4 hv k
    refine pk_le 64 st (fun h => absurd h (by omega)) (fun _ => pk_le cc p (fun h => k cc cI cO h3 ?_) (fun h => ?_))
    · rw [tw_ls_nil h, tw_ex_nil, show cc = p from by omega]
    · rw [nI_clamp (n := p) (by omega)]
      refine ⟨vp_in_nI (by omega) (by decide), fun x ex => ⟨vp_in_nI (by omega) (by decide), fun y ey => ⟨n + 1, ?_⟩⟩⟩
      subst ex ey
      refine yv_36 hn hq ho hd ⟨q + 1, yv_90 hn hq ho hd h3 h (fun L a2 b2 O' hO' hL => ?_) (q + 1) 0 (by omega) (by omega)⟩ (n + 1) 0 (by omega) (by omega)
      have hL2 : tw_ls a2 b2 0 L = tw_fl ((upd cI p (tw_ri n q (tw_ls oI oO 0 oc) (tw_ls dI dO 0 dc) (cO p) (cI p) n)) p, (upd cO p O') p) (tw_ls (upd cI p (tw_ri n q (tw_ls oI oO 0 oc) (tw_ls dI dO 0 dc) (cO p) (cI p) n)) (upd cO p O') 0 p) ++ [((upd cI p (tw_ri n q (tw_ls oI oO 0 oc) (tw_ls dI dO 0 dc) (cO p) (cI p) n)) p, (upd cO p O') p)] ++ tw_fl ((upd cI p (tw_ri n q (tw_ls oI oO 0 oc) (tw_ls dI dO 0 dc) (cO p) (cI p) n)) p, (upd cO p O') p) (tw_ls (upd cI p (tw_ri n q (tw_ls oI oO 0 oc) (tw_ls dI dO 0 dc) (cO p) (cI p) n)) (upd cO p O') (p + 1) (cc - p - 1)) := by
        rw [pk_us, pk_us]; exact hL
      obtain ⟨s1, s2, s3, s4, s5⟩ := tw_ex_step (n := n) (P := tw_ls oI oO 0 oc) (D := tw_ls dI dO 0 dc) (g := g) (a1 := upd cI p (tw_ri n q (tw_ls oI oO 0 oc) (tw_ls dI dO 0 dc) (cO p) (cI p) n)) (b1 := upd cO p O') hq h hv pk_us (fun j hj => pk_un hj) (by rw [pk_us, pk_us]; exact hO') (fun j hj => pk_un hj) hL2
      rw [pk_us, pk_us] at s1 s3 s5
      exact ih (st + 1) _ L a2 b2 (by omega) s1 (by omega) (by omega) s4 (fun L2 a3 b3 g1 g2 => k L2 a3 b3 g1 (by rw [g2, s5]))
theorem yv_doExpand {post : SY → Prop} (hn : n ≤ 8) (hq : q ≤ 4) (ho : oc ≤ 16) (hd : dc ≤ 16) (hc : cc ≤ 16) (hv : tw_val q (tw_ls cI cO 0 cc))
    (k : ∀ (L : Nat) (a b : Nat → Int32), L ≤ 16 → tw_ls a b 0 L = tw_ex n q (tw_ls oI oO 0 oc) (tw_ls dI dO 0 dc) 16 [] (tw_ls cI cO 0 cc) → post (nI n, nI q, xc, nI oc, nI dc, nI L, xp, oI, oO, dI, dO, a, b, sI, sO)) : wpY_doExpand post (nI n, nI q, xc, nI oc, nI dc, nI cc, xp, oI, oO, dI, dO, cI, cO, sI, sO) :=
  ⟨17, yv_ex4 hn hq ho hd 16 0 0 cc cI cO (by omega) (by omega) hc (by omega) hv k⟩
theorem yv_hp17 {post : Int32 → Prop} {J9 : Int32 → Prop} {x2 : Int32} {m p : Nat} (hn : n ≤ 8) (hq : q ≤ 4) (hm : m < 2 ^ 30) (ho : oc ≤ 16) (hd : dc ≤ 16) (hc : cc ≤ 16) (hp : p < cc)
    (kJ : (∀ o, o < q → ¬ tw_own n (tw_ls oI oO 0 oc) (tw_ls dI dO 0 dc) (cI p, cO p) (tw_ls cI cO 0 p ++ tw_ls cI cO (p + 1) (cc - p - 1)) m o) → J9 (nI (m + 1)))
    (k1 : (∃ o, o < q ∧ tw_own n (tw_ls oI oO 0 oc) (tw_ls dI dO 0 dc) (cI p, cO p) (tw_ls cI cO 0 p ++ tw_ls cI cO (p + 1) (cc - p - 1)) m o) → post 1) :
    ∀ (f i : Nat), q < f + i → i ≤ q → (∀ o, o < i → ¬ tw_own n (tw_ls oI oO 0 oc) (tw_ls dI dO 0 dc) (cI p, cO p) (tw_ls cI cO 0 p ++ tw_ls cI cO (p + 1) (cc - p - 1)) m o) → wY_hasPrivate_17 post J9 (nI p) x2 (nI m) (nI n) (nI q) xc (nI oc) (nI dc) (nI cc) xp oI oO dI dO cI cO sI sO f (nI i) := by
  intro f
  induction f with
  | zero => intro i h1 h2; omega
  | succ f ih =>
    intro i h1 h2 h3
    refine pk_le q i (fun h y ey => ?_) (fun h => ⟨vp_in_nI (by omega) (by decide), vp_in_nI (by omega) (by decide), ?_⟩)
    · subst ey
      rw [nI_1]
      exact kJ (fun o ho => h3 o (by omega))
    · rw [nI_clamp (n := p) (by omega)]
      have nx : ¬ tw_own n (tw_ls oI oO 0 oc) (tw_ls dI dO 0 dc) (cI p, cO p) (tw_ls cI cO 0 p ++ tw_ls cI cO (p + 1) (cc - p - 1)) m i → ∀ y : Int32, y = nI i + 1 → wY_hasPrivate_17 post J9 (nI p) x2 (nI m) (nI n) (nI q) xc (nI oc) (nI dc) (nI cc) xp oI oO dI dO cI cO sI sO f y := by
        intro g y ey
        subst ey
        rw [nI_1]
        refine ih (i + 1) (by omega) (by omega) (fun o ho => ?_)
        by_cases e : o = i
        · subst e; exact g
        · exact h3 o (by omega)
      exact yv_chk hn (by omega) (by omega) ho hd hc hp (fun g => k1 ⟨i, h, g⟩) (fun g => ⟨nx g, nx g, nx g⟩)
theorem yv_hp9 {post : Int32 → Prop} {p : Nat} (hn : n ≤ 8) (hq : q ≤ 4) (ho : oc ≤ 16) (hd : dc ≤ 16) (hc : cc ≤ 16) (hp : p < cc)
    (k1 : tw_has n q (tw_ls oI oO 0 oc) (tw_ls dI dO 0 dc) (cI p, cO p) (tw_ls cI cO 0 p ++ tw_ls cI cO (p + 1) (cc - p - 1)) → post 1)
    (k0 : ¬ tw_has n q (tw_ls oI oO 0 oc) (tw_ls dI dO 0 dc) (cI p, cO p) (tw_ls cI cO 0 p ++ tw_ls cI cO (p + 1) (cc - p - 1)) → post 0) :
    ∀ (f i : Nat), 2 ^ n < f + i → i ≤ 2 ^ n → (∀ m, m < i → ∀ o, o < q → ¬ tw_own n (tw_ls oI oO 0 oc) (tw_ls dI dO 0 dc) (cI p, cO p) (tw_ls cI cO 0 p ++ tw_ls cI cO (p + 1) (cc - p - 1)) m o) → wY_hasPrivate_9 post (nI p) (nI (2 ^ n)) (nI n) (nI q) xc (nI oc) (nI dc) (nI cc) xp oI oO dI dO cI cO sI sO f (nI i) := by
  have hpw := tw_pow8 hn
  intro f
  induction f with
  | zero => intro i h1 h2; omega
  | succ f ih =>
    intro i h1 h2 h3
    refine pk_le (2 ^ n) i (fun h => k0 ?_) (fun h => ⟨q + 1, yv_hp17 hn hq (by omega) ho hd hc hp (fun g => ?_) (fun ⟨o, ho2, g⟩ => k1 ⟨i, h, o, ho2, g⟩) (q + 1) 0 (by omega) (by omega) (fun o ho2 => absurd ho2 (by omega))⟩)
    · rintro ⟨m, hm, o, ho2, g⟩
      exact h3 m (by omega) o ho2 g
    · refine ih (i + 1) (by omega) (by omega) (fun m hm => ?_)
      by_cases e : m = i
      · subst e; exact g
      · exact h3 m (by omega)
theorem yv_has {post : Int32 → Prop} {p : Nat} (hn : n ≤ 8) (hq : q ≤ 4) (ho : oc ≤ 16) (hd : dc ≤ 16) (hc : cc ≤ 16) (hp : p < cc)
    (k1 : tw_has n q (tw_ls oI oO 0 oc) (tw_ls dI dO 0 dc) (cI p, cO p) (tw_ls cI cO 0 p ++ tw_ls cI cO (p + 1) (cc - p - 1)) → post 1)
    (k0 : ¬ tw_has n q (tw_ls oI oO 0 oc) (tw_ls dI dO 0 dc) (cI p, cO p) (tw_ls cI cO 0 p ++ tw_ls cI cO (p + 1) (cc - p - 1)) → post 0) : wpY_hasPrivate post (nI n, nI q, xc, nI oc, nI dc, nI cc, xp, oI, oO, dI, dO, cI, cO, sI, sO) (nI p) := by
  intro y ey
  rw [tw_p2 n (by omega)] at ey
  subst ey
  exact ⟨2 ^ n + 1, yv_hp9 hn hq ho hd hc hp k1 k0 (2 ^ n + 1) 0 (by omega) (Nat.zero_le _) (fun m hm => absurd hm (by omega))⟩
theorem yv_ir4 {post : SY → Prop} (hn : n ≤ 8) (hq : q ≤ 4) (ho : oc ≤ 16) (hd : dc ≤ 16) :
    ∀ (g st p cc : Nat) (cI cO : Nat → Int32), st + g ≤ 64 → p ≤ cc → cc ≤ 16 → cc - p = g → tw_val q (tw_ls cI cO 0 cc) →
    (∀ (L : Nat) (a b : Nat → Int32), L ≤ 16 → tw_ls a b 0 L = tw_ir n q (tw_ls oI oO 0 oc) (tw_ls dI dO 0 dc) (tw_ls cI cO 0 p) (tw_ls cI cO p (cc - p)) → post (nI n, nI q, xc, nI oc, nI dc, nI L, xp, oI, oO, dI, dO, a, b, sI, sO)) →
    wY_doIrredundant_4 post (g + 1) (nI p) (nI st) (nI n) (nI q) xc (nI oc) (nI dc) (nI cc) xp oI oO dI dO cI cO sI sO := by
  intro g
  induction g with
  | zero =>
    intro st p cc cI cO h1 h2 h3 h4 hv k
    have kk : post (nI n, nI q, xc, nI oc, nI dc, nI cc, xp, oI, oO, dI, dO, cI, cO, sI, sO) := by
      refine k cc cI cO h3 ?_
      rw [tw_ls_nil (by omega), show cc = p from by omega]
      simp only [tw_ir]
    exact pk_le 64 st (fun _ => kk) (fun _ => pk_le cc p (fun _ => kk) (fun h => absurd h (by omega)))
  | succ g ih =>
    intro st p cc cI cO h1 h2 h3 h4 hv k
    refine pk_le 64 st (fun h => absurd h (by omega)) (fun _ => pk_le cc p (fun h => absurd h (by omega)) (fun h => ?_))
    rw [tw_ls_cons h] at k
    simp only [tw_ir] at k
    refine yv_has hn hq ho hd h3 h (fun hh => br_f (by decide) (fun y ey z ez => ?_)) (fun hh => br_t rfl (yv_removeAt h3 h (fun a b hab z ez => ?_)))
    · rw [nI_1] at ey ez
      subst ey ez
      rw [tw_if_t hh] at k
      refine ih (st + 1) (p + 1) cc cI cO (by omega) (by omega) h3 (by omega) hv ?_
      rw [tw_ls_snoc, Nat.zero_add, show cc - (p + 1) = cc - p - 1 from by omega]
      exact k
    · rw [nI_1] at ez
      subst ez
      rw [tw_if_f hh] at k
      obtain ⟨s1, s2, s3⟩ := tw_val_rm h hv hab
      refine ih (st + 1) p (cc - 1) a b (by omega) (by omega) (by omega) (by omega) s1 ?_
      rw [s2, s3]
      exact k
theorem yv_doIrredundant {post : SY → Prop} (hn : n ≤ 8) (hq : q ≤ 4) (ho : oc ≤ 16) (hd : dc ≤ 16) (hc : cc ≤ 16) (hv : tw_val q (tw_ls cI cO 0 cc))
    (k : ∀ (L : Nat) (a b : Nat → Int32), L ≤ 16 → tw_ls a b 0 L = tw_ir n q (tw_ls oI oO 0 oc) (tw_ls dI dO 0 dc) [] (tw_ls cI cO 0 cc) → post (nI n, nI q, xc, nI oc, nI dc, nI L, xp, oI, oO, dI, dO, a, b, sI, sO)) : wpY_doIrredundant post (nI n, nI q, xc, nI oc, nI dc, nI cc, xp, oI, oO, dI, dO, cI, cO, sI, sO) :=
  ⟨cc + 1, yv_ir4 hn hq ho hd cc 0 0 cc cI cO (by omega) (by omega) hc (by omega) hv k⟩
end
end
section
/-! the reference: reduce, improve, and the public methods -/
section
variable {n q oc dc cc : Nat} {xc xp : Int32} {oI oO dI dO cI cO sI sO : Nat → Int32}
theorem yv_rd44 {post : SY → Prop} {J4 : Int32 → Int32 → Int32 → Int32 → Int32 → Int32 → Int32 → Int32 → Int32 → (Nat → Int32) → (Nat → Int32) → (Nat → Int32) → (Nat → Int32) → (Nat → Int32) → (Nat → Int32) → (Nat → Int32) → (Nat → Int32) → Prop} {J34 : Int32 → Int32 → Int32 → Prop} {x2 x5 I0 O0 : Int32} {m p : Nat} (hn : n ≤ 8) (hq : q ≤ 4) (hm : m < 2 ^ 30) (ho : oc ≤ 16) (hd : dc ≤ 16) (hc : cc ≤ 16) (hp : p < cc)
    (kJ : ∀ I O : Int32, (∀ j, j < 32 → (bt I j = true ↔ bt I0 j = true ∨ ((∃ o, o < q ∧ tw_own n (tw_ls oI oO 0 oc) (tw_ls dI dO 0 dc) (cI p, cO p) (tw_ls cI cO 0 p ++ tw_ls cI cO (p + 1) (cc - p - 1)) m o) ∧ ∃ t, t < n ∧ j = tw_at m t))) → (∀ o, o < 32 → (bt O o = true ↔ bt O0 o = true ∨ (o < q ∧ tw_own n (tw_ls oI oO 0 oc) (tw_ls dI dO 0 dc) (cI p, cO p) (tw_ls cI cO 0 p ++ tw_ls cI cO (p + 1) (cc - p - 1)) m o))) → J34 I O (nI (m + 1))) :
    ∀ (f i : Nat) (I O : Int32), q < f + i → i ≤ q →
    (∀ j, j < 32 → (bt I j = true ↔ bt I0 j = true ∨ ((∃ o, o < i ∧ tw_own n (tw_ls oI oO 0 oc) (tw_ls dI dO 0 dc) (cI p, cO p) (tw_ls cI cO 0 p ++ tw_ls cI cO (p + 1) (cc - p - 1)) m o) ∧ ∃ t, t < n ∧ j = tw_at m t))) →
    (∀ o, o < 32 → (bt O o = true ↔ bt O0 o = true ∨ (o < i ∧ tw_own n (tw_ls oI oO 0 oc) (tw_ls dI dO 0 dc) (cI p, cO p) (tw_ls cI cO 0 p ++ tw_ls cI cO (p + 1) (cc - p - 1)) m o))) →
    wY_doReduce_44 post J4 J34 (nI p) x2 x5 (nI m) (nI n) (nI q) xc (nI oc) (nI dc) (nI cc) xp oI oO dI dO cI cO sI sO f I O (nI i) := by
  intro f
  induction f with
  | zero => intro i I O h1 h2; omega
  | succ f ih =>
    intro i I O h1 h2 h3 h4
    refine pk_le q i (fun h y ey => ?_) (fun h => ⟨vp_in_nI (by omega) (by decide), vp_in_nI (by omega) (by decide), ?_⟩)
    · subst ey
      rw [nI_1]
      have e : i = q := by omega
      subst e
      exact kJ I O h3 h4
    · rw [nI_clamp (n := p) (by omega)]
      have nx : ¬ tw_own n (tw_ls oI oO 0 oc) (tw_ls dI dO 0 dc) (cI p, cO p) (tw_ls cI cO 0 p ++ tw_ls cI cO (p + 1) (cc - p - 1)) m i → ∀ y : Int32, y = nI i + 1 → wY_doReduce_44 post J4 J34 (nI p) x2 x5 (nI m) (nI n) (nI q) xc (nI oc) (nI dc) (nI cc) xp oI oO dI dO cI cO sI sO f I O y := by
        intro g y ey
        subst ey
        rw [nI_1]
        refine ih (i + 1) I O (by omega) (by omega) (fun j hj => ?_) (fun o ho2 => ?_)
        · rw [h3 j hj]
          constructor
          · rintro (a | ⟨⟨o, a, b⟩, c⟩)
            · exact Or.inl a
            · exact Or.inr ⟨⟨o, by omega, b⟩, c⟩
          · rintro (a | ⟨⟨o, a, b⟩, c⟩)
            · exact Or.inl a
            · by_cases e : o = i
              · subst e; exact absurd b g
              · exact Or.inr ⟨⟨o, by omega, b⟩, c⟩
        · rw [h4 o ho2]
          constructor
          · rintro (a | ⟨a, b⟩)
            · exact Or.inl a
            · exact Or.inr ⟨by omega, b⟩
          · rintro (a | ⟨a, b⟩)
            · exact Or.inl a
            · by_cases e : o = i
              · subst e; exact absurd b g
              · exact Or.inr ⟨by omega, b⟩
      refine yv_chk hn (by omega) (by omega) ho hd hc hp (fun g => yv_pointPart hn (by omega) (fun y ey z ez w ew => ?_)) (fun g => ⟨nx g, nx g, nx g⟩)
      subst ey ez ew
      rw [nI_1]
      refine ih (i + 1) _ _ (by omega) (by omega) (fun j hj => ?_) (fun o ho2 => ?_)
      · rw [b_or, Bool.or_eq_true, h3 j hj, tw_pm_b m n (by omega) j hj]
        constructor
        · rintro ((a | ⟨⟨o, a, b⟩, c⟩) | a)
          · exact Or.inl a
          · exact Or.inr ⟨⟨o, by omega, b⟩, c⟩
          · exact Or.inr ⟨⟨i, by omega, g⟩, a⟩
        · rintro (a | ⟨_, c⟩)
          · exact Or.inl (Or.inl a)
          · exact Or.inr c
      · rw [b_or, Bool.or_eq_true, h4 o ho2, tw_bsh i (by omega) o ho2, decide_eq_true_eq]
        constructor
        · rintro ((a | ⟨a, b⟩) | a)
          · exact Or.inl a
          · exact Or.inr ⟨by omega, b⟩
          · subst a; exact Or.inr ⟨by omega, g⟩
        · rintro (a | ⟨a, b⟩)
          · exact Or.inl (Or.inl a)
          · by_cases e : o = i
            · exact Or.inr e
            · exact Or.inl (Or.inr ⟨by omega, b⟩)
theorem yv_rd34 {post : SY → Prop} {J4 : Int32 → Int32 → Int32 → Int32 → Int32 → Int32 → Int32 → Int32 → Int32 → (Nat → Int32) → (Nat → Int32) → (Nat → Int32) → (Nat → Int32) → (Nat → Int32) → (Nat → Int32) → (Nat → Int32) → (Nat → Int32) → Prop} {st p : Nat} (hn : n ≤ 8) (hq : q ≤ 4) (ho : oc ≤ 16) (hd : dc ≤ 16) (hc : cc ≤ 16) (hp : p < cc)
    (k1 : tw_has n q (tw_ls oI oO 0 oc) (tw_ls dI dO 0 dc) (cI p, cO p) (tw_ls cI cO 0 p ++ tw_ls cI cO (p + 1) (cc - p - 1)) → ∀ I O : Int32, (I, O) = tw_rc n q (tw_ls oI oO 0 oc) (tw_ls dI dO 0 dc) (cI p, cO p) (tw_ls cI cO 0 p ++ tw_ls cI cO (p + 1) (cc - p - 1)) → J4 (nI (p + 1)) (nI (st + 1)) (nI n) (nI q) xc (nI oc) (nI dc) (nI cc) xp oI oO dI dO (upd cI p I) (upd cO p O) sI sO)
    (k0 : ¬ tw_has n q (tw_ls oI oO 0 oc) (tw_ls dI dO 0 dc) (cI p, cO p) (tw_ls cI cO 0 p ++ tw_ls cI cO (p + 1) (cc - p - 1)) → ∀ a b : Nat → Int32, tw_ls a b 0 (cc - 1) = tw_ls cI cO 0 p ++ tw_ls cI cO (p + 1) (cc - p - 1) → J4 (nI p) (nI (st + 1)) (nI n) (nI q) xc (nI oc) (nI dc) (nI (cc - 1)) xp oI oO dI dO a b sI sO) :
    ∀ (f i : Nat) (I O : Int32), 2 ^ n < f + i → i ≤ 2 ^ n →
    (∀ j, j < 32 → (bt I j = true ↔ ∃ m, m < i ∧ (∃ o, o < q ∧ tw_own n (tw_ls oI oO 0 oc) (tw_ls dI dO 0 dc) (cI p, cO p) (tw_ls cI cO 0 p ++ tw_ls cI cO (p + 1) (cc - p - 1)) m o) ∧ ∃ i, i < n ∧ j = tw_at m i)) →
    (∀ o, o < 32 → (bt O o = true ↔ ∃ m, m < i ∧ o < q ∧ tw_own n (tw_ls oI oO 0 oc) (tw_ls dI dO 0 dc) (cI p, cO p) (tw_ls cI cO 0 p ++ tw_ls cI cO (p + 1) (cc - p - 1)) m o)) →
    wY_doReduce_34 post J4 (nI p) (nI st) (nI (2 ^ n)) (nI n) (nI q) xc (nI oc) (nI dc) (nI cc) xp oI oO dI dO cI cO sI sO f I O (nI i) := by
  have hpw := tw_pow8 hn
  intro f
  induction f with
  | zero => intro i I O h1 h2; omega
  | succ f ih =>
    intro i I O h1 h2 h3 h4
    refine pk_le (2 ^ n) i (fun h => ?_) (fun h => ⟨q + 1, yv_rd44 (I0 := I) (O0 := O) hn hq (by omega) ho hd hc hp (fun I' O' g1 g2 => ?_) (q + 1) 0 I O (by omega) (by omega) (fun j hj => ?_) (fun o ho2 => ?_)⟩)
    · have e : i = 2 ^ n := by omega
      subst e
      refine br_c (fun z => yv_removeAt hc hp (fun a b hab y ey => ?_)) (fun z => ?_)
      · rw [nI_1] at ey
        subst ey
        refine k0 ?_ a b hab
        rintro ⟨m, hm, o, ho2, hw⟩
        have h5 := (h4 o (by omega)).mpr ⟨m, hm, ho2, hw⟩
        rw [z, b_0] at h5
        exact Bool.noConfusion h5
      · rw [nI_clamp (n := p) (by omega)]
        refine ⟨vp_in_nI (by omega) (by decide), fun a ea => ⟨vp_in_nI (by omega) (by decide), fun b eb y ey w ew => ?_⟩⟩
        rw [nI_1] at ey ew
        subst ea eb ey ew
        obtain ⟨o, ho2, hb⟩ := tw_nz.mp z
        obtain ⟨m, hm, hoq, hw⟩ := (h4 o ho2).mp hb
        exact k1 ⟨m, hm, o, hoq, hw⟩ I O (tw_rcy h3 h4)
    · refine ih (i + 1) I' O' (by omega) (by omega) (fun j hj => ?_) (fun o ho2 => ?_)
      · rw [g1 j hj, h3 j hj]
        constructor
        · rintro (⟨m, a, b⟩ | a)
          · exact ⟨m, by omega, b⟩
          · exact ⟨i, by omega, a⟩
        · rintro ⟨m, a, b⟩
          by_cases e : m = i
          · subst e; exact Or.inr b
          · exact Or.inl ⟨m, by omega, b⟩
      · rw [g2 o ho2, h4 o ho2]
        constructor
        · rintro (⟨m, a, b⟩ | a)
          · exact ⟨m, by omega, b⟩
          · exact ⟨i, by omega, a⟩
        · rintro ⟨m, a, b⟩
          by_cases e : m = i
          · subst e; exact Or.inr b
          · exact Or.inl ⟨m, by omega, b⟩
    · constructor
      · intro a; exact Or.inl a
      · rintro (a | ⟨⟨o, a, _⟩, _⟩)
        · exact a
        · omega
    · constructor
      · intro a; exact Or.inl a
      · rintro (a | ⟨a, _⟩)
        · exact a
        · omega
theorem yv_rd4 {post : SY → Prop} (hn : n ≤ 8) (hq : q ≤ 4) (ho : oc ≤ 16) (hd : dc ≤ 16) :
    ∀ (g st p cc : Nat) (cI cO : Nat → Int32), st + g ≤ 64 → p ≤ cc → cc ≤ 16 → cc - p = g → tw_val q (tw_ls cI cO 0 cc) →
    (∀ (L : Nat) (a b : Nat → Int32), L ≤ 16 → tw_ls a b 0 L = tw_rd n q (tw_ls oI oO 0 oc) (tw_ls dI dO 0 dc) (tw_ls cI cO 0 p) (tw_ls cI cO p (cc - p)) → post (nI n, nI q, xc, nI oc, nI dc, nI L, xp, oI, oO, dI, dO, a, b, sI, sO)) →
    wY_doReduce_4 post (g + 1) (nI p) (nI st) (nI n) (nI q) xc (nI oc) (nI dc) (nI cc) xp oI oO dI dO cI cO sI sO := by
  intro g
  induction g with
  | zero =>
    intro st p cc cI cO h1 h2 h3 h4 hv k
    have kk : post (nI n, nI q, xc, nI oc, nI dc, nI cc, xp, oI, oO, dI, dO, cI, cO, sI, sO) := by
      refine k cc cI cO h3 ?_
      rw [tw_ls_nil (by omega), show cc = p from by omega]
      simp only [tw_rd]
    exact pk_le 64 st (fun _ => kk) (fun _ => pk_le cc p (fun _ => kk) (fun h => absurd h (by omega)))
  | succ g ih =>
    intro st p cc cI cO h1 h2 h3 h4 hv k
    refine pk_le 64 st (fun h => absurd h (by omega)) (fun _ => pk_le cc p (fun h => absurd h (by omega)) (fun h y ey => ?_))
    rw [tw_p2 n (by omega)] at ey
    subst ey
    rw [tw_ls_cons h] at k
    simp only [tw_rd] at k
    refine ⟨2 ^ n + 1, yv_rd34 hn hq ho hd h3 h (fun hh I O hIO => ?_) (fun hh a b hab => ?_) (2 ^ n + 1) 0 0 0 (by omega) (Nat.zero_le _) (fun j hj => ?_) (fun o ho => ?_)⟩
    · rw [tw_if_t hh, ← hIO] at k
      have hOk : ∀ o, bt O o = true → o < q := by
        have h5 : O = (tw_rc n q (tw_ls oI oO 0 oc) (tw_ls dI dO 0 dc) (cI p, cO p) (tw_ls cI cO 0 p ++ tw_ls cI cO (p + 1) (cc - p - 1))).2 := congrArg Prod.snd hIO
        rw [h5]
        exact tw_rc_ok
      obtain ⟨s1, s2, s3⟩ := tw_val_set (I := I) (O := O) h hv hOk
      refine ih (st + 1) (p + 1) cc _ _ (by omega) (by omega) h3 (by omega) s1 ?_
      rw [s2, s3]
      exact k
    · rw [tw_if_f hh] at k
      obtain ⟨s1, s2, s3⟩ := tw_val_rm h hv hab
      refine ih (st + 1) p (cc - 1) a b (by omega) (by omega) (by omega) (by omega) s1 ?_
      rw [s2, s3]
      exact k
    · rw [b_0]
      constructor
      · intro h; exact Bool.noConfusion h
      · intro ⟨m, hm, _⟩; omega
    · rw [b_0]
      constructor
      · intro h; exact Bool.noConfusion h
      · intro ⟨m, hm, _⟩; omega
theorem yv_doReduce {post : SY → Prop} (hn : n ≤ 8) (hq : q ≤ 4) (ho : oc ≤ 16) (hd : dc ≤ 16) (hc : cc ≤ 16) (hv : tw_val q (tw_ls cI cO 0 cc))
    (k : ∀ (L : Nat) (a b : Nat → Int32), L ≤ 16 → tw_ls a b 0 L = tw_rd n q (tw_ls oI oO 0 oc) (tw_ls dI dO 0 dc) [] (tw_ls cI cO 0 cc) → post (nI n, nI q, xc, nI oc, nI dc, nI L, xp, oI, oO, dI, dO, a, b, sI, sO)) : wpY_doReduce post (nI n, nI q, xc, nI oc, nI dc, nI cc, xp, oI, oO, dI, dO, cI, cO, sI, sO) :=
  ⟨cc + 1, yv_rd4 hn hq ho hd cc 0 0 cc cI cO (by omega) (by omega) hc (by omega) hv k⟩
theorem yv_im122 {post : Int32 → SY → Prop} {c : Nat} (hc : c ≤ 16)
    (k : ∀ a b : Nat → Int32, tw_ls a b 0 c = tw_ls sI sO 0 c → post 0 (nI n, nI q, xc, nI oc, nI dc, nI c, xp, oI, oO, dI, dO, a, b, sI, sO)) :
    ∀ (f i : Nat) (cI cO : Nat → Int32), c < f + i → i ≤ c → (∀ j, j < i → cI j = sI j ∧ cO j = sO j) → wY_improve_122 post (nI c) (nI n) (nI q) xc (nI oc) (nI dc) (nI c) xp f (nI i) oI oO dI dO cI cO sI sO := by
  intro f
  induction f with
  | zero => intro i a b h1 h2; omega
  | succ f ih =>
    intro i a b h1 h2 h3
    refine pk_le c i (fun h => k a b (tw_ls_eq (fun j _ hj => h3 j (by omega)))) (fun h => pk_le 16 i (fun g => absurd g (by omega)) (fun _ => ?_))
    rw [nI_clamp (n := i) (by omega)]
    refine ⟨vp_in_nI (by omega) (by decide), vp_in_nI (by omega) (by decide), fun y ey => ⟨vp_in_nI (by omega) (by decide), vp_in_nI (by omega) (by decide), fun z ez w ew => ?_⟩⟩
    subst ey ez ew
    rw [nI_1]
    refine ih (i + 1) _ _ (by omega) (by omega) (fun j hj => ?_)
    by_cases e : j = i
    · subst e; exact ⟨pk_us, pk_us⟩
    · rw [pk_un e, pk_un e]; exact h3 j (by omega)
theorem yv_im60 {post : Int32 → SY → Prop} {s t : Nat → Int32} (hn : n ≤ 8) (hq : q ≤ 4) (ho : oc ≤ 16) (hd : dc ≤ 16) (hc : cc ≤ 16) (hv : tw_val q (tw_ls cI cO 0 cc)) (hst : tw_ls s t 0 cc = tw_ls cI cO 0 cc)
    (k1 : tw_bet n (tw_im n q (tw_ls oI oO 0 oc) (tw_ls dI dO 0 dc) (tw_ls cI cO 0 cc)) (tw_ls cI cO 0 cc) → ∀ (L : Nat) (a b s t : Nat → Int32), L ≤ 16 → tw_ls a b 0 L = tw_im n q (tw_ls oI oO 0 oc) (tw_ls dI dO 0 dc) (tw_ls cI cO 0 cc) → post 1 (nI n, nI q, xc, nI oc, nI dc, nI L, xp, oI, oO, dI, dO, a, b, s, t))
    (k2 : ¬ tw_bet n (tw_im n q (tw_ls oI oO 0 oc) (tw_ls dI dO 0 dc) (tw_ls cI cO 0 cc)) (tw_ls cI cO 0 cc) → ∀ (a b s t : Nat → Int32), tw_ls a b 0 cc = tw_ls cI cO 0 cc → post 0 (nI n, nI q, xc, nI oc, nI dc, nI cc, xp, oI, oO, dI, dO, a, b, s, t)) : wY_improve_60 post (nI cc) (nI n) (nI q) xc (nI oc) (nI dc) (nI cc) xp oI oO dI dO cI cO s t := by
  unfold wY_improve_60
  refine yv_literals hn hc ?_
  refine yv_doReduce hn hq ho hd hc hv (fun L1 a1 b1 hL1 h1 => ?_)
  have hv1 : tw_val q (tw_ls a1 b1 0 L1) := by rw [h1]; exact (tw_rd_keep _ _ tw_val_nil hv).1
  refine yv_doExpand hn hq ho hd hL1 hv1 (fun L2 a2 b2 hL2 h2 => ?_)
  have hv2 : tw_val q (tw_ls a2 b2 0 L2) := by rw [h2]; exact (tw_ex_keep hq _ _ _ tw_val_nil hv1).1
  refine yv_doIrredundant hn hq ho hd hL2 hv2 (fun L3 a3 b3 hL3 h3 => ?_)
  have h4 : tw_ls a3 b3 0 L3 = tw_im n q (tw_ls oI oO 0 oc) (tw_ls dI dO 0 dc) (tw_ls cI cO 0 cc) := by
    unfold tw_im
    rw [h3, h2, h1]
  have hl3 := tw_li_lt (a := a3) (b := b3) hn hL3
  have hl0 := tw_li_lt (a := cI) (b := cO) hn hc
  have hlen : (tw_im n q (tw_ls oI oO 0 oc) (tw_ls dI dO 0 dc) (tw_ls cI cO 0 cc)).length = L3 := by rw [← h4, tw_ls_len]
  have hlen0 : (tw_ls cI cO 0 cc).length = cc := tw_ls_len _ _ _ _
  refine yv_literals hn hL3 ?_
  have back : ¬ tw_bet n (tw_im n q (tw_ls oI oO 0 oc) (tw_ls dI dO 0 dc) (tw_ls cI cO 0 cc)) (tw_ls cI cO 0 cc) → ∃ n122 : Nat, wY_improve_122 post (nI cc) (nI n) (nI q) xc (nI oc) (nI dc) (nI cc) xp n122 0 oI oO dI dO a3 b3 s t := by
    intro hb
    exact ⟨cc + 1, yv_im122 hc (fun a b hab => k2 hb a b s t (by rw [hab, hst])) (cc + 1) 0 a3 b3 (by omega) (by omega) (fun j hj => absurd hj (by omega))⟩
  refine pk_lt L3 cc (fun g => k1 ?_ L3 a3 b3 s t hL3 h4) (fun g => pk_eq L3 cc (fun g2 => ?_) (fun g2 => back ?_))
  · unfold tw_bet
    rw [hlen, hlen0]
    omega
  · refine pk_le (tw_li n (tw_ls cI cO 0 cc)) (tw_li n (tw_ls a3 b3 0 L3)) (fun g3 => back ?_) (fun g3 => k1 ?_ L3 a3 b3 s t hL3 h4)
    · unfold tw_bet
      rw [hlen, hlen0, ← h4]
      omega
    · unfold tw_bet
      rw [hlen, hlen0, ← h4]
      omega
  · unfold tw_bet
    rw [hlen, hlen0]
    omega
theorem yv_im16 {post : Int32 → SY → Prop} (hc : cc ≤ 16) (k : ∀ s t : Nat → Int32, tw_ls s t 0 cc = tw_ls cI cO 0 cc → wY_improve_60 post (nI cc) (nI n) (nI q) xc (nI oc) (nI dc) (nI cc) xp oI oO dI dO cI cO s t) :
    ∀ (f i : Nat) (sI sO : Nat → Int32), cc < f + i → i ≤ cc → (∀ j, j < i → sI j = cI j ∧ sO j = cO j) → wY_improve_16 post (nI cc) (nI n) (nI q) xc (nI oc) (nI dc) (nI cc) xp f (nI i) oI oO dI dO cI cO sI sO := by
  intro f
  induction f with
  | zero => intro i a b h1 h2; omega
  | succ f ih =>
    intro i a b h1 h2 h3
    refine pk_le cc i (fun h => k a b (tw_ls_eq (fun j _ hj => h3 j (by omega)))) (fun h => pk_le 16 i (fun g => absurd g (by omega)) (fun _ => ?_))
    rw [nI_clamp (n := i) (by omega)]
    refine ⟨vp_in_nI (by omega) (by decide), vp_in_nI (by omega) (by decide), fun y ey => ⟨vp_in_nI (by omega) (by decide), vp_in_nI (by omega) (by decide), fun z ez w ew => ?_⟩⟩
    subst ey ez ew
    rw [nI_1]
    refine ih (i + 1) _ _ (by omega) (by omega) (fun j hj => ?_)
    by_cases e : j = i
    · subst e; exact ⟨pk_us, pk_us⟩
    · rw [pk_un e, pk_un e]; exact h3 j (by omega)
theorem yv_improve {post : Int32 → SY → Prop} (hn : n ≤ 8) (hq : q ≤ 4) (ho : oc ≤ 16) (hd : dc ≤ 16) (hc : cc ≤ 16) (hv : tw_val q (tw_ls cI cO 0 cc)) (k0 : xp = 0 → post (-1) (nI n, nI q, xc, nI oc, nI dc, nI cc, xp, oI, oO, dI, dO, cI, cO, sI, sO))
    (k1 : ¬ xp = 0 → tw_bet n (tw_im n q (tw_ls oI oO 0 oc) (tw_ls dI dO 0 dc) (tw_ls cI cO 0 cc)) (tw_ls cI cO 0 cc) → ∀ (L : Nat) (a b s t : Nat → Int32), L ≤ 16 → tw_ls a b 0 L = tw_im n q (tw_ls oI oO 0 oc) (tw_ls dI dO 0 dc) (tw_ls cI cO 0 cc) → post 1 (nI n, nI q, xc, nI oc, nI dc, nI L, xp, oI, oO, dI, dO, a, b, s, t))
    (k2 : ¬ xp = 0 → ¬ tw_bet n (tw_im n q (tw_ls oI oO 0 oc) (tw_ls dI dO 0 dc) (tw_ls cI cO 0 cc)) (tw_ls cI cO 0 cc) → ∀ (a b s t : Nat → Int32), tw_ls a b 0 cc = tw_ls cI cO 0 cc → post 0 (nI n, nI q, xc, nI oc, nI dc, nI cc, xp, oI, oO, dI, dO, a, b, s, t)) : wpY_improve post (nI n, nI q, xc, nI oc, nI dc, nI cc, xp, oI, oO, dI, dO, cI, cO, sI, sO) :=
  br_c k0 (fun h => ⟨cc + 1, yv_im16 hc (fun s t hst => yv_im60 hn hq ho hd hc hv hst (k1 h) (k2 h)) (cc + 1) 0 sI sO (by omega) (by omega) (fun j hj => absurd hj (by omega))⟩)
theorem yv_bg7 {post : Int32 → SY → Prop} (ho : oc ≤ 16) (k : ∀ a b : Nat → Int32, tw_ls a b 0 oc = tw_ls oI oO 0 oc → post (nI oc) (nI n, nI q, xc, nI oc, nI dc, nI oc, 1, oI, oO, dI, dO, a, b, sI, sO)) :
    ∀ (f i : Nat) (cI cO : Nat → Int32), oc < f + i → i ≤ oc → (∀ j, j < i → cI j = oI j ∧ cO j = oO j) → wY_begin_7 post (nI n) (nI q) xc (nI oc) (nI dc) xp f (nI i) (nI i) oI oO dI dO cI cO sI sO := by
  intro f
  induction f with
  | zero => intro i a b h1 h2; omega
  | succ f ih =>
    intro i a b h1 h2 h3
    refine pk_le oc i (fun h => ?_) (fun h => pk_le 16 i (fun g => absurd g (by omega)) (fun _ => ?_))
    · have e : i = oc := by omega
      subst e
      exact k a b (tw_ls_eq (fun j _ hj => h3 j (by omega)))
    · rw [nI_clamp (n := i) (by omega)]
      refine ⟨vp_in_nI (by omega) (by decide), vp_in_nI (by omega) (by decide), fun y ey => ⟨vp_in_nI (by omega) (by decide), vp_in_nI (by omega) (by decide), fun z ez w ew u eu => ?_⟩⟩
      rw [nI_1] at ew eu
      subst ey ez ew eu
      refine ih (i + 1) _ _ (by omega) (by omega) (fun j hj => ?_)
      by_cases e : j = i
      · subst e; exact ⟨pk_us, pk_us⟩
      · rw [pk_un e, pk_un e]; exact h3 j (by omega)
theorem yv_begin {post : Int32 → SY → Prop} (ho : oc ≤ 16) (k : ∀ a b : Nat → Int32, tw_ls a b 0 oc = tw_ls oI oO 0 oc → post (nI oc) (nI n, nI q, xc, nI oc, nI dc, nI oc, 1, oI, oO, dI, dO, a, b, sI, sO)) : wpY_begin post (nI n, nI q, xc, nI oc, nI dc, nI cc, xp, oI, oO, dI, dO, cI, cO, sI, sO) :=
  ⟨oc + 1, yv_bg7 ho k (oc + 1) 0 cI cO (by omega) (by omega) (fun j hj => absurd hj (by omega))⟩
theorem yv_pt {A B : Prop} {v w : Int32} (hn : n ≤ 8) (hq : q ≤ 4) (k1 : ∀ m o, m < 2 ^ n → o < q → v = nI m → w = nI o → A) (k0 : (¬ ∃ m o, m < 2 ^ n ∧ o < q ∧ v = nI m ∧ w = nI o) → B) : (v < 0 → B) ∧ (¬ v < 0 → ((((1 : Int32) <<< (nI n &&& 31)) ≤ v → B) ∧ (¬ ((1 : Int32) <<< (nI n &&& 31)) ≤ v → ((w < 0 → B) ∧ (¬ w < 0 → ((w < nI q → A) ∧ (¬ w < nI q → B))))))) := by
  have e : (1 : Int32) <<< (nI n &&& 31) = nI (2 ^ n) := tw_p2 n (by omega)
  have hp := tw_pow8 hn
  refine br_c (fun h => k0 ?_) (fun h => br_c (fun h2 => k0 ?_) (fun h2 => br_c (fun h3 => k0 ?_) (fun h3 => br_c (fun h4 => ?_) (fun h4 => k0 ?_))))
  · rintro ⟨m, o, h5, h6, rfl, rfl⟩
    exact nI_pos (by omega) h
  · rintro ⟨m, o, h5, h6, rfl, rfl⟩
    rw [e, nI_leI (by omega) (by omega)] at h2
    omega
  · rintro ⟨m, o, h5, h6, rfl, rfl⟩
    exact nI_pos (by omega) h3
  · obtain ⟨m, hm, rfl⟩ := nI_of h
    obtain ⟨o, ho, rfl⟩ := nI_of h3
    rw [e, nI_leI (by omega) hm] at h2
    rw [nI_ltI ho (by omega)] at h4
    exact k1 m o (by omega) (by omega) rfl rfl
  · rintro ⟨m, o, h5, h6, rfl, rfl⟩
    rw [nI_ltI (by omega) (by omega)] at h4
    omega
theorem yv_evaluate {post : Int32 → Prop} {v w : Int32} (hn : n ≤ 8) (hq : q ≤ 4) (hc : cc ≤ 16) (k1 : ∀ m o, m < 2 ^ n → o < q → v = nI m → w = nI o → post (tw_if (tw_hit n (tw_ls cI cO 0 cc) m o) 1 0)) (k0 : (¬ ∃ m o, m < 2 ^ n ∧ o < q ∧ v = nI m ∧ w = nI o) → post (-5)) : wpY_evaluate post (nI n, nI q, xc, nI oc, nI dc, nI cc, xp, oI, oO, dI, dO, cI, cO, sI, sO) v w := by
  have hp := tw_pow8 hn
  refine yv_pt hn hq (fun m o hm ho ev ew => ?_) k0
  subst ev ew
  have h2 := k1 m o hm ho rfl rfl
  exact ⟨cc + 1, yv_ev31 hn (by omega) (by omega) hc (fun g => by rw [tw_if_t g] at h2; exact h2) (fun g => by rw [tw_if_f g] at h2; exact h2) (cc + 1) 0 (by omega) (by omega) (fun j hj => absurd hj (by omega))⟩
theorem yv_function {post : Int32 → Prop} {v w : Int32} (hn : n ≤ 8) (hq : q ≤ 4) (ho : oc ≤ 16) (hd : dc ≤ 16) (k1 : ∀ m o, m < 2 ^ n → o < q → v = nI m → w = nI o → post (tw_if (tw_hit n (tw_ls dI dO 0 dc) m o) 2 (tw_if (tw_hit n (tw_ls oI oO 0 oc) m o) 1 0))) (k0 : (¬ ∃ m o, m < 2 ^ n ∧ o < q ∧ v = nI m ∧ w = nI o) → post (-5)) : wpY_function post (nI n, nI q, xc, nI oc, nI dc, nI cc, xp, oI, oO, dI, dO, cI, cO, sI, sO) v w := by
  have hp := tw_pow8 hn
  refine yv_pt hn hq (fun m o hm ho2 ev ew => ?_) k0
  subst ev ew
  have h2 := k1 m o hm ho2 rfl rfl
  exact yv_func hn (by omega) (by omega) ho hd (fun g => by rw [tw_if_t g] at h2; exact h2) (fun g1 g2 => by rw [tw_if_f g1, tw_if_t g2] at h2; exact h2) (fun g1 g2 => by rw [tw_if_f g1, tw_if_f g2] at h2; exact h2)
theorem yv_isImplicant {post : Int32 → Prop} {v w : Int32} (hn : n ≤ 8) (hq : q ≤ 4) (ho : oc ≤ 16) (hd : dc ≤ 16) (k1 : tw_vi n v → tw_vm q w → tw_imp n q (tw_ls oI oO 0 oc) (tw_ls dI dO 0 dc) v w → post 1) (k2 : tw_vi n v → tw_vm q w → ¬ tw_imp n q (tw_ls oI oO 0 oc) (tw_ls dI dO 0 dc) v w → post 0) (k3 : ¬ tw_vi n v → post 0) (k4 : tw_vi n v → ¬ tw_vm q w → post 0) : wpY_isImplicant post (nI n, nI q, xc, nI oc, nI dc, nI cc, xp, oI, oO, dI, dO, cI, cO, sI, sO) v w := by
  unfold wpY_isImplicant
  refine yv_validInput hn (fun hv => br_f (by decide) ?_) (fun hv => br_t rfl (k3 hv))
  refine yv_validMask hq (fun hm => br_f (by decide) ?_) (fun hm => br_t rfl (k4 hv hm))
  exact yv_implicant hn hq ho hd (fun hi => ⟨rfl, k1 hv hm hi⟩) (fun hi => ⟨rfl, k2 hv hm hi⟩)
end
end
section
/-! the relation and what is owed -/
section
variable {n q cap oc dc cc : Nat} {xc xp xs : Int32} {oI oO dI dO cI cO sI sO : Nat → Int32}
theorem xv_addOn {post : Int32 → SX → Prop} {p0 p1 : Int32} (hn : n ≤ 8) (hq : q ≤ 4) (hc : cap ≤ 16) (ho : oc ≤ cap) (ka : xp = 1 → post (-1) (nI n, nI q, nI cap, xp, nI oc, nI dc, nI cc, xs, oI, oO, dI, dO, cI, cO, sI, sO)) (kb : ¬ xp = 1 → ¬ tw_vi n p0 → post (-2) (nI n, nI q, nI cap, xp, nI oc, nI dc, nI cc, xs, oI, oO, dI, dO, cI, cO, sI, sO)) (kc : ¬ xp = 1 → tw_vi n p0 → ¬ tw_vm q p1 → post (-3) (nI n, nI q, nI cap, xp, nI oc, nI dc, nI cc, xs, oI, oO, dI, dO, cI, cO, sI, sO))
    (kd : ¬ xp = 1 → tw_vi n p0 → tw_vm q p1 → oc < cap → post (nI oc) (nI n, nI q, nI cap, xp, nI (oc + 1), nI dc, nI cc, xs, upd oI oc p0, upd oO oc p1, dI, dO, cI, cO, sI, sO)) (ke : ¬ xp = 1 → tw_vi n p0 → tw_vm q p1 → ¬ oc < cap → post (-4) (nI n, nI q, nI cap, xp, nI oc, nI dc, nI cc, xs, oI, oO, dI, dO, cI, cO, sI, sO)) : wpX_addOn post (nI n, nI q, nI cap, xp, nI oc, nI dc, nI cc, xs, oI, oO, dI, dO, cI, cO, sI, sO) p0 p1 := by
  unfold wpX_addOn
  refine xv_placeFor hn hq (fun a => br_t (by decide) (ka a)) (fun a b => br_t (by decide) (kb a b)) (fun a b c => br_t (by decide) (kc a b c)) (fun a b c d => br_f (nI_pos (by omega)) ?_) (fun a b c d => br_t (by decide) (ke a b c ?_))
  · rw [nI_ltI (by omega) (by omega)] at d
    rw [nI_clamp (n := oc) (by omega)]
    refine ⟨vp_in_nI (by omega) (by decide), fun y ey => ⟨vp_in_nI (by omega) (by decide), fun z ez w ew => ?_⟩⟩
    rw [nI_1] at ew
    subst ey ez ew
    exact kd a b c d
  · rw [nI_ltI (by omega) (by omega)] at d
    exact d
theorem yv_addOn {post : Int32 → SY → Prop} {p0 p1 : Int32} (hn : n ≤ 8) (hq : q ≤ 4) (hc : cap ≤ 16) (ho : oc ≤ cap) (ka : xp = 1 → post (-1) (nI n, nI q, nI cap, nI oc, nI dc, nI cc, xp, oI, oO, dI, dO, cI, cO, sI, sO)) (kb : ¬ xp = 1 → ¬ tw_vi n p0 → post (-2) (nI n, nI q, nI cap, nI oc, nI dc, nI cc, xp, oI, oO, dI, dO, cI, cO, sI, sO)) (kc : ¬ xp = 1 → tw_vi n p0 → ¬ tw_vm q p1 → post (-3) (nI n, nI q, nI cap, nI oc, nI dc, nI cc, xp, oI, oO, dI, dO, cI, cO, sI, sO))
    (kd : ¬ xp = 1 → tw_vi n p0 → tw_vm q p1 → oc < cap → post (nI oc) (nI n, nI q, nI cap, nI (oc + 1), nI dc, nI cc, xp, upd oI oc p0, upd oO oc p1, dI, dO, cI, cO, sI, sO)) (ke : ¬ xp = 1 → tw_vi n p0 → tw_vm q p1 → ¬ oc < cap → post (-4) (nI n, nI q, nI cap, nI oc, nI dc, nI cc, xp, oI, oO, dI, dO, cI, cO, sI, sO)) : wpY_addOn post (nI n, nI q, nI cap, nI oc, nI dc, nI cc, xp, oI, oO, dI, dO, cI, cO, sI, sO) p0 p1 := by
  refine br_c ka (fun a => yv_validInput hn (fun b => br_f (by decide) (yv_validMask hq (fun c => br_f (by decide) (pk_le cap oc (fun d => ke a b c (by omega)) (fun d => pk_lt oc 16 (fun _ => ?_) (fun g => absurd g (by omega))))) (fun c => br_t rfl (kc a b c)))) (fun b => br_t rfl (kb a b)))
  rw [nI_clamp (n := oc) (by omega)]
  refine ⟨vp_in_nI (by omega) (by decide), fun y ey => ⟨vp_in_nI (by omega) (by decide), fun z ez w ew => ?_⟩⟩
  rw [nI_1] at ew
  subst ey ez ew
  rw [nI_pred]
  exact kd a b c d
theorem xv_addDc {post : Int32 → SX → Prop} {p0 p1 : Int32} (hn : n ≤ 8) (hq : q ≤ 4) (hc : cap ≤ 16) (ho : dc ≤ cap) (ka : xp = 1 → post (-1) (nI n, nI q, nI cap, xp, nI oc, nI dc, nI cc, xs, oI, oO, dI, dO, cI, cO, sI, sO)) (kb : ¬ xp = 1 → ¬ tw_vi n p0 → post (-2) (nI n, nI q, nI cap, xp, nI oc, nI dc, nI cc, xs, oI, oO, dI, dO, cI, cO, sI, sO)) (kc : ¬ xp = 1 → tw_vi n p0 → ¬ tw_vm q p1 → post (-3) (nI n, nI q, nI cap, xp, nI oc, nI dc, nI cc, xs, oI, oO, dI, dO, cI, cO, sI, sO))
    (kd : ¬ xp = 1 → tw_vi n p0 → tw_vm q p1 → dc < cap → post (nI dc) (nI n, nI q, nI cap, xp, nI oc, nI (dc + 1), nI cc, xs, oI, oO, upd dI dc p0, upd dO dc p1, cI, cO, sI, sO)) (ke : ¬ xp = 1 → tw_vi n p0 → tw_vm q p1 → ¬ dc < cap → post (-4) (nI n, nI q, nI cap, xp, nI oc, nI dc, nI cc, xs, oI, oO, dI, dO, cI, cO, sI, sO)) : wpX_addDc post (nI n, nI q, nI cap, xp, nI oc, nI dc, nI cc, xs, oI, oO, dI, dO, cI, cO, sI, sO) p0 p1 := by
  unfold wpX_addDc
  refine xv_placeFor hn hq (fun a => br_t (by decide) (ka a)) (fun a b => br_t (by decide) (kb a b)) (fun a b c => br_t (by decide) (kc a b c)) (fun a b c d => br_f (nI_pos (by omega)) ?_) (fun a b c d => br_t (by decide) (ke a b c ?_))
  · rw [nI_ltI (by omega) (by omega)] at d
    rw [nI_clamp (n := dc) (by omega)]
    refine ⟨vp_in_nI (by omega) (by decide), fun y ey => ⟨vp_in_nI (by omega) (by decide), fun z ez w ew => ?_⟩⟩
    rw [nI_1] at ew
    subst ey ez ew
    exact kd a b c d
  · rw [nI_ltI (by omega) (by omega)] at d
    exact d
theorem yv_addDc {post : Int32 → SY → Prop} {p0 p1 : Int32} (hn : n ≤ 8) (hq : q ≤ 4) (hc : cap ≤ 16) (ho : dc ≤ cap) (ka : xp = 1 → post (-1) (nI n, nI q, nI cap, nI oc, nI dc, nI cc, xp, oI, oO, dI, dO, cI, cO, sI, sO)) (kb : ¬ xp = 1 → ¬ tw_vi n p0 → post (-2) (nI n, nI q, nI cap, nI oc, nI dc, nI cc, xp, oI, oO, dI, dO, cI, cO, sI, sO)) (kc : ¬ xp = 1 → tw_vi n p0 → ¬ tw_vm q p1 → post (-3) (nI n, nI q, nI cap, nI oc, nI dc, nI cc, xp, oI, oO, dI, dO, cI, cO, sI, sO))
    (kd : ¬ xp = 1 → tw_vi n p0 → tw_vm q p1 → dc < cap → post (nI dc) (nI n, nI q, nI cap, nI oc, nI (dc + 1), nI cc, xp, oI, oO, upd dI dc p0, upd dO dc p1, cI, cO, sI, sO)) (ke : ¬ xp = 1 → tw_vi n p0 → tw_vm q p1 → ¬ dc < cap → post (-4) (nI n, nI q, nI cap, nI oc, nI dc, nI cc, xp, oI, oO, dI, dO, cI, cO, sI, sO)) : wpY_addDc post (nI n, nI q, nI cap, nI oc, nI dc, nI cc, xp, oI, oO, dI, dO, cI, cO, sI, sO) p0 p1 := by
  refine br_c ka (fun a => yv_validInput hn (fun b => br_f (by decide) (yv_validMask hq (fun c => br_f (by decide) (pk_le cap dc (fun d => ke a b c (by omega)) (fun d => pk_lt dc 16 (fun _ => ?_) (fun g => absurd g (by omega))))) (fun c => br_t rfl (kc a b c)))) (fun b => br_t rfl (kb a b)))
  rw [nI_clamp (n := dc) (by omega)]
  refine ⟨vp_in_nI (by omega) (by decide), fun y ey => ⟨vp_in_nI (by omega) (by decide), fun z ez w ew => ?_⟩⟩
  rw [nI_1] at ew
  subst ey ez ew
  rw [nI_pred]
  exact kd a b c d
end
theorem tw_cmp (v : Int32) (lo hi : Nat) (h : lo ≤ hi) (hh : hi < 2 ^ 31) : ∃ r, lo ≤ r ∧ r ≤ hi ∧ ∀ P : Int32 → Prop, P (nI r) → ((nI lo ≤ v → ((v ≤ nI hi → P v) ∧ (¬ v ≤ nI hi → P (nI hi)))) ∧ (¬ nI lo ≤ v → P (nI lo))) := by
  by_cases h1 : nI lo ≤ v
  · by_cases h2 : v ≤ nI hi
    · have h0 : ¬ v < 0 := by
        intro z
        have h3 : nI lo < 0 := Int32.lt_of_le_of_lt h1 z
        exact nI_pos (by omega) h3
      obtain ⟨j, hj, rfl⟩ := nI_of h0
      refine ⟨j, (nI_leI (by omega) hj).mp h1, (nI_leI hj hh).mp h2, fun P k => br_t h1 (br_t h2 k)⟩
    · exact ⟨hi, h, Nat.le_refl _, fun P k => br_t h1 (br_f h2 k)⟩
  · exact ⟨lo, Nat.le_refl _, h, fun P k => br_f h1 k⟩
/-- the relation: on-cubes and dc-cubes are the same arrays, the covers are the same lists below the count -/
def i_Rel (_ : Nat) (u : SX) (v : SY) : Prop :=
  ∃ (n q cap oc dc cc : Nat) (xp xs : Int32) (oI oO dI dO cI cO sI sO cJ cP sJ sP : Nat → Int32),
    n ≤ 8 ∧ q ≤ 4 ∧ cap ≤ 16 ∧ oc ≤ cap ∧ dc ≤ cap ∧ cc ≤ 16 ∧ tw_val q (tw_ls oI oO 0 oc) ∧ tw_val q (tw_ls cI cO 0 cc) ∧ tw_ls cJ cP 0 cc = tw_ls cI cO 0 cc ∧
    u = (nI n, nI q, nI cap, xp, nI oc, nI dc, nI cc, xs, oI, oO, dI, dO, cI, cO, sI, sO) ∧ v = (nI n, nI q, nI cap, nI oc, nI dc, nI cc, xp, oI, oO, dI, dO, cJ, cP, sJ, sP)
theorem tw_rel {k n q cap oc dc cc : Nat} {xp xs : Int32} {oI oO dI dO cI cO sI sO cJ cP sJ sP : Nat → Int32} (h1 : n ≤ 8) (h2 : q ≤ 4) (h3 : cap ≤ 16) (h4 : oc ≤ cap) (h5 : dc ≤ cap) (h6 : cc ≤ 16) (h7 : tw_val q (tw_ls oI oO 0 oc)) (h8 : tw_val q (tw_ls cI cO 0 cc)) (h9 : tw_ls cJ cP 0 cc = tw_ls cI cO 0 cc) :
    i_Rel k (nI n, nI q, nI cap, xp, nI oc, nI dc, nI cc, xs, oI, oO, dI, dO, cI, cO, sI, sO) (nI n, nI q, nI cap, nI oc, nI dc, nI cc, xp, oI, oO, dI, dO, cJ, cP, sJ, sP) :=
  ⟨n, q, cap, oc, dc, cc, xp, xs, oI, oO, dI, dO, cI, cO, sI, sO, cJ, cP, sJ, sP, h1, h2, h3, h4, h5, h6, h7, h8, h9, rfl, rfl⟩
theorem i_up {k : Nat} {u : SX} {v : SY} (h : i_Rel k u v) : i_Rel (k + 3) u v := h
theorem tw_xclamp {post : Int32 → Prop} {v : Int32} {lo hi r : Nat} (h : ∀ P : Int32 → Prop, P (nI r) → ((nI lo ≤ v → ((v ≤ nI hi → P v) ∧ (¬ v ≤ nI hi → P (nI hi)))) ∧ (¬ nI lo ≤ v → P (nI lo)))) (k : post (nI r)) : wpX_clamp post v (nI lo) (nI hi) := h post k
theorem i_vc0 (k0 : Int32) (k1 : Int32) (k2 : Int32) : wpX_init (fun u => wpY_init (fun v => i_Rel 3 u v) k0 k1 k2) k0 k1 k2 := by
  obtain ⟨a, a1, a2, ha⟩ := tw_cmp k0 1 8 (by omega) (by omega)
  obtain ⟨b, b1, b2, hb⟩ := tw_cmp k1 1 4 (by omega) (by omega)
  obtain ⟨c, c1, c2, hc⟩ := tw_cmp k2 4 16 (by omega) (by omega)
  unfold wpX_init
  refine tw_xclamp ha ?_
  refine tw_xclamp hb ?_
  refine tw_xclamp hc ?_
  refine ha (fun z => wY_init_90 (fun v => i_Rel 3 (nI a, nI b, nI c, 0, 0, 0, 0, 0, (fun _ => 0), (fun _ => 0), (fun _ => 0), (fun _ => 0), (fun _ => 0), (fun _ => 0), (fun _ => 0), (fun _ => 0)) v) k1 k2 z 0 0 0 0 0 0 0 (fun _ => 0) (fun _ => 0) (fun _ => 0) (fun _ => 0) (fun _ => 0) (fun _ => 0) (fun _ => 0) (fun _ => 0)) ?_
  refine hb (fun z => wY_init_113 (fun v => i_Rel 3 (nI a, nI b, nI c, 0, 0, 0, 0, 0, (fun _ => 0), (fun _ => 0), (fun _ => 0), (fun _ => 0), (fun _ => 0), (fun _ => 0), (fun _ => 0), (fun _ => 0)) v) k2 z (nI a) 0 0 0 0 0 0 (fun _ => 0) (fun _ => 0) (fun _ => 0) (fun _ => 0) (fun _ => 0) (fun _ => 0) (fun _ => 0) (fun _ => 0)) ?_
  refine hc (fun z => i_Rel 3 (nI a, nI b, nI c, 0, 0, 0, 0, 0, (fun _ => 0), (fun _ => 0), (fun _ => 0), (fun _ => 0), (fun _ => 0), (fun _ => 0), (fun _ => 0), (fun _ => 0)) (nI a, nI b, z, 0, 0, 0, 0, (fun _ => 0), (fun _ => 0), (fun _ => 0), (fun _ => 0), (fun _ => 0), (fun _ => 0), (fun _ => 0), (fun _ => 0))) ?_
  exact tw_rel (oc := 0) (dc := 0) (cc := 0) a2 b2 c2 (by omega) (by omega) (by omega) tw_val_nil tw_val_nil rfl
theorem tw_val_add {q c : Nat} {a b : Nat → Int32} {p0 p1 : Int32} (hq : q ≤ 4) (h : tw_val q (tw_ls a b 0 c)) (hm : tw_vm q p1) : tw_val q (tw_ls (upd a c p0) (upd b c p1) 0 (c + 1)) := by
  rw [tw_ls_put]
  exact tw_val_app h (tw_val_1 (tw_vm_ok hq hm))
theorem i_vc_addOn {k : Nat} {u : SX} {v : SY} (I : i_Rel k u v) (hk : k + 3 ≤ 1539) (v1 : Int32) (v2 : Int32) : wpX_addOn (fun r u' => wpY_addOn (fun r' v' => r' = r ∧ i_Rel (k + 3) u' v') v v1 v2) u v1 v2 := by
  obtain ⟨n, q, cap, oc, dc, cc, xp, xs, oI, oO, dI, dO, cI, cO, sI, sO, cJ, cP, sJ, sP, h1, h2, h3, h4, h5, h6, h7, h8, h9, rfl, rfl⟩ := I
  refine xv_addOn h1 h2 h3 h4 (fun a => ?_) (fun a b => ?_) (fun a b c => ?_) (fun a b c d => ?_) (fun a b c d => ?_)
  · exact yv_addOn h1 h2 h3 h4 (fun _ => ⟨rfl, tw_rel h1 h2 h3 h4 h5 h6 h7 h8 h9⟩) (fun z => absurd a z) (fun z => absurd a z) (fun z => absurd a z) (fun z => absurd a z)
  · exact yv_addOn h1 h2 h3 h4 (fun z => absurd z a) (fun _ _ => ⟨rfl, tw_rel h1 h2 h3 h4 h5 h6 h7 h8 h9⟩) (fun _ z => absurd z b) (fun _ z => absurd z b) (fun _ z => absurd z b)
  · exact yv_addOn h1 h2 h3 h4 (fun z => absurd z a) (fun _ z => absurd b z) (fun _ _ _ => ⟨rfl, tw_rel h1 h2 h3 h4 h5 h6 h7 h8 h9⟩) (fun _ _ z => absurd z c) (fun _ _ z => absurd z c)
  · exact yv_addOn h1 h2 h3 h4 (fun z => absurd z a) (fun _ z => absurd b z) (fun _ _ z => absurd c z) (fun _ _ _ _ => ⟨rfl, tw_rel h1 h2 h3 d h5 h6 (tw_val_add h2 h7 c) h8 h9⟩) (fun _ _ _ z => absurd d z)
  · exact yv_addOn h1 h2 h3 h4 (fun z => absurd z a) (fun _ z => absurd b z) (fun _ _ z => absurd c z) (fun _ _ _ z => absurd z d) (fun _ _ _ _ => ⟨rfl, tw_rel h1 h2 h3 h4 h5 h6 h7 h8 h9⟩)
theorem i_vc_addDc {k : Nat} {u : SX} {v : SY} (I : i_Rel k u v) (hk : k + 3 ≤ 1539) (v1 : Int32) (v2 : Int32) : wpX_addDc (fun r u' => wpY_addDc (fun r' v' => r' = r ∧ i_Rel (k + 3) u' v') v v1 v2) u v1 v2 := by
  obtain ⟨n, q, cap, oc, dc, cc, xp, xs, oI, oO, dI, dO, cI, cO, sI, sO, cJ, cP, sJ, sP, h1, h2, h3, h4, h5, h6, h7, h8, h9, rfl, rfl⟩ := I
  refine xv_addDc h1 h2 h3 h5 (fun a => ?_) (fun a b => ?_) (fun a b c => ?_) (fun a b c d => ?_) (fun a b c d => ?_)
  · exact yv_addDc h1 h2 h3 h5 (fun _ => ⟨rfl, tw_rel h1 h2 h3 h4 h5 h6 h7 h8 h9⟩) (fun z => absurd a z) (fun z => absurd a z) (fun z => absurd a z) (fun z => absurd a z)
  · exact yv_addDc h1 h2 h3 h5 (fun z => absurd z a) (fun _ _ => ⟨rfl, tw_rel h1 h2 h3 h4 h5 h6 h7 h8 h9⟩) (fun _ z => absurd z b) (fun _ z => absurd z b) (fun _ z => absurd z b)
  · exact yv_addDc h1 h2 h3 h5 (fun z => absurd z a) (fun _ z => absurd b z) (fun _ _ _ => ⟨rfl, tw_rel h1 h2 h3 h4 h5 h6 h7 h8 h9⟩) (fun _ _ z => absurd z c) (fun _ _ z => absurd z c)
  · exact yv_addDc h1 h2 h3 h5 (fun z => absurd z a) (fun _ z => absurd b z) (fun _ _ z => absurd c z) (fun _ _ _ _ => ⟨rfl, tw_rel h1 h2 h3 h4 d h6 h7 h8 h9⟩) (fun _ _ _ z => absurd d z)
  · exact yv_addDc h1 h2 h3 h5 (fun z => absurd z a) (fun _ z => absurd b z) (fun _ _ z => absurd c z) (fun _ _ _ z => absurd z d) (fun _ _ _ _ => ⟨rfl, tw_rel h1 h2 h3 h4 h5 h6 h7 h8 h9⟩)
theorem i_vc_begin {k : Nat} {u : SX} {v : SY} (I : i_Rel k u v) (hk : k + 3 ≤ 1539) : wpX_begin (fun r u' => wpY_begin (fun r' v' => r' = r ∧ i_Rel (k + 3) u' v') v) u := by
  obtain ⟨n, q, cap, oc, dc, cc, xp, xs, oI, oO, dI, dO, cI, cO, sI, sO, cJ, cP, sJ, sP, h1, h2, h3, h4, h5, h6, h7, h8, h9, rfl, rfl⟩ := I
  refine xv_begin (by omega) (fun a b hab => ?_)
  refine yv_begin (by omega) (fun a' b' hab' => ?_)
  exact ⟨rfl, tw_rel h1 h2 h3 h4 h5 (by omega) h7 (by rw [hab]; exact h7) (by rw [hab, hab'])⟩
theorem tw_len {a b a' b' : Nat → Int32} {L L' : Nat} {U : List (Int32 × Int32)} (h : tw_ls a b 0 L = U) (h' : tw_ls a' b' 0 L' = U) : L' = L ∧ tw_ls a' b' 0 L = tw_ls a b 0 L := by
  have e : L' = L := by
    have h2 : (tw_ls a' b' 0 L').length = (tw_ls a b 0 L).length := by rw [h, h']
    rw [tw_ls_len, tw_ls_len] at h2
    exact h2
  subst e
  exact ⟨rfl, by rw [h, h']⟩
theorem i_vc_expand {k : Nat} {u : SX} {v : SY} (I : i_Rel k u v) (hk : k + 3 ≤ 1539) : wpX_expand (fun r u' => wpY_expand (fun r' v' => r' = r ∧ i_Rel (k + 3) u' v') v) u := by
  obtain ⟨n, q, cap, oc, dc, cc, xp, xs, oI, oO, dI, dO, cI, cO, sI, sO, cJ, cP, sJ, sP, h1, h2, h3, h4, h5, h6, h7, h8, h9, rfl, rfl⟩ := I
  have h8' : tw_val q (tw_ls cJ cP 0 cc) := by rw [h9]; exact h8
  refine xv_expand h1 h2 (by omega) (by omega) h6 h8 (fun z => br_t z ⟨rfl, tw_rel h1 h2 h3 h4 h5 h6 h7 h8 h9⟩) (fun z L a b hL hab => br_f z (yv_doExpand h1 h2 (by omega) (by omega) h6 h8' (fun L' a' b' hL' hab' => ?_)))
  rw [h9] at hab'
  obtain ⟨e1, e2⟩ := tw_len hab hab'
  subst e1
  exact ⟨rfl, tw_rel h1 h2 h3 h4 h5 hL h7 (by rw [hab]; exact (tw_ex_keep h2 _ _ _ tw_val_nil h8).1) e2⟩
theorem i_vc_irredundant {k : Nat} {u : SX} {v : SY} (I : i_Rel k u v) (hk : k + 3 ≤ 1539) : wpX_irredundant (fun r u' => wpY_irredundant (fun r' v' => r' = r ∧ i_Rel (k + 3) u' v') v) u := by
  obtain ⟨n, q, cap, oc, dc, cc, xp, xs, oI, oO, dI, dO, cI, cO, sI, sO, cJ, cP, sJ, sP, h1, h2, h3, h4, h5, h6, h7, h8, h9, rfl, rfl⟩ := I
  have h8' : tw_val q (tw_ls cJ cP 0 cc) := by rw [h9]; exact h8
  refine xv_irredundant h1 h2 (by omega) (by omega) h6 h8 (fun z => br_t z ⟨rfl, tw_rel h1 h2 h3 h4 h5 h6 h7 h8 h9⟩) (fun z L a b hL hab => br_f z (yv_doIrredundant h1 h2 (by omega) (by omega) h6 h8' (fun L' a' b' hL' hab' => ?_)))
  rw [h9] at hab'
  obtain ⟨e1, e2⟩ := tw_len hab hab'
  subst e1
  exact ⟨rfl, tw_rel h1 h2 h3 h4 h5 hL h7 (by rw [hab]; exact (tw_ir_keep _ _ tw_val_nil h8).1) e2⟩
theorem i_vc_reduce {k : Nat} {u : SX} {v : SY} (I : i_Rel k u v) (hk : k + 3 ≤ 1539) : wpX_reduce (fun r u' => wpY_reduce (fun r' v' => r' = r ∧ i_Rel (k + 3) u' v') v) u := by
  obtain ⟨n, q, cap, oc, dc, cc, xp, xs, oI, oO, dI, dO, cI, cO, sI, sO, cJ, cP, sJ, sP, h1, h2, h3, h4, h5, h6, h7, h8, h9, rfl, rfl⟩ := I
  have h8' : tw_val q (tw_ls cJ cP 0 cc) := by rw [h9]; exact h8
  refine xv_reduce h1 h2 (by omega) (by omega) h6 h8 (fun z => br_t z ⟨rfl, tw_rel h1 h2 h3 h4 h5 h6 h7 h8 h9⟩) (fun z L a b hL hab => br_f z (yv_doReduce h1 h2 (by omega) (by omega) h6 h8' (fun L' a' b' hL' hab' => ?_)))
  rw [h9] at hab'
  obtain ⟨e1, e2⟩ := tw_len hab hab'
  subst e1
  exact ⟨rfl, tw_rel h1 h2 h3 h4 h5 hL h7 (by rw [hab]; exact (tw_rd_keep _ _ tw_val_nil h8).1) e2⟩
theorem tw_im_keep {n q : Nat} {P D L : List (Int32 × Int32)} (hq : q ≤ 4) (h : tw_val q L) : tw_val q (tw_im n q P D L) := (tw_ir_keep _ _ tw_val_nil (tw_ex_keep hq _ _ _ tw_val_nil (tw_rd_keep _ _ tw_val_nil h).1).1).1
theorem i_vc_improve {k : Nat} {u : SX} {v : SY} (I : i_Rel k u v) (hk : k + 3 ≤ 1539) : wpX_improve (fun r u' => wpY_improve (fun r' v' => r' = r ∧ i_Rel (k + 3) u' v') v) u := by
  obtain ⟨n, q, cap, oc, dc, cc, xp, xs, oI, oO, dI, dO, cI, cO, sI, sO, cJ, cP, sJ, sP, h1, h2, h3, h4, h5, h6, h7, h8, h9, rfl, rfl⟩ := I
  have h8' : tw_val q (tw_ls cJ cP 0 cc) := by rw [h9]; exact h8
  refine xv_improve h1 h2 (by omega) (by omega) h6 h8 (fun z => ?_) (fun z hb L a b s t x hL hab => ?_) (fun z hb a b s t x hab => ?_)
  · exact yv_improve h1 h2 (by omega) (by omega) h6 h8' (fun _ => ⟨rfl, tw_rel h1 h2 h3 h4 h5 h6 h7 h8 h9⟩) (fun g => absurd z g) (fun g => absurd z g)
  · refine yv_improve h1 h2 (by omega) (by omega) h6 h8' (fun g => absurd g z) (fun _ _ L' a' b' s' t' hL' hab' => ?_) (fun _ hb' => ?_)
    · rw [h9] at hab'
      obtain ⟨e1, e2⟩ := tw_len hab hab'
      subst e1
      exact ⟨rfl, tw_rel h1 h2 h3 h4 h5 hL h7 (by rw [hab]; exact tw_im_keep h2 h8) e2⟩
    · rw [h9] at hb'
      exact absurd hb hb'
  · refine yv_improve h1 h2 (by omega) (by omega) h6 h8' (fun g => absurd g z) (fun _ hb' => ?_) (fun _ _ a' b' s' t' hab' => ?_)
    · rw [h9] at hb'
      exact absurd hb' hb
    · exact ⟨rfl, tw_rel h1 h2 h3 h4 h5 h6 h7 (by rw [hab]; exact h8) (by rw [hab, hab', h9])⟩
theorem i_vc_clear {k : Nat} {u : SX} {v : SY} (I : i_Rel k u v) (hk : k + 3 ≤ 1539) : wpX_clear (fun u' => wpY_clear (fun v' => i_Rel (k + 3) u' v') v) u := by
  obtain ⟨n, q, cap, oc, dc, cc, xp, xs, oI, oO, dI, dO, cI, cO, sI, sO, cJ, cP, sJ, sP, h1, h2, h3, h4, h5, h6, h7, h8, h9, rfl, rfl⟩ := I
  exact tw_rel (k := k + 3) (oc := 0) (dc := 0) (cc := 0) h1 h2 h3 (by omega) (by omega) (by omega) tw_val_nil tw_val_nil rfl
theorem i_vc_phase {k : Nat} {u : SX} {v : SY} (I : i_Rel k u v) (hk : k + 3 ≤ 1539) : wpX_phase (fun r => wpY_phase (fun r' => r' = r ∧ i_Rel (k + 3) u v) v) u := by
  have J := I
  obtain ⟨n, q, cap, oc, dc, cc, xp, xs, oI, oO, dI, dO, cI, cO, sI, sO, cJ, cP, sJ, sP, h1, h2, h3, h4, h5, h6, h7, h8, h9, rfl, rfl⟩ := I
  exact ⟨rfl, J⟩
theorem i_vc_cubeCount {k : Nat} {u : SX} {v : SY} (I : i_Rel k u v) (hk : k + 3 ≤ 1539) : wpX_cubeCount (fun r => wpY_cubeCount (fun r' => r' = r ∧ i_Rel (k + 3) u v) v) u := by
  have J := I
  obtain ⟨n, q, cap, oc, dc, cc, xp, xs, oI, oO, dI, dO, cI, cO, sI, sO, cJ, cP, sJ, sP, h1, h2, h3, h4, h5, h6, h7, h8, h9, rfl, rfl⟩ := I
  exact ⟨rfl, J⟩
theorem i_vc_cubeInputs {k : Nat} {u : SX} {v : SY} (I : i_Rel k u v) (hk : k + 3 ≤ 1539) (v1 : Int32) : wpX_cubeInputs (fun r => wpY_cubeInputs (fun r' => r' = r ∧ i_Rel (k + 3) u v) v v1) u v1 := by
  have J := I
  obtain ⟨n, q, cap, oc, dc, cc, xp, xs, oI, oO, dI, dO, cI, cO, sI, sO, cJ, cP, sJ, sP, h1, h2, h3, h4, h5, h6, h7, h8, h9, rfl, rfl⟩ := I
  rcases pk_ix v1 (n := cc) (by omega) with g | g | ⟨j, hj, rfl⟩
  · exact br_t g (br_t g ⟨rfl, J⟩)
  · have g0 : ¬ v1 < 0 := fun z => nI_pos (n := cc) (by omega) (Int32.lt_of_le_of_lt g z)
    exact br_f g0 (br_f (Int32.not_lt.mpr g) (br_f g0 (br_t g ⟨rfl, J⟩)))
  · have g0 : ¬ nI j < 0 := nI_pos (by omega)
    have hin : vp_in (nI j) 16 := vp_in_nI (by omega) (by decide)
    have e := (tw_ls_inj cc 0 0 h9 j hj).1
    rw [Nat.zero_add] at e
    refine br_f g0 (br_t (nI_lt hj (by omega)) ⟨hin, br_f g0 (br_f (nI_ge hj (by omega)) (br_t (nI_lt (b := 16) (by omega) (by decide)) ⟨hin, ?_⟩))⟩)
    rw [nI_clamp (n := j) (by omega)]
    exact ⟨e, J⟩
theorem i_vc_cubeOutputs {k : Nat} {u : SX} {v : SY} (I : i_Rel k u v) (hk : k + 3 ≤ 1539) (v1 : Int32) : wpX_cubeOutputs (fun r => wpY_cubeOutputs (fun r' => r' = r ∧ i_Rel (k + 3) u v) v v1) u v1 := by
  have J := I
  obtain ⟨n, q, cap, oc, dc, cc, xp, xs, oI, oO, dI, dO, cI, cO, sI, sO, cJ, cP, sJ, sP, h1, h2, h3, h4, h5, h6, h7, h8, h9, rfl, rfl⟩ := I
  rcases pk_ix v1 (n := cc) (by omega) with g | g | ⟨j, hj, rfl⟩
  · exact br_t g (br_t g ⟨rfl, J⟩)
  · have g0 : ¬ v1 < 0 := fun z => nI_pos (n := cc) (by omega) (Int32.lt_of_le_of_lt g z)
    exact br_f g0 (br_f (Int32.not_lt.mpr g) (br_f g0 (br_t g ⟨rfl, J⟩)))
  · have g0 : ¬ nI j < 0 := nI_pos (by omega)
    have hin : vp_in (nI j) 16 := vp_in_nI (by omega) (by decide)
    have e := (tw_ls_inj cc 0 0 h9 j hj).2
    rw [Nat.zero_add] at e
    refine br_f g0 (br_t (nI_lt hj (by omega)) ⟨hin, br_f g0 (br_f (nI_ge hj (by omega)) (br_t (nI_lt (b := 16) (by omega) (by decide)) ⟨hin, ?_⟩))⟩)
    rw [nI_clamp (n := j) (by omega)]
    exact ⟨e, J⟩
theorem i_vc_literalCount {k : Nat} {u : SX} {v : SY} (I : i_Rel k u v) (hk : k + 3 ≤ 1539) : wpX_literalCount (fun r => wpY_literalCount (fun r' => r' = r ∧ i_Rel (k + 3) u v) v) u := by
  have J := I
  obtain ⟨n, q, cap, oc, dc, cc, xp, xs, oI, oO, dI, dO, cI, cO, sI, sO, cJ, cP, sJ, sP, h1, h2, h3, h4, h5, h6, h7, h8, h9, rfl, rfl⟩ := I
  refine xv_literalCount h1 h6 ?_
  unfold wpY_literalCount
  exact yv_literals h1 h6 ⟨by rw [h9], J⟩
theorem i_vc_evaluate {k : Nat} {u : SX} {v : SY} (I : i_Rel k u v) (hk : k + 3 ≤ 1539) (v1 : Int32) (v2 : Int32) : wpX_evaluate (fun r => wpY_evaluate (fun r' => r' = r ∧ i_Rel (k + 3) u v) v v1 v2) u v1 v2 := by
  have J := I
  obtain ⟨n, q, cap, oc, dc, cc, xp, xs, oI, oO, dI, dO, cI, cO, sI, sO, cJ, cP, sJ, sP, h1, h2, h3, h4, h5, h6, h7, h8, h9, rfl, rfl⟩ := I
  have hp := tw_pow8 h1
  refine xv_evaluate h1 h2 h6 (fun m o hm ho em eo => ?_) (fun z => ?_)
  · refine yv_evaluate h1 h2 h6 (fun m' o' hm' ho' em' eo' => ⟨?_, J⟩) (fun g => absurd ⟨m, o, hm, ho, em, eo⟩ g)
    have e1 : m' = m := (nI_eq (by omega) (by omega)).mp (em'.symm.trans em)
    have e2 : o' = o := (nI_eq (by omega) (by omega)).mp (eo'.symm.trans eo)
    rw [e1, e2, h9]
  · exact yv_evaluate h1 h2 h6 (fun m o hm ho em eo => absurd ⟨m, o, hm, ho, em, eo⟩ z) (fun _ => ⟨rfl, J⟩)
theorem i_vc_function {k : Nat} {u : SX} {v : SY} (I : i_Rel k u v) (hk : k + 3 ≤ 1539) (v1 : Int32) (v2 : Int32) : wpX_function (fun r => wpY_function (fun r' => r' = r ∧ i_Rel (k + 3) u v) v v1 v2) u v1 v2 := by
  have J := I
  obtain ⟨n, q, cap, oc, dc, cc, xp, xs, oI, oO, dI, dO, cI, cO, sI, sO, cJ, cP, sJ, sP, h1, h2, h3, h4, h5, h6, h7, h8, h9, rfl, rfl⟩ := I
  have hp := tw_pow8 h1
  refine xv_function h1 h2 (by omega) (by omega) (fun m o hm ho em eo => ?_) (fun z => ?_)
  · refine yv_function h1 h2 (by omega) (by omega) (fun m' o' hm' ho' em' eo' => ⟨?_, J⟩) (fun g => absurd ⟨m, o, hm, ho, em, eo⟩ g)
    have e1 : m' = m := (nI_eq (by omega) (by omega)).mp (em'.symm.trans em)
    have e2 : o' = o := (nI_eq (by omega) (by omega)).mp (eo'.symm.trans eo)
    rw [e1, e2]
  · exact yv_function h1 h2 (by omega) (by omega) (fun m o hm ho em eo => absurd ⟨m, o, hm, ho, em, eo⟩ z) (fun _ => ⟨rfl, J⟩)
theorem i_vc_isImplicant {k : Nat} {u : SX} {v : SY} (I : i_Rel k u v) (hk : k + 3 ≤ 1539) (v1 : Int32) (v2 : Int32) : wpX_isImplicant (fun r => wpY_isImplicant (fun r' => r' = r ∧ i_Rel (k + 3) u v) v v1 v2) u v1 v2 := by
  have J := I
  obtain ⟨n, q, cap, oc, dc, cc, xp, xs, oI, oO, dI, dO, cI, cO, sI, sO, cJ, cP, sJ, sP, h1, h2, h3, h4, h5, h6, h7, h8, h9, rfl, rfl⟩ := I
  refine xv_isImplicant h1 h2 (by omega) (by omega) (fun a b c => ?_) (fun a b c => ?_) (fun a => ?_) (fun a b => ?_)
  · exact yv_isImplicant h1 h2 (by omega) (by omega) (fun _ _ _ => ⟨rfl, J⟩) (fun _ _ z => absurd c z) (fun z => absurd a z) (fun _ z => absurd b z)
  · exact yv_isImplicant h1 h2 (by omega) (by omega) (fun _ _ z => absurd z c) (fun _ _ _ => ⟨rfl, J⟩) (fun z => absurd a z) (fun _ z => absurd b z)
  · exact yv_isImplicant h1 h2 (by omega) (by omega) (fun z => absurd z a) (fun z => absurd z a) (fun _ => ⟨rfl, J⟩) (fun z => absurd z a)
  · exact yv_isImplicant h1 h2 (by omega) (by omega) (fun _ z => absurd z b) (fun _ z => absurd z b) (fun z => absurd a z) (fun _ _ => ⟨rfl, J⟩)
end
