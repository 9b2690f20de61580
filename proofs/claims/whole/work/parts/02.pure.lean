/-! the pure picture: bits, minterms, cubes, the function, the passes on lists of cubes -/
theorem tw_b1 (i : Nat) : bt 1 i = decide (i = 0) := by
  rcases Nat.lt_or_ge i 32 with h | h
  · exact (by decide +kernel : ∀ i, i < 32 → bt 1 i = decide (i = 0)) i h
  · rw [b_big h, decide_eq_false (by omega)]
theorem tw_b2 (i : Nat) : bt 2 i = decide (i = 1) := by
  rcases Nat.lt_or_ge i 32 with h | h
  · exact (by decide +kernel : ∀ i, i < 32 → bt 2 i = decide (i = 1)) i h
  · rw [b_big h, decide_eq_false (by omega)]
theorem tw_b3 (i : Nat) : bt 3 i = decide (i < 2) := by
  rcases Nat.lt_or_ge i 32 with h | h
  · exact (by decide +kernel : ∀ i, i < 32 → bt 3 i = decide (i < 2)) i h
  · rw [b_big h, decide_eq_false (by omega)]
theorem tw_bsh (k : Nat) (hk : k < 32) (j : Nat) (hj : j < 32) : bt ((1 : Int32) <<< (nI k &&& 31)) j = decide (j = k) := by
  rw [b_shl k hk 1 hj, tw_b1]
  by_cases h : j = k
  · subst h; simp
  · by_cases h2 : k ≤ j
    · rw [decide_eq_true h2, decide_eq_false (by omega), decide_eq_false h]; rfl
    · rw [decide_eq_false h2, decide_eq_false h]; rfl
theorem tw_b3sh (k : Nat) (hk : k < 32) (j : Nat) (hj : j < 32) : bt ((3 : Int32) <<< (nI k &&& 31)) j = decide (j = k ∨ j = k + 1) := by
  rw [b_shl k hk 3 hj, tw_b3]
  by_cases h2 : k ≤ j
  · rw [decide_eq_true h2, Bool.true_and]
    exact decide_eq_decide.mpr (by omega)
  · rw [decide_eq_false h2, Bool.false_and, decide_eq_false (by omega)]
theorem tw_sub {x y : Int32} : (x &&& y) = y ↔ ∀ j, j < 32 → bt y j = true → bt x j = true := by
  constructor
  · intro h j hj hy
    have e : bt (x &&& y) j = bt y j := by rw [h]
    rw [b_and, hy] at e
    simpa using e
  · intro h
    apply b_ext
    intro j hj
    rw [b_and]
    cases hy : bt y j
    · simp
    · rw [h j hj hy]; rfl
theorem tw_zero {x : Int32} : x = 0 ↔ ∀ j, j < 32 → bt x j = false := by
  constructor
  · intro h j _
    rw [h]; exact b_0 j
  · intro h
    apply b_ext
    intro j hj
    rw [h j hj, b_0]
theorem tw_nz {x : Int32} : ¬ x = 0 ↔ ∃ j, j < 32 ∧ bt x j = true := by
  constructor
  · intro h
    apply Classical.byContradiction
    intro hn
    apply h
    rw [tw_zero]
    intro j hj
    cases hb : bt x j
    · rfl
    · exact absurd ⟨j, hj, hb⟩ hn
  · intro ⟨j, hj, hb⟩ h
    rw [tw_zero.mp h j hj] at hb
    exact Bool.noConfusion hb
theorem tw_not (x : Int32) {j : Nat} (hj : j < 32) : bt (x ^^^ (-1)) j = !bt x j := by
  rw [b_xor, b_m1 j hj]
  simp
theorem tw_lt32 {x : Int32} {j : Nat} (h : bt x j = true) : j < 32 := by
  rcases Nat.lt_or_ge j 32 with hj | hj
  · exact hj
  · rw [b_big hj] at h; exact Bool.noConfusion h
theorem tw_beq {a b : Bool} (h : a = true ↔ b = true) : a = b := by
  cases a <;> cases b <;> simp at h ⊢
theorem tw_extP {x y : Int32} (h : ∀ j, j < 32 → (bt x j = true ↔ bt y j = true)) : x = y := b_ext (fun j hj => tw_beq (h j hj))
/-! ===== minterms ===== -/
def tw_at (m i : Nat) : Nat := 2 * i + m / 2 ^ i % 2
theorem tw_at_lt {m i n : Nat} (h : i < n) : tw_at m i < 2 * n := by
  unfold tw_at
  have : m / 2 ^ i % 2 < 2 := Nat.mod_lt _ (by decide)
  omega
def tw_pm (m : Nat) : Nat → Int32
  | 0 => 0
  | i + 1 => tw_pm m i ||| ((1 : Int32) <<< (nI (tw_at m i) &&& 31))
theorem tw_pm_b (m : Nat) : ∀ n, n ≤ 16 → ∀ j, j < 32 → (bt (tw_pm m n) j = true ↔ ∃ i, i < n ∧ j = tw_at m i) := by
  intro n
  induction n with
  | zero =>
    intro _ j _
    show bt 0 j = true ↔ _
    rw [b_0]
    constructor
    · intro h; exact Bool.noConfusion h
    · intro ⟨i, hi, _⟩; omega
  | succ n ih =>
    intro hn j hj
    have h1 : tw_at m n < 32 := by have := tw_at_lt (m := m) (Nat.lt_succ_self n); omega
    show bt (tw_pm m n ||| _) j = true ↔ _
    rw [b_or, tw_bsh _ h1 j hj, Bool.or_eq_true, ih (by omega) j hj, decide_eq_true_eq]
    constructor
    · rintro (⟨i, hi, e⟩ | e)
      · exact ⟨i, by omega, e⟩
      · exact ⟨n, by omega, e⟩
    · intro ⟨i, hi, e⟩
      by_cases h : i = n
      · subst h; exact Or.inr e
      · exact Or.inl ⟨i, by omega, e⟩
/-- the input part I of a cube lets the minterm m in -/
def tw_ct (n : Nat) (I : Int32) (m : Nat) : Prop := ∀ i, i < n → bt I (tw_at m i) = true
theorem tw_pm_ct {n m : Nat} {I : Int32} (hn : n ≤ 16) : (I &&& tw_pm m n) = tw_pm m n ↔ tw_ct n I m := by
  rw [tw_sub]
  constructor
  · intro h i hi
    have hl : tw_at m i < 32 := by have := tw_at_lt (m := m) hi; omega
    exact h _ hl ((tw_pm_b m n hn _ hl).mpr ⟨i, hi, rfl⟩)
  · intro h j hj hb
    obtain ⟨i, hi, e⟩ := (tw_pm_b m n hn j hj).mp hb
    rw [e]; exact h i hi
/-! ===== lists of cubes ===== -/
def tw_ls (a b : Nat → Int32) : Nat → Nat → List (Int32 × Int32)
  | _, 0 => []
  | s, l + 1 => (a s, b s) :: tw_ls a b (s + 1) l
theorem tw_ls_len (a b : Nat → Int32) : ∀ l s, (tw_ls a b s l).length = l := by
  intro l
  induction l with
  | zero => intro s; rfl
  | succ l ih => intro s; show (tw_ls a b (s + 1) l).length + 1 = l + 1; rw [ih]
theorem tw_ls_mem (a b : Nat → Int32) {c : Int32 × Int32} : ∀ l s, c ∈ tw_ls a b s l ↔ ∃ k, s ≤ k ∧ k < s + l ∧ c = (a k, b k) := by
  intro l
  induction l with
  | zero =>
    intro s
    constructor
    · intro h; cases h
    · intro ⟨k, h1, h2, _⟩; omega
  | succ l ih =>
    intro s
    show c ∈ (a s, b s) :: tw_ls a b (s + 1) l ↔ _
    rw [List.mem_cons, ih]
    constructor
    · rintro (e | ⟨k, h1, h2, e⟩)
      · exact ⟨s, by omega, by omega, e⟩
      · exact ⟨k, by omega, by omega, e⟩
    · intro ⟨k, h1, h2, e⟩
      by_cases h : k = s
      · subst h; exact Or.inl e
      · exact Or.inr ⟨k, by omega, by omega, e⟩
theorem tw_ls_app (a b : Nat → Int32) : ∀ l s r, tw_ls a b s (l + r) = tw_ls a b s l ++ tw_ls a b (s + l) r := by
  intro l
  induction l with
  | zero => intro s r; rw [Nat.zero_add, Nat.add_zero]; rfl
  | succ l ih =>
    intro s r
    rw [show l + 1 + r = (l + r) + 1 from by omega]
    show (a s, b s) :: tw_ls a b (s + 1) (l + r) = (a s, b s) :: (tw_ls a b (s + 1) l ++ tw_ls a b (s + (l + 1)) r)
    rw [ih, show s + 1 + l = s + (l + 1) from by omega]
theorem tw_ls_ext {a b a' b' : Nat → Int32} : ∀ l s s', (∀ k, k < l → a' (s' + k) = a (s + k) ∧ b' (s' + k) = b (s + k)) → tw_ls a' b' s' l = tw_ls a b s l := by
  intro l
  induction l with
  | zero => intro s s' _; rfl
  | succ l ih =>
    intro s s' h
    show (a' s', b' s') :: tw_ls a' b' (s' + 1) l = (a s, b s) :: tw_ls a b (s + 1) l
    have h0 := h 0 (by omega)
    rw [Nat.add_zero, Nat.add_zero] at h0
    rw [h0.1, h0.2, ih (s + 1) (s' + 1)]
    intro k hk
    have h1 := h (k + 1) (by omega)
    rw [show s' + 1 + k = s' + (k + 1) from by omega, show s + 1 + k = s + (k + 1) from by omega]
    exact h1
theorem tw_ls_inj {a b a' b' : Nat → Int32} : ∀ l s s', tw_ls a' b' s' l = tw_ls a b s l → ∀ k, k < l → a' (s' + k) = a (s + k) ∧ b' (s' + k) = b (s + k) := by
  intro l
  induction l with
  | zero => intro s s' _ k hk; omega
  | succ l ih =>
    intro s s' h k hk
    have h2 : (a' s', b' s') :: tw_ls a' b' (s' + 1) l = (a s, b s) :: tw_ls a b (s + 1) l := h
    obtain ⟨h3, h4⟩ := List.cons.inj h2
    cases k with
    | zero => rw [Nat.add_zero, Nat.add_zero]; exact ⟨congrArg Prod.fst h3, congrArg Prod.snd h3⟩
    | succ k =>
      have h5 := ih (s + 1) (s' + 1) h4 k (by omega)
      rw [show s' + 1 + k = s' + (k + 1) from by omega, show s + 1 + k = s + (k + 1) from by omega] at h5
      exact h5
/-- the point (m, o) lies in a cube of the list -/
def tw_hit (n : Nat) (L : List (Int32 × Int32)) (m o : Nat) : Prop := ∃ c, c ∈ L ∧ tw_ct n c.1 m ∧ bt c.2 o = true
theorem tw_hit_app {n : Nat} {A B : List (Int32 × Int32)} {m o : Nat} : tw_hit n (A ++ B) m o ↔ tw_hit n A m o ∨ tw_hit n B m o := by
  constructor
  · intro ⟨c, h, h2⟩
    rcases List.mem_append.mp h with h3 | h3
    · exact Or.inl ⟨c, h3, h2⟩
    · exact Or.inr ⟨c, h3, h2⟩
  · rintro (⟨c, h, h2⟩ | ⟨c, h, h2⟩)
    · exact ⟨c, List.mem_append.mpr (Or.inl h), h2⟩
    · exact ⟨c, List.mem_append.mpr (Or.inr h), h2⟩
theorem tw_hit_ls {n : Nat} {a b : Nat → Int32} {s l m o : Nat} : tw_hit n (tw_ls a b s l) m o ↔ ∃ k, s ≤ k ∧ k < s + l ∧ tw_ct n (a k) m ∧ bt (b k) o = true := by
  constructor
  · intro ⟨c, h, h2, h3⟩
    obtain ⟨k, h4, h5, e⟩ := (tw_ls_mem a b l s).mp h
    subst e
    exact ⟨k, h4, h5, h2, h3⟩
  · intro ⟨k, h4, h5, h2, h3⟩
    exact ⟨(a k, b k), (tw_ls_mem a b l s).mpr ⟨k, h4, h5, rfl⟩, h2, h3⟩
/-- no mask of the list has a bit at q or above -/
def tw_val (q : Nat) (L : List (Int32 × Int32)) : Prop := ∀ c, c ∈ L → ∀ o, bt c.2 o = true → o < q
def tw_imp (n q : Nat) (P D : List (Int32 × Int32)) (I O : Int32) : Prop := ∀ m, m < 2 ^ n → ∀ o, o < q → tw_ct n I m → bt O o = true → tw_hit n P m o ∨ tw_hit n D m o
def tw_own (n : Nat) (P D : List (Int32 × Int32)) (c : Int32 × Int32) (R : List (Int32 × Int32)) (m o : Nat) : Prop := tw_ct n c.1 m ∧ bt c.2 o = true ∧ (tw_hit n P m o ∧ ¬ tw_hit n D m o) ∧ ¬ tw_hit n R m o
def tw_has (n q : Nat) (P D : List (Int32 × Int32)) (c : Int32 × Int32) (R : List (Int32 × Int32)) : Prop := ∃ m, m < 2 ^ n ∧ ∃ o, o < q ∧ tw_own n P D c R m o
noncomputable def tw_if {α : Type} (p : Prop) (x y : α) : α := @ite α p (Classical.propDecidable p) x y
theorem tw_if_t {α : Type} {p : Prop} {x y : α} (h : p) : tw_if p x y = x := if_pos h
theorem tw_if_f {α : Type} {p : Prop} {x y : α} (h : ¬ p) : tw_if p x y = y := if_neg h
noncomputable def tw_mk (p : Nat → Prop) : Nat → Int32
  | 0 => 0
  | k + 1 => tw_mk p k ||| tw_if (p k) ((1 : Int32) <<< (nI k &&& 31)) 0
theorem tw_mk_b (p : Nat → Prop) : ∀ n, n ≤ 32 → ∀ j, j < 32 → (bt (tw_mk p n) j = true ↔ j < n ∧ p j) := by
  intro n
  induction n with
  | zero =>
    intro _ j _
    show bt 0 j = true ↔ _
    rw [b_0]
    constructor
    · intro h; exact Bool.noConfusion h
    · intro ⟨h, _⟩; omega
  | succ n ih =>
    intro hn j hj
    show bt (tw_mk p n ||| _) j = true ↔ _
    rw [b_or, Bool.or_eq_true, ih (by omega) j hj]
    by_cases hp : p n
    · rw [tw_if_t hp, tw_bsh n (by omega) j hj, decide_eq_true_eq]
      constructor
      · rintro (⟨h1, h2⟩ | e)
        · exact ⟨by omega, h2⟩
        · subst e; exact ⟨by omega, hp⟩
      · intro ⟨h1, h2⟩
        by_cases e : j = n
        · exact Or.inr e
        · exact Or.inl ⟨by omega, h2⟩
    · rw [tw_if_f hp, b_0]
      constructor
      · rintro (⟨h1, h2⟩ | e)
        · exact ⟨by omega, h2⟩
        · exact Bool.noConfusion e
      · intro ⟨h1, h2⟩
        by_cases e : j = n
        · subst e; exact absurd h2 hp
        · exact Or.inl ⟨by omega, h2⟩
/-- the cube that reduce puts in the place of c, beside the others R -/
noncomputable def tw_rc (n q : Nat) (P D : List (Int32 × Int32)) (c : Int32 × Int32) (R : List (Int32 × Int32)) : Int32 × Int32 :=
  (tw_mk (fun j => ∃ m, m < 2 ^ n ∧ (∃ o, o < q ∧ tw_own n P D c R m o) ∧ ∃ i, i < n ∧ j = tw_at m i) 32, tw_mk (fun o => o < q ∧ ∃ m, m < 2 ^ n ∧ tw_own n P D c R m o) 32)
noncomputable def tw_ri (n q : Nat) (P D : List (Int32 × Int32)) (O : Int32) (I : Int32) : Nat → Int32
  | 0 => I
  | i + 1 => tw_if (tw_imp n q P D (tw_ri n q P D O I i ||| ((3 : Int32) <<< (nI (2 * i) &&& 31))) O) (tw_ri n q P D O I i ||| ((3 : Int32) <<< (nI (2 * i) &&& 31))) (tw_ri n q P D O I i)
noncomputable def tw_ro (n q : Nat) (P D : List (Int32 × Int32)) (I : Int32) (O : Int32) : Nat → Int32
  | 0 => O
  | o + 1 => tw_if (tw_imp n q P D I (tw_ro n q P D I O o ||| ((1 : Int32) <<< (nI o &&& 31)))) (tw_ro n q P D I O o ||| ((1 : Int32) <<< (nI o &&& 31))) (tw_ro n q P D I O o)
noncomputable def tw_rz (n q : Nat) (P D : List (Int32 × Int32)) (c : Int32 × Int32) : Int32 × Int32 :=
  (tw_ri n q P D c.2 c.1 n, tw_ro n q P D (tw_ri n q P D c.2 c.1 n) c.2 q)
/-- d lies inside c -/
def tw_ins (c d : Int32 × Int32) : Prop := (∀ j, j < 32 → bt d.1 j = true → bt c.1 j = true) ∧ (∀ j, j < 32 → bt d.2 j = true → bt c.2 j = true)
noncomputable def tw_fl (c : Int32 × Int32) : List (Int32 × Int32) → List (Int32 × Int32)
  | [] => []
  | d :: L => tw_if (tw_ins c d) (tw_fl c L) (d :: tw_fl c L)
theorem tw_fl_len (c : Int32 × Int32) : ∀ L, (tw_fl c L).length ≤ L.length := by
  intro L
  induction L with
  | nil => exact Nat.le_refl _
  | cons d L ih =>
    show (tw_if (tw_ins c d) (tw_fl c L) (d :: tw_fl c L)).length ≤ L.length + 1
    by_cases h : tw_ins c d
    · rw [tw_if_t h]; omega
    · rw [tw_if_f h, List.length_cons]; omega
theorem tw_fl_app (c : Int32 × Int32) (B : List (Int32 × Int32)) : ∀ A, tw_fl c (A ++ B) = tw_fl c A ++ tw_fl c B := by
  intro A
  induction A with
  | nil => rfl
  | cons d L ih =>
    show tw_if (tw_ins c d) (tw_fl c (L ++ B)) (d :: tw_fl c (L ++ B)) = tw_if (tw_ins c d) (tw_fl c L) (d :: tw_fl c L) ++ tw_fl c B
    by_cases h : tw_ins c d
    · rw [tw_if_t h, tw_if_t h, ih]
    · rw [tw_if_f h, tw_if_f h, ih]; rfl
theorem tw_fl_mem {c d : Int32 × Int32} : ∀ L, d ∈ tw_fl c L → d ∈ L := by
  intro L
  induction L with
  | nil => intro h; exact h
  | cons e L ih =>
    show d ∈ tw_if (tw_ins c e) (tw_fl c L) (e :: tw_fl c L) → _
    by_cases h : tw_ins c e
    · rw [tw_if_t h]; intro h2; exact List.mem_cons_of_mem _ (ih h2)
    · rw [tw_if_f h]
      intro h2
      rcases List.mem_cons.mp h2 with e2 | h3
      · rw [e2]; exact List.mem_cons_self
      · exact List.mem_cons_of_mem _ (ih h3)
/-- expand: the settled cubes A, the cubes still to be looked at T -/
noncomputable def tw_ex (n q : Nat) (P D : List (Int32 × Int32)) : Nat → List (Int32 × Int32) → List (Int32 × Int32) → List (Int32 × Int32)
  | 0, A, T => A ++ T
  | _ + 1, A, [] => A
  | f + 1, A, c :: T => tw_ex n q P D f (tw_fl (tw_rz n q P D c) A ++ [tw_rz n q P D c]) (tw_fl (tw_rz n q P D c) T)
noncomputable def tw_ir (n q : Nat) (P D : List (Int32 × Int32)) : List (Int32 × Int32) → List (Int32 × Int32) → List (Int32 × Int32)
  | A, [] => A
  | A, c :: T => tw_if (tw_has n q P D c (A ++ T)) (tw_ir n q P D (A ++ [c]) T) (tw_ir n q P D A T)
noncomputable def tw_rd (n q : Nat) (P D : List (Int32 × Int32)) : List (Int32 × Int32) → List (Int32 × Int32) → List (Int32 × Int32)
  | A, [] => A
  | A, c :: T => tw_if (tw_has n q P D c (A ++ T)) (tw_rd n q P D (A ++ [tw_rc n q P D c (A ++ T)]) T) (tw_rd n q P D A T)
/-- literals -/
def tw_lc (I : Int32) : Nat → Nat
  | 0 => 0
  | i + 1 => tw_lc I i + (if bt I (2 * i) = bt I (2 * i + 1) then 0 else 1)
def tw_li (n : Nat) : List (Int32 × Int32) → Nat
  | [] => 0
  | c :: L => tw_lc c.1 n + tw_li n L
theorem tw_lc_le (I : Int32) : ∀ n, tw_lc I n ≤ n := by
  intro n
  induction n with
  | zero => exact Nat.le_refl _
  | succ n ih =>
    show tw_lc I n + (if bt I (2 * n) = bt I (2 * n + 1) then 0 else 1) ≤ n + 1
    by_cases h : bt I (2 * n) = bt I (2 * n + 1)
    · rw [if_pos h]; omega
    · rw [if_neg h]; omega
theorem tw_li_le (n : Nat) : ∀ L, tw_li n L ≤ n * L.length := by
  intro L
  induction L with
  | nil => exact Nat.zero_le _
  | cons c L ih =>
    show tw_lc c.1 n + tw_li n L ≤ n * (L.length + 1)
    have := tw_lc_le c.1 n
    rw [Nat.mul_add]
    omega
theorem tw_li_app (n : Nat) (B : List (Int32 × Int32)) : ∀ A, tw_li n (A ++ B) = tw_li n A + tw_li n B := by
  intro A
  induction A with
  | nil => show tw_li n B = 0 + tw_li n B; omega
  | cons c L ih =>
    show tw_lc c.1 n + tw_li n (L ++ B) = tw_lc c.1 n + tw_li n L + tw_li n B
    rw [ih]; omega
