/-! what the passes keep: lengths, and no bit of a mask at q or above -/
theorem tw_val_app {q : Nat} {A B : List (Int32 × Int32)} (ha : tw_val q A) (hb : tw_val q B) : tw_val q (A ++ B) := by
  intro c hc
  rcases List.mem_append.mp hc with h | h
  · exact ha c h
  · exact hb c h
theorem tw_val_l {q : Nat} {A B : List (Int32 × Int32)} (h : tw_val q (A ++ B)) : tw_val q A := fun c hc => h c (List.mem_append.mpr (Or.inl hc))
theorem tw_val_r {q : Nat} {A B : List (Int32 × Int32)} (h : tw_val q (A ++ B)) : tw_val q B := fun c hc => h c (List.mem_append.mpr (Or.inr hc))
theorem tw_val_nil {q : Nat} : tw_val q [] := fun c hc => by cases hc
theorem tw_val_1 {q : Nat} {c : Int32 × Int32} (h : ∀ o, bt c.2 o = true → o < q) : tw_val q [c] := fun d hd => by
  rw [List.mem_singleton.mp hd]; exact h
theorem tw_val_fl {q : Nat} {c : Int32 × Int32} {L : List (Int32 × Int32)} (h : tw_val q L) : tw_val q (tw_fl c L) := fun d hd => h d (tw_fl_mem L hd)
theorem tw_ro_ok {n q : Nat} {P D : List (Int32 × Int32)} {I O : Int32} (hq : q ≤ 4) (h : ∀ o, bt O o = true → o < q) : ∀ k, k ≤ q → ∀ o, bt (tw_ro n q P D I O k) o = true → o < q := by
  intro k
  induction k with
  | zero => intro _ o ho; exact h o ho
  | succ k ih =>
    intro hk o ho
    have ho2 : bt (tw_if (tw_imp n q P D I (tw_ro n q P D I O k ||| ((1 : Int32) <<< (nI k &&& 31)))) (tw_ro n q P D I O k ||| ((1 : Int32) <<< (nI k &&& 31))) (tw_ro n q P D I O k)) o = true := ho
    by_cases hi : tw_imp n q P D I (tw_ro n q P D I O k ||| ((1 : Int32) <<< (nI k &&& 31)))
    · rw [tw_if_t hi] at ho2
      have hl := tw_lt32 ho2
      rw [b_or, tw_bsh k (by omega) o hl, Bool.or_eq_true, decide_eq_true_eq] at ho2
      rcases ho2 with h2 | h2
      · exact ih (by omega) o h2
      · omega
    · rw [tw_if_f hi] at ho2
      exact ih (by omega) o ho2
theorem tw_rz_ok {n q : Nat} {P D : List (Int32 × Int32)} {c : Int32 × Int32} (hq : q ≤ 4) (h : ∀ o, bt c.2 o = true → o < q) : ∀ o, bt (tw_rz n q P D c).2 o = true → o < q := tw_ro_ok hq h q (Nat.le_refl _)
theorem tw_rc_ok {n q : Nat} {P D : List (Int32 × Int32)} {c : Int32 × Int32} {R : List (Int32 × Int32)} : ∀ o, bt (tw_rc n q P D c R).2 o = true → o < q := fun o ho => ((tw_mk_b _ 32 (Nat.le_refl _) o (tw_lt32 ho)).mp ho).2.1
theorem tw_val_c {q : Nat} {c : Int32 × Int32} {T : List (Int32 × Int32)} (h : tw_val q (c :: T)) : (∀ o, bt c.2 o = true → o < q) ∧ tw_val q T := ⟨h c List.mem_cons_self, fun d hd => h d (List.mem_cons_of_mem _ hd)⟩
theorem tw_ex_keep {n q : Nat} {P D : List (Int32 × Int32)} (hq : q ≤ 4) : ∀ f A T, tw_val q A → tw_val q T → tw_val q (tw_ex n q P D f A T) ∧ (tw_ex n q P D f A T).length ≤ A.length + T.length := by
  intro f
  induction f with
  | zero => intro A T ha ht; exact ⟨tw_val_app ha ht, by rw [show tw_ex n q P D 0 A T = A ++ T from by simp only [tw_ex], List.length_append]; exact Nat.le_refl _⟩
  | succ f ih =>
    intro A T ha ht
    cases T with
    | nil => exact ⟨by simp only [tw_ex]; exact ha, by simp only [tw_ex]; omega⟩
    | cons c T =>
      obtain ⟨h1, h2⟩ := tw_val_c ht
      obtain ⟨h3, h4⟩ := ih (tw_fl (tw_rz n q P D c) A ++ [tw_rz n q P D c]) (tw_fl (tw_rz n q P D c) T) (tw_val_app (tw_val_fl ha) (tw_val_1 (tw_rz_ok hq h1))) (tw_val_fl h2)
      simp only [tw_ex]
      refine ⟨h3, ?_⟩
      have l1 := tw_fl_len (tw_rz n q P D c) A
      have l2 := tw_fl_len (tw_rz n q P D c) T
      rw [List.length_append, List.length_singleton] at h4
      rw [List.length_cons]
      omega
theorem tw_ir_keep {n q : Nat} {P D : List (Int32 × Int32)} : ∀ T A, tw_val q A → tw_val q T → tw_val q (tw_ir n q P D A T) ∧ (tw_ir n q P D A T).length ≤ A.length + T.length := by
  intro T
  induction T with
  | nil => intro A ha _; simp only [tw_ir]; exact ⟨ha, by omega⟩
  | cons c T ih =>
    intro A ha ht
    obtain ⟨h1, h2⟩ := tw_val_c ht
    simp only [tw_ir]
    by_cases h : tw_has n q P D c (A ++ T)
    · rw [tw_if_t h]
      obtain ⟨h3, h4⟩ := ih (A ++ [c]) (tw_val_app ha (tw_val_1 h1)) h2
      refine ⟨h3, ?_⟩
      rw [List.length_append, List.length_singleton] at h4
      rw [List.length_cons]
      omega
    · rw [tw_if_f h]
      obtain ⟨h3, h4⟩ := ih A ha h2
      refine ⟨h3, ?_⟩
      rw [List.length_cons]
      omega
theorem tw_rd_keep {n q : Nat} {P D : List (Int32 × Int32)} : ∀ T A, tw_val q A → tw_val q T → tw_val q (tw_rd n q P D A T) ∧ (tw_rd n q P D A T).length ≤ A.length + T.length := by
  intro T
  induction T with
  | nil => intro A ha _; simp only [tw_rd]; exact ⟨ha, by omega⟩
  | cons c T ih =>
    intro A ha ht
    obtain ⟨h1, h2⟩ := tw_val_c ht
    simp only [tw_rd]
    by_cases h : tw_has n q P D c (A ++ T)
    · rw [tw_if_t h]
      obtain ⟨h3, h4⟩ := ih (A ++ [tw_rc n q P D c (A ++ T)]) (tw_val_app ha (tw_val_1 tw_rc_ok)) h2
      refine ⟨h3, ?_⟩
      rw [List.length_append, List.length_singleton] at h4
      rw [List.length_cons]
      omega
    · rw [tw_if_f h]
      obtain ⟨h3, h4⟩ := ih A ha h2
      refine ⟨h3, ?_⟩
      rw [List.length_cons]
      omega
