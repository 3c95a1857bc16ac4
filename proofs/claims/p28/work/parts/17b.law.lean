/-! ===== the rows of the law, in pieces ===== -/
def xallR (f : Nat → XI → Bool) (tb : List (Option XI)) : Nat → Nat → Bool
  | _, 0 => true
  | a, n + 1 => (match tb[a]? with
    | some (some t) => f a t
    | _ => true) && xallR f tb (a + 1) n
theorem xallR_get {f : Nat → XI → Bool} {tb : List (Option XI)} {k : Nat} {t : XI} (ht : tb[k]? = some (some t)) : ∀ (n a : Nat), xallR f tb a n = true → a ≤ k → k < a + n → f k t = true := by
  intro n
  induction n with
  | zero => intro a _ h1 h2; omega
  | succ n ih =>
    intro a h h1 h2
    simp only [xallR, Bool.and_eq_true] at h
    by_cases he : a = k
    · subst he
      rw [ht] at h
      exact h.1
    · exact ih (a + 1) h.2 (by omega) (by omega)
def xlP (k : Nat) : Prop := xallR (xck 8 false true (some .boolean) code) tb_L_law (40 * k) 40 = true
theorem xl_0 : xlP 0 := by
  unfold xlP
  decide +kernel
theorem xl_1 : xlP 1 := by
  unfold xlP
  decide +kernel
theorem xl_2 : xlP 2 := by
  unfold xlP
  decide +kernel
theorem xl_3 : xlP 3 := by
  unfold xlP
  decide +kernel
theorem xl_4 : xlP 4 := by
  unfold xlP
  decide +kernel
theorem xl_5 : xlP 5 := by
  unfold xlP
  decide +kernel
theorem xl_6 : xlP 6 := by
  unfold xlP
  decide +kernel
theorem xl_7 : xlP 7 := by
  unfold xlP
  decide +kernel
theorem xl_8 : xlP 8 := by
  unfold xlP
  decide +kernel
theorem xl_9 : xlP 9 := by
  unfold xlP
  decide +kernel
theorem xl_10 : xlP 10 := by
  unfold xlP
  decide +kernel
theorem xl_11 : xlP 11 := by
  unfold xlP
  decide +kernel
theorem xl_12 : xlP 12 := by
  unfold xlP
  decide +kernel
theorem xl_13 : xlP 13 := by
  unfold xlP
  decide +kernel
theorem xl_14 : xlP 14 := by
  unfold xlP
  decide +kernel
theorem xl_15 : xlP 15 := by
  unfold xlP
  decide +kernel
theorem xl_16 : xlP 16 := by
  unfold xlP
  decide +kernel
theorem xl_17 : xlP 17 := by
  unfold xlP
  decide +kernel
theorem xl_18 : xlP 18 := by
  unfold xlP
  decide +kernel
theorem xl_19 : xlP 19 := by
  unfold xlP
  decide +kernel
theorem xl_20 : xlP 20 := by
  unfold xlP
  decide +kernel
theorem xl_21 : xlP 21 := by
  unfold xlP
  decide +kernel
theorem xl_22 : xlP 22 := by
  unfold xlP
  decide +kernel
theorem xl_23 : xlP 23 := by
  unfold xlP
  decide +kernel
theorem xl_24 : xlP 24 := by
  unfold xlP
  decide +kernel
theorem xl_25 : xlP 25 := by
  unfold xlP
  decide +kernel
theorem xl_26 : xlP 26 := by
  unfold xlP
  decide +kernel
theorem xl_27 : xlP 27 := by
  unfold xlP
  decide +kernel
theorem xl_28 : xlP 28 := by
  unfold xlP
  decide +kernel
theorem xl_29 : xlP 29 := by
  unfold xlP
  decide +kernel
theorem xl_30 : xlP 30 := by
  unfold xlP
  decide +kernel
theorem xl_31 : xlP 31 := by
  unfold xlP
  decide +kernel
theorem xl_32 : xlP 32 := by
  unfold xlP
  decide +kernel
theorem xl_all : xAll xlP 33 := ⟨xl_32, xl_31, xl_30, xl_29, xl_28, xl_27, xl_26, xl_25, xl_24, xl_23, xl_22, xl_21, xl_20, xl_19, xl_18, xl_17, xl_16, xl_15, xl_14, xl_13, xl_12, xl_11, xl_10, xl_9, xl_8, xl_7, xl_6, xl_5, xl_4, xl_3, xl_2, xl_1, xl_0, trivial⟩
theorem xl_len : tb_L_law.length = 1320 := by decide +kernel
theorem xm_law (pc : Nat) (t : XI) (ht : tb_L_law[pc]? = some (some t)) : xck 8 false true (some .boolean) code pc t = true := by
  have hl : pc < 1320 := by rw [← xl_len]; exact (List.getElem?_eq_some_iff.mp ht).1
  have h := xAll_get xl_all (pc / 40) (by omega)
  exact xallR_get ht 40 (40 * (pc / 40)) h (by omega) (by omega)
