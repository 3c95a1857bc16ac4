/-! ===== of main2, what p28 needs ===== -/
theorem n1_0 : ¬ (1 : Int32) = 0 := by decide
/-- by f steps at most, the s-th next: what x comes to and the steps made -/
noncomputable def dsF (n : Nat) : Nat → Nat → O → Option (O × Nat)
  | 0, s, x => some (x, s)
  | f + 1, s, x => ouif (x = .leaf) (some (x, s)) (ouif (stpok (n + s) 5 x) (dsF n f (s + 1) (stpF (n + s) 5 x)) none)
theorem dsF_R (n : Nat) : ∀ f s x, dsR n f s x (dsF n f s x) := by
  intro f
  induction f with
  | zero => intro s x; rfl
  | succ f ih =>
    intro s x
    by_cases a : x = .leaf
    · exact Or.inl ⟨a, by rw [dsF, ouif_t a]⟩
    · by_cases b : stpok (n + s) 5 x
      · refine Or.inr (Or.inl ⟨a, b, ?_⟩)
        rw [dsF, ouif_f a, ouif_t b]
        exact ih _ _
      · exact Or.inr (Or.inr ⟨a, b, by rw [dsF, ouif_f a, ouif_f b]⟩)
noncomputable def dsV : Option (O × Nat) → Int
  | none => 0
  | some (x, s) => ouif (x = .leaf) (s : Int) (-1)
noncomputable def f_kind (a : Int32) (S : XS) : XC := out2 (isp a) True (S.1 (pN a)).toInt S S
noncomputable def f_clear (a : Int32) (S : XS) : XC := out2 (isp a) True (S.1 (pN a)).toInt S (sK S (pN a) 0)
noncomputable def f_finite (a b : Int32) (S : XS) : XC := out2 (isp a) (0 ≤ b.toInt ∧ b.toInt ≤ 1000000) 0 S (sO S (pN a) (mk (if 0 < b.toInt.toNat then [(.leaf, b.toInt.toNat)] else [])))
noncomputable def f_omega (a b : Int32) (S : XS) : XC := out2 (isp a ∧ isp b) (S.1 (pN b) = 1 ∧ okm (mk [(S.2.1 (pN b), 1)])) 0 S (sO S (pN a) (mk [(S.2.1 (pN b), 1)]))
noncomputable def f_natural (a b c e : Int32) (S : XS) : XC := out2 (isp a ∧ isp b ∧ isp c) (S.1 (pN b) = 1 ∧ S.1 (pN c) = 1 ∧ if e = 0 then okm (naO (S.2.1 (pN b)) (S.2.1 (pN c))) else nmok (S.2.1 (pN b)) (S.2.1 (pN c))) 0 S (sO S (pN a) (if e = 0 then naO (S.2.1 (pN b)) (S.2.1 (pN c)) else nmO (S.2.1 (pN b)) (S.2.1 (pN c))))
noncomputable def f_step (a b c : Int32) (S : XS) : XC := out3 (isp a ∧ isp b) (1 ≤ c.toInt ∧ c.toInt ≤ 99) (S.1 (pN b) = 1 ∧ ¬ S.2.1 (pN b) = .leaf ∧ stpok c.toInt.toNat 5 (S.2.1 (pN b))) 0 S (sO S (pN a) (stpF c.toInt.toNat 5 (S.2.1 (pN b))))
noncomputable def f_descent (a b c : Int32) (S : XS) : XC := out3 (isp a) ((1 ≤ b.toInt ∧ b.toInt ≤ 99) ∧ 0 ≤ c.toInt ∧ c.toInt ≤ 2000) (S.1 (pN a) = 1 ∧ ¬ dsF b.toInt.toNat c.toInt.toNat 0 (S.2.1 (pN a)) = none) (dsV (dsF b.toInt.toNat c.toInt.toNat 0 (S.2.1 (pN a)))) S S
noncomputable def f_powers (a : Int32) (S : XS) : XC := out2 (isp a) (S.1 (pN a) = 1) (pl (S.2.1 (pN a))).length S S
noncomputable def f_times (a b : Int32) (S : XS) : XC := out2 (isp a ∧ 0 ≤ b.toInt) (S.1 (pN a) = 1 ∧ b.toInt < (pl (S.2.1 (pN a))).length) ((pl (S.2.1 (pN a)))[b.toInt.toNat]?.getD (.leaf, 0)).2 S S
noncomputable def f_exponent (a b c : Int32) (S : XS) : XC := out2 (isp a ∧ isp b ∧ 0 ≤ c.toInt) (S.1 (pN b) = 1 ∧ c.toInt < (pl (S.2.1 (pN b))).length) 0 S (sO S (pN a) ((pl (S.2.1 (pN b)))[c.toInt.toNat]?.getD (.leaf, 0)).1)
noncomputable def f_parts (a : Int32) (S : XS) : XC := out2 (isp a) (S.1 (pN a) = 2) (S.2.2.1 (pN a)) S S
noncomputable def f_terms (a : Int32) (S : XS) : XC := out2 (isp a) (S.1 (pN a) = 3) (S.2.2.2 (pN a)).length S S
theorem i_rng {b : Int32} {u v : Int64} {x z : Int} (h1 : u.toInt = x) (h2 : v.toInt = z) : (u ≤ ((b : Int32).toInt64) ∧ ((b : Int32).toInt64) ≤ v) ↔ (x ≤ b.toInt ∧ b.toInt ≤ z) := by
  rw [j_le, j_le, i_2j, h1, h2]
section
variable {d : Nat} {h : XH} {y : Nat → Nat} {S : XS} {K : XK} {E : XE}
end
