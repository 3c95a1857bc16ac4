/-! ===== layer 2: the machine's own calls, and copyOf ===== -/
theorem Ex.acopy {d : Nat} {hs : XHs} {tb : List (Option XI)} {pc : Nat} {L : XL} {st : List Value} {h : XH} {P : XO → XH → Prop} {a q q0 n0 n1 i : Nat} {v n : Int32} {w : Int64} {rs us : List (Option Nat)} (ht : tb[pc]? = some (some (.invokestatic i, a, 5, 6, v, w))) (h0 : h.1[q0]? = some (1, n0, rs)) (h1 : h.1[q]? = some (1, n1, us)) (hn : ¬ n < 0) (hn0 : n.toNatClampNeg ≤ n0) (hn1 : n.toNatClampNeg ≤ n1) (hne : q0 ≠ q) (hst : x_cats st ≤ 8) (H : Ex d hs tb (pc + 3, L, st) (x_copy h q0 q n.toNatClampNeg) P) : Ex d hs tb (pc, L, .int n :: .int 0 :: .ref q :: .int 0 :: .ref q0 :: st) h P := by
  refine Ex.hp ht rfl (r := some (.inl ((pc + 3, L, st), x_copy h q0 q n.toNatClampNeg))) (fun c2 => ?_) H
  show xinvS c2 hs pc a 5 6 L (.int n :: .int 0 :: .ref q :: .int 0 :: .ref q0 :: st) h = _
  unfold xinvS
  rw [if_pos ⟨by simp, hst⟩]
  dsimp only
  rw [h0, h1]
  show (if n < 0 ∨ ¬ (0 : Int32) = 0 ∨ ¬ (0 : Int32) = 0 ∨ n0 < n.toNatClampNeg ∨ n1 < n.toNatClampNeg ∨ q0 = q then (none : Option XR) else _) = _
  rw [if_neg]
  · rfl
  · rintro (z | z | z | z | z | z)
    · exact hn z
    · exact z rfl
    · exact z rfl
    · omega
    · omega
    · exact hne z
