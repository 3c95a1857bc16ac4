/-! ===== layer 2: the machine's own calls, and copyOf ===== -/
theorem Ex.acopy {d : Nat} {hs : XHs} {tb : List (Option XI)} {pc : Nat} {L : XL} {st : List Value} {h : XH} {P : XO → XH → Prop} {a q q0 n0 n1 i : Nat} {v n : Int32} {w : Int64} {rs us : List (Option Nat)} (ht : tb[pc]? = some (some (.invokestatic i, a, 5, 6, v, w))) (h0 : h.1[q0]? = some (1, n0, rs)) (h1 : h.1[q]? = some (1, n1, us)) (hn : ¬ n < 0) (hn0 : n.toNatClampNeg ≤ n0) (hn1 : n.toNatClampNeg ≤ n1) (hne : q0 ≠ q) (hst : x_cats st ≤ 8) (H : Ex d hs tb (pc + 3, L, st) (x_copy h q0 q n.toNatClampNeg) P) : Ex d hs tb (pc, L, .int n :: .int 0 :: .ref q :: .int 0 :: .ref q0 :: st) h P := by
  refine Ex.hp ht rfl (r := some (.inl ((pc + 3, L, st), x_copy h q0 q n.toNatClampNeg))) (fun c2 => ?_) H
  show xinvS c2 hs pc a 5 6 L (.int n :: .int 0 :: .ref q :: .int 0 :: .ref q0 :: st) h = _
  unfold xinvS
  rw [if_pos ⟨by simp, hst⟩]
  dsimp only
  rw [h0, h1]
  show (if n < 0 ∨ ¬ (0 : Int32) = 0 ∨ ¬ (0 : Int32) = 0 ∨ n0 < n.toNatClampNeg ∨ n1 < n.toNatClampNeg ∨ q0 = q then (none : Option XR) else _) = _
  rw [if_neg]
  · rfl
  · rintro (z | z | z | z | z | z)
    · exact hn z
    · exact z rfl
    · exact z rfl
    · omega
    · omega
    · exact hne z
theorem sh_new {h : XH} {t u : XT} {q z : Nat} (hq : h.1[q]? = some t) : (x_new h u z).1[q]? = some t := by
  show (h.1 ++ [u])[q]? = some t
  rw [List.getElem?_append_left (List.getElem?_eq_some_iff.mp hq).1]
  exact hq
theorem sh_last (h : XH) (u : XT) (z : Nat) : (x_new h u z).1[h.1.length]? = some u := by
  show (h.1 ++ [u])[h.1.length]? = some u
  rw [List.getElem?_append_right (Nat.le_refl _), Nat.sub_self]
  rfl
theorem i_nat {n : Nat} (hn : n < 2 ^ 31) : (Int32.ofNat n).toNatClampNeg = n ∧ ¬ Int32.ofNat n < 0 := by
  have h1 : (Int32.ofNat n).toInt = n := Int32.toInt_ofNat_of_lt hn
  constructor
  · show (Int32.ofNat n).toInt.toNat = n
    rw [h1]
    rfl
  · rw [Int32.lt_iff_toInt_lt, h1]
    have h0 : (0 : Int32).toInt = 0 := rfl
    rw [h0]
    omega
theorem t_J7_copyOf_59c91 {d : Nat} {h : XH} {q n : Nat} {us : List (Option Nat)} {k : Int32} (hq : h.1[q]? = some (1, n, us)) (hn : n < 2 ^ 31) (hk : ¬ k < 0) (hk2 : k.toNatClampNeg ≤ 67108864) (hk3 : n < k.toNatClampNeg) : Tr (d + 1) m_J7_copyOf_59c91 [.ref q, .int k] h (fun o h2 => o = .inl (some (.ref h.1.length)) ∧ h2 = x_copy (x_new h (1, k.toNatClampNeg, []) k.toNatClampNeg) q h.1.length n) := by
  have hlt : ¬ k < Int32.ofNat n := by
    rw [Int32.lt_iff_toInt_lt, Int32.toInt_ofNat_of_lt hn]
    have h1 : k.toNatClampNeg = k.toInt.toNat := rfl
    rw [h1] at hk3
    omega
  have hne : ¬ k = Int32.ofNat n := by
    intro z
    rw [z, (i_nat hn).1] at hk3
    omega
  have hql : q < h.1.length := (List.getElem?_eq_some_iff.mp hq).1
  refine Tr.of ⟨by show 2 ≤ 3; omega, rfl⟩ ?_
  show Ex d [] tb_J7_copyOf_59c91 (0, [some (.ref q), some (.int k), none], []) h _
  refine Ex.pure 2 (fr2 := (2, [some (.ref q), some (.int k), none], [.ref q, .int k])) rfl ?_
  refine Ex.alen rfl (Or.inl rfl) hq ?_
  refine Ex.br (x := (14, [some (.ref q), some (.int k), none], [])) (y := (6, [some (.ref q), some (.int k), none], [])) (b := ¬ k = (Int32.ofNat n)) rfl (fun hb => ?_) (fun hb => absurd hne hb)
  refine Ex.pure 1 (fr2 := (15, [some (.ref q), some (.int k), none], [.int k])) rfl ?_
  refine Ex.newA rfl (fun z => z.elim hk (by omega)) ?_
  refine Ex.pure 6 (fr2 := (23, [some (.ref q), some (.int k), some (.ref h.1.length)], [.ref q, .int 0, .ref h.1.length, .int 0, .ref q])) rfl ?_
  refine Ex.alen rfl (Or.inl rfl) (sh_new hq) ?_
  refine Ex.pure 1 (fr2 := (25, [some (.ref q), some (.int k), some (.ref h.1.length)], [.int k, .int (Int32.ofNat n), .int 0, .ref h.1.length, .int 0, .ref q])) rfl ?_
  refine Ex.st (r := some (.inl ((28, [some (.ref q), some (.int k), some (.ref h.1.length)], [.int (if k < Int32.ofNat n then k else Int32.ofNat n), .int 0, .ref h.1.length, .int 0, .ref q]), x_new h (1, k.toNatClampNeg, []) k.toNatClampNeg))) (fun c => rfl) ?_
  show Ex d [] tb_J7_copyOf_59c91 _ _ _
  rw [if_neg hlt]
  refine Ex.acopy rfl (sh_new hq) (sh_last h _ _) (i_nat hn).2 (by rw [(i_nat hn).1]; exact Nat.le_refl _) (by rw [(i_nat hn).1]; omega) (by omega) (by decide) ?_
  rw [(i_nat hn).1]
  refine Ex.pure 1 (fr2 := (32, [some (.ref q), some (.int k), some (.ref h.1.length)], [.ref h.1.length])) rfl ?_
  exact Ex.aret rfl ⟨rfl, rfl⟩
theorem i_two {k : Int32} (h0 : 0 ≤ k.toInt) (h1 : k.toInt ≤ 1048576) : (2 * k).toInt = 2 * k.toInt := by
  rw [Int32.toInt_mul]
  show Int.bmod (2 * k.toInt) (2 ^ 32) = _
  rw [Int.bmod_eq_of_le] <;> omega
theorem t_X3_withRoom {d : Nat} {h : XH} {q n : Nat} {us : List (Option Nat)} {k : Int32} (hq : h.1[q]? = some (1, n, us)) (hn : n < 2 ^ 31) : Tr (d + 2) m_X3_withRoom [.ref q, .int k] h (fun o h2 => if k ≤ Int32.ofNat n ∨ ¬ k ≤ 1048576 then o = .inl (some (.ref q)) ∧ h2 = h else o = .inl (some (.ref h.1.length)) ∧ h2 = x_copy (x_new h (1, 2 * k.toNatClampNeg, []) (2 * k.toNatClampNeg)) q h.1.length n) := by
  refine Tr.of ⟨by show 2 ≤ 2; omega, rfl⟩ ?_
  show Ex (d + 1) [] tb_X3_withRoom (0, [some (.ref q), some (.int k)], []) h _
  refine Ex.pure 2 (fr2 := (2, [some (.ref q), some (.int k)], [.ref q, .int k])) rfl ?_
  refine Ex.alen rfl (Or.inl rfl) hq ?_
  refine Ex.br (x := (12, [some (.ref q), some (.int k)], [])) (y := (6, [some (.ref q), some (.int k)], [])) (b := k ≤ (Int32.ofNat n)) rfl (fun hb => ?_) (fun hb => ?_)
  · refine Ex.pure 2 (fr2 := (23, [some (.ref q), some (.int k)], [.ref q])) rfl ?_
    refine Ex.aret rfl ?_
    rw [if_pos (Or.inl hb)]
    exact ⟨rfl, rfl⟩
  · refine Ex.pure 2 (fr2 := (9, [some (.ref q), some (.int k)], [.int 1048576, .int k])) rfl ?_
    refine Ex.br (x := (16, [some (.ref q), some (.int k)], [])) (y := (12, [some (.ref q), some (.int k)], [])) (b := k ≤ 1048576) rfl (fun hc => ?_) (fun hc => ?_)
    · have h5 : n < k.toInt := by
        rw [Int32.le_iff_toInt_le, Int32.toInt_ofNat_of_lt hn] at hb
        omega
      have h6 : k.toInt ≤ 1048576 := by
        rw [Int32.le_iff_toInt_le] at hc
        exact hc
      have h7 := i_two (k := k) (by omega) h6
      have h8 : (2 * k).toNatClampNeg = 2 * k.toNatClampNeg := by
        show (2 * k).toInt.toNat = 2 * k.toInt.toNat
        rw [h7]
        omega
      have h9 : k.toNatClampNeg = k.toInt.toNat := rfl
      have h10 : ¬ 2 * k < 0 := by
        rw [Int32.lt_iff_toInt_lt, h7]
        have h0 : (0 : Int32).toInt = 0 := rfl
        rw [h0]
        omega
      refine Ex.pure 4 (fr2 := (20, [some (.ref q), some (.int k)], [.int (2 * k), .ref q])) rfl ?_
      refine Ex.ask (rest := []) (j := m_J7_copyOf_59c91) (as := [.ref q, .int (2 * k)]) (fun c => rfl) (t_J7_copyOf_59c91 hq hn h10 (by omega) (by omega)) ?_
      rintro o h3 ⟨rfl, e3⟩
      show Ex (d + 1) [] tb_X3_withRoom (23, [some (.ref q), some (.int k)], [.ref h.1.length]) h3 _
      refine Ex.aret rfl ?_
      rw [if_neg (fun z => z.elim hb (fun z => z hc))]
      rw [h8] at e3
      exact ⟨rfl, e3⟩
    · refine Ex.pure 2 (fr2 := (23, [some (.ref q), some (.int k)], [.ref q])) rfl ?_
      refine Ex.aret rfl ?_
      rw [if_pos (Or.inr hc)]
      exact ⟨rfl, rfl⟩
