/-! ===== layer 2: Rows ===== -/
theorem i_len {n : Nat} {k : Int32} (hn : n < 2 ^ 31) (hk : ¬ k < 0) : Int32.ofNat n ≤ k ↔ n ≤ k.toNatClampNeg := by
  rw [Int32.le_iff_toInt_le, Int32.toInt_ofNat_of_lt hn]
  rw [Int32.lt_iff_toInt_lt] at hk
  have h0 : (0 : Int32).toInt = 0 := rfl
  rw [h0] at hk
  have h1 : k.toNatClampNeg = k.toInt.toNat := rfl
  rw [h1]
  omega
/-- what is read at k of a row of n: 0 outside -/
def g_I (h : XH) (q n : Nat) (k : Int32) : Int32 := if k < 0 ∨ n ≤ k.toNatClampNeg then 0 else h.2.1 q k.toNatClampNeg
def g_J (h : XH) (q n : Nat) (k : Int32) : Int64 := if k < 0 ∨ n ≤ k.toNatClampNeg then 0 else h.2.2.1 q k.toNatClampNeg
def p_I (h : XH) (q n : Nat) (k v : Int32) : XH := if k < 0 ∨ n ≤ k.toNatClampNeg then h else x_setI h q k.toNatClampNeg v
def p_J (h : XH) (q n : Nat) (k : Int32) (v : Int64) : XH := if k < 0 ∨ n ≤ k.toNatClampNeg then h else x_setJ h q k.toNatClampNeg v
theorem t_X3_at {d : Nat} {h : XH} {q n : Nat} {rs : List (Option Nat)} {k : Int32} (hq : h.1[q]? = some (1, n, rs)) (hn : n < 2 ^ 31) : Tr (d + 1) m_X3_at [.ref q, .int k] h (fun o h2 => o = .inl (some (.int (g_I h q n k))) ∧ h2 = h) := by
  refine Tr.of ⟨Nat.le_refl 2, rfl⟩ ?_
  show Ex d [] tb_X3_at (0, [some (.ref q), some (.int k)], []) h _
  refine Ex.pure 1 (fr2 := (1, [some (.ref q), some (.int k)], [.int k])) rfl ?_
  refine Ex.br (x := (16, [some (.ref q), some (.int k)], [])) (y := (4, [some (.ref q), some (.int k)], [])) (b := k < 0) rfl (fun hb => ?_) (fun hb => ?_)
  · refine Ex.pure 1 (fr2 := (17, [some (.ref q), some (.int k)], [.int 0])) rfl ?_
    refine Ex.iret rfl (Or.inl rfl) ⟨?_, rfl⟩
    rw [g_I, if_pos (Or.inl hb)]
  · refine Ex.pure 2 (fr2 := (6, [some (.ref q), some (.int k)], [.ref q, .int k])) rfl ?_
    refine Ex.alen rfl (Or.inl rfl) hq ?_
    refine Ex.br (x := (16, [some (.ref q), some (.int k)], [])) (y := (10, [some (.ref q), some (.int k)], [])) (b := Int32.ofNat n ≤ k) rfl (fun hc => ?_) (fun hc => ?_)
    · refine Ex.pure 1 (fr2 := (17, [some (.ref q), some (.int k)], [.int 0])) rfl ?_
      refine Ex.iret rfl (Or.inl rfl) ⟨?_, rfl⟩
      rw [g_I, if_pos (Or.inr ((i_len hn hb).mp hc))]
    · have hj : ¬ (k < 0 ∨ n ≤ k.toNatClampNeg) := fun z => z.elim hb (fun z => hc ((i_len hn hb).mpr z))
      refine Ex.pure 2 (fr2 := (12, [some (.ref q), some (.int k)], [.int k, .ref q])) rfl ?_
      refine Ex.iald rfl (Or.inl rfl) hq hj ?_
      refine Ex.pure 1 (fr2 := (17, [some (.ref q), some (.int k)], [.int (h.2.1 q k.toNatClampNeg)])) rfl ?_
      refine Ex.iret rfl (Or.inl rfl) ⟨?_, rfl⟩
      rw [g_I, if_neg hj]
theorem t_X3_at_ {d : Nat} {h : XH} {q n : Nat} {rs : List (Option Nat)} {k : Int32} (hq : h.1[q]? = some (2, n, rs)) (hn : n < 2 ^ 31) : Tr (d + 1) m_X3_at_ [.ref q, .int k] h (fun o h2 => o = .inl (some (.long (g_J h q n k))) ∧ h2 = h) := by
  refine Tr.of ⟨Nat.le_refl 2, rfl⟩ ?_
  show Ex d [] tb_X3_at_ (0, [some (.ref q), some (.int k)], []) h _
  refine Ex.pure 1 (fr2 := (1, [some (.ref q), some (.int k)], [.int k])) rfl ?_
  refine Ex.br (x := (16, [some (.ref q), some (.int k)], [])) (y := (4, [some (.ref q), some (.int k)], [])) (b := k < 0) rfl (fun hb => ?_) (fun hb => ?_)
  · refine Ex.pure 1 (fr2 := (17, [some (.ref q), some (.int k)], [.long 0])) rfl ?_
    refine Ex.lret rfl ⟨?_, rfl⟩
    rw [g_J, if_pos (Or.inl hb)]
  · refine Ex.pure 2 (fr2 := (6, [some (.ref q), some (.int k)], [.ref q, .int k])) rfl ?_
    refine Ex.alen rfl (Or.inr (Or.inl rfl)) hq ?_
    refine Ex.br (x := (16, [some (.ref q), some (.int k)], [])) (y := (10, [some (.ref q), some (.int k)], [])) (b := Int32.ofNat n ≤ k) rfl (fun hc => ?_) (fun hc => ?_)
    · refine Ex.pure 1 (fr2 := (17, [some (.ref q), some (.int k)], [.long 0])) rfl ?_
      refine Ex.lret rfl ⟨?_, rfl⟩
      rw [g_J, if_pos (Or.inr ((i_len hn hb).mp hc))]
    · have hj : ¬ (k < 0 ∨ n ≤ k.toNatClampNeg) := fun z => z.elim hb (fun z => hc ((i_len hn hb).mpr z))
      refine Ex.pure 2 (fr2 := (12, [some (.ref q), some (.int k)], [.int k, .ref q])) rfl ?_
      refine Ex.lald rfl hq hj ?_
      refine Ex.pure 1 (fr2 := (17, [some (.ref q), some (.int k)], [.long (h.2.2.1 q k.toNatClampNeg)])) rfl ?_
      refine Ex.lret rfl ⟨?_, rfl⟩
      rw [g_J, if_neg hj]
theorem t_X3_put {d : Nat} {h : XH} {q n : Nat} {rs : List (Option Nat)} {k v : Int32} (hq : h.1[q]? = some (1, n, rs)) (hn : n < 2 ^ 31) : Tr (d + 1) m_X3_put [.ref q, .int k, .int v] h (fun o h2 => o = .inl none ∧ h2 = p_I h q n k v) := by
  refine Tr.of ⟨Nat.le_refl 3, rfl⟩ ?_
  show Ex d [] tb_X3_put (0, [some (.ref q), some (.int k), some (.int v)], []) h _
  refine Ex.pure 1 (fr2 := (1, [some (.ref q), some (.int k), some (.int v)], [.int k])) rfl ?_
  refine Ex.br (x := (14, [some (.ref q), some (.int k), some (.int v)], [])) (y := (4, [some (.ref q), some (.int k), some (.int v)], [])) (b := k < 0) rfl (fun hb => ?_) (fun hb => ?_)
  · refine Ex.vret rfl ⟨rfl, ?_⟩
    rw [p_I, if_pos (Or.inl hb)]
  · refine Ex.pure 2 (fr2 := (6, [some (.ref q), some (.int k), some (.int v)], [.ref q, .int k])) rfl ?_
    refine Ex.alen rfl (Or.inl rfl) hq ?_
    refine Ex.br (x := (14, [some (.ref q), some (.int k), some (.int v)], [])) (y := (10, [some (.ref q), some (.int k), some (.int v)], [])) (b := Int32.ofNat n ≤ k) rfl (fun hc => ?_) (fun hc => ?_)
    · refine Ex.vret rfl ⟨rfl, ?_⟩
      rw [p_I, if_pos (Or.inr ((i_len hn hb).mp hc))]
    · have hj : ¬ (k < 0 ∨ n ≤ k.toNatClampNeg) := fun z => z.elim hb (fun z => hc ((i_len hn hb).mpr z))
      refine Ex.pure 3 (fr2 := (13, [some (.ref q), some (.int k), some (.int v)], [.int v, .int k, .ref q])) rfl ?_
      refine Ex.iast rfl hq hj ?_
      refine Ex.vret rfl ⟨rfl, ?_⟩
      rw [p_I, if_neg hj]
theorem t_X3_put_ {d : Nat} {h : XH} {q n : Nat} {rs : List (Option Nat)} {k : Int32} {v : Int64} (hq : h.1[q]? = some (2, n, rs)) (hn : n < 2 ^ 31) : Tr (d + 1) m_X3_put_ [.ref q, .int k, .long v] h (fun o h2 => o = .inl none ∧ h2 = p_J h q n k v) := by
  refine Tr.of ⟨Nat.le_refl 4, rfl⟩ ?_
  show Ex d [] tb_X3_put_ (0, [some (.ref q), some (.int k), some (.long v), none], []) h _
  refine Ex.pure 1 (fr2 := (1, [some (.ref q), some (.int k), some (.long v), none], [.int k])) rfl ?_
  refine Ex.br (x := (14, [some (.ref q), some (.int k), some (.long v), none], [])) (y := (4, [some (.ref q), some (.int k), some (.long v), none], [])) (b := k < 0) rfl (fun hb => ?_) (fun hb => ?_)
  · refine Ex.vret rfl ⟨rfl, ?_⟩
    rw [p_J, if_pos (Or.inl hb)]
  · refine Ex.pure 2 (fr2 := (6, [some (.ref q), some (.int k), some (.long v), none], [.ref q, .int k])) rfl ?_
    refine Ex.alen rfl (Or.inr (Or.inl rfl)) hq ?_
    refine Ex.br (x := (14, [some (.ref q), some (.int k), some (.long v), none], [])) (y := (10, [some (.ref q), some (.int k), some (.long v), none], [])) (b := Int32.ofNat n ≤ k) rfl (fun hc => ?_) (fun hc => ?_)
    · refine Ex.vret rfl ⟨rfl, ?_⟩
      rw [p_J, if_pos (Or.inr ((i_len hn hb).mp hc))]
    · have hj : ¬ (k < 0 ∨ n ≤ k.toNatClampNeg) := fun z => z.elim hb (fun z => hc ((i_len hn hb).mpr z))
      refine Ex.pure 3 (fr2 := (13, [some (.ref q), some (.int k), some (.long v), none], [.long v, .int k, .ref q])) rfl ?_
      refine Ex.last rfl hq hj ?_
      refine Ex.vret rfl ⟨rfl, ?_⟩
      rw [p_J, if_neg hj]
