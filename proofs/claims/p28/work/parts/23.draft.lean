/-! ===== layer 2: Draft ===== -/
theorem t_X0_count {d : Nat} {h : XH} {q : Nat} {rs : List (Option Nat)} (hq : h.1[q]? = some (0, 0, rs)) : Tr (d + 1) m_X0_count [.ref q] h (fun o h2 => o = .inl (some (.int (h.2.1 q 2))) ∧ h2 = h) := by
  refine Tr.of ⟨Nat.le_refl 1, rfl⟩ ?_
  show Ex d [] tb_X0_count (0, [some (.ref q)], []) h _
  refine Ex.pure 1 (fr2 := (1, [some (.ref q)], [.ref q])) rfl ?_
  refine Ex.getI rfl (Or.inl rfl) hq ?_
  exact Ex.iret rfl (Or.inl rfl) ⟨rfl, rfl⟩
theorem t_X0_timesAt {d : Nat} {h : XH} {q t n : Nat} {k : Int32} {rs us : List (Option Nat)} (hq : h.1[q]? = some (0, 0, rs)) (hr : rs[0]? = some (some t)) (ht : h.1[t]? = some (2, n, us)) (hn : n < 2 ^ 31) : Tr (d + 2) m_X0_timesAt [.ref q, .int k] h (fun o h2 => o = .inl (some (.long (g_J h t n k))) ∧ h2 = h) := by
  refine Tr.of ⟨Nat.le_refl 2, rfl⟩ ?_
  show Ex (d + 1) [] tb_X0_timesAt (0, [some (.ref q), some (.int k)], []) h _
  refine Ex.pure 1 (fr2 := (1, [some (.ref q), some (.int k)], [.ref q])) rfl ?_
  refine Ex.getQ rfl hq hr ?_
  refine Ex.pure 1 (fr2 := (5, [some (.ref q), some (.int k)], [.int k, .ref t])) rfl ?_
  refine Ex.ask (rest := []) (j := m_X3_at_) (as := [.ref t, .int k]) (fun c => rfl) (t_X3_at_ ht hn) ?_
  rintro o h3 ⟨rfl, rfl⟩
  show Ex (d + 1) [] tb_X0_timesAt (8, [some (.ref q), some (.int k)], [.long (g_J h3 t n k)]) h3 _
  exact Ex.lret rfl ⟨rfl, rfl⟩
theorem t_X0_exponentAt {d : Nat} {h : XH} {q t n : Nat} {k : Int32} {rs us : List (Option Nat)} (hq : h.1[q]? = some (0, 0, rs)) (hr : rs[1]? = some (some t)) (ht : h.1[t]? = some (1, n, us)) (hn : n < 2 ^ 31) : Tr (d + 2) m_X0_exponentAt [.ref q, .int k] h (fun o h2 => o = .inl (some (.int (g_I h t n k))) ∧ h2 = h) := by
  refine Tr.of ⟨Nat.le_refl 2, rfl⟩ ?_
  show Ex (d + 1) [] tb_X0_exponentAt (0, [some (.ref q), some (.int k)], []) h _
  refine Ex.pure 1 (fr2 := (1, [some (.ref q), some (.int k)], [.ref q])) rfl ?_
  refine Ex.getQ rfl hq hr ?_
  refine Ex.pure 1 (fr2 := (5, [some (.ref q), some (.int k)], [.int k, .ref t])) rfl ?_
  refine Ex.ask (rest := []) (j := m_X3_at) (as := [.ref t, .int k]) (fun c => rfl) (t_X3_at ht hn) ?_
  rintro o h3 ⟨rfl, rfl⟩
  show Ex (d + 1) [] tb_X0_exponentAt (8, [some (.ref q), some (.int k)], [.int (g_I h3 t n k)]) h3 _
  exact Ex.iret rfl (Or.inl rfl) ⟨rfl, rfl⟩
theorem t_X0_restart {d : Nat} {h : XH} {q : Nat} {rs : List (Option Nat)} (hq : h.1[q]? = some (0, 0, rs)) : Tr (d + 1) m_X0_restart [.ref q] h (fun o h2 => o = .inl none ∧ h2 = x_setI h q 2 0) := by
  refine Tr.of ⟨Nat.le_refl 1, rfl⟩ ?_
  show Ex d [] tb_X0_restart (0, [some (.ref q)], []) h _
  refine Ex.pure 2 (fr2 := (2, [some (.ref q)], [.int 0, .ref q])) rfl ?_
  refine Ex.putI rfl hq ?_
  exact Ex.vret rfl ⟨rfl, rfl⟩
/-- shapes are what they were -/
theorem p_I_sh (h : XH) (q n : Nat) (k v : Int32) : (p_I h q n k v).1 = h.1 := by unfold p_I; split <;> rfl
theorem p_J_sh (h : XH) (q n : Nat) (k : Int32) (v : Int64) : (p_J h q n k v).1 = h.1 := by unfold p_J; split <;> rfl
theorem t_X0_raise {d : Nat} {h : XH} {q t n : Nat} {k : Int32} {v : Int64} {rs us : List (Option Nat)} (hq : h.1[q]? = some (0, 0, rs)) (hr : rs[0]? = some (some t)) (ht : h.1[t]? = some (2, n, us)) (hn : n < 2 ^ 31) : Tr (d + 2) m_X0_raise [.ref q, .int k, .long v] h (fun o h2 => o = .inl none ∧ h2 = p_J h t n k (g_J h t n k + v)) := by
  refine Tr.of ⟨Nat.le_refl 4, rfl⟩ ?_
  show Ex (d + 1) [] tb_X0_raise (0, [some (.ref q), some (.int k), some (.long v), none], []) h _
  refine Ex.pure 1 (fr2 := (1, [some (.ref q), some (.int k), some (.long v), none], [.ref q])) rfl ?_
  refine Ex.getQ rfl hq hr ?_
  refine Ex.pure 2 (fr2 := (6, [some (.ref q), some (.int k), some (.long v), none], [.ref q, .int k, .ref t])) rfl ?_
  refine Ex.getQ rfl hq hr ?_
  refine Ex.pure 1 (fr2 := (10, [some (.ref q), some (.int k), some (.long v), none], [.int k, .ref t, .int k, .ref t])) rfl ?_
  refine Ex.ask (rest := [.int k, .ref t]) (j := m_X3_at_) (as := [.ref t, .int k]) (fun c => rfl) (t_X3_at_ ht hn) ?_
  rintro o h3 ⟨rfl, rfl⟩
  show Ex (d + 1) [] tb_X0_raise (13, [some (.ref q), some (.int k), some (.long v), none], [.long (g_J h3 t n k), .int k, .ref t]) h3 _
  refine Ex.pure 2 (fr2 := (15, [some (.ref q), some (.int k), some (.long v), none], [.long (g_J h3 t n k + v), .int k, .ref t])) rfl ?_
  refine Ex.ask (rest := []) (j := m_X3_put_) (as := [.ref t, .int k, .long (g_J h3 t n k + v)]) (fun c => rfl) (t_X3_put_ ht hn) ?_
  rintro o h4 ⟨rfl, rfl⟩
  exact Ex.vret rfl ⟨rfl, rfl⟩
theorem p_J_I (h : XH) (q n : Nat) (k : Int32) (v : Int64) : (p_J h q n k v).2.1 = h.2.1 := by unfold p_J; split <;> rfl
theorem p_I_J (h : XH) (q n : Nat) (k v : Int32) : (p_I h q n k v).2.2.1 = h.2.2.1 := by unfold p_I; split <;> rfl
theorem p_I_ne {h : XH} {q n r : Nat} {k v : Int32} (hr : r ≠ q) : (p_I h q n k v).2.1 r = h.2.1 r := by
  unfold p_I
  split
  · rfl
  · show (if r = q then _ else h.2.1 r) = _
    rw [if_neg hr]
/-- the heap behind Draft.add -/
def a_Dr (h : XH) (q t u n : Nat) (v : Int64) (e : Int32) : XH := if Int32.ofNat n ≤ h.2.1 q 2 then h else x_setI (p_I (p_J h t n (h.2.1 q 2) v) u n (h.2.1 q 2) e) q 2 (h.2.1 q 2 + 1)
theorem t_X0_add {d : Nat} {h : XH} {q t u n : Nat} {v : Int64} {e : Int32} {rs us vs : List (Option Nat)} (hq : h.1[q]? = some (0, 0, rs)) (hr : rs[0]? = some (some t)) (hr2 : rs[1]? = some (some u)) (ht : h.1[t]? = some (2, n, us)) (hu : h.1[u]? = some (1, n, vs)) (hqu : q ≠ u) (hn : n < 2 ^ 31) : Tr (d + 2) m_X0_add [.ref q, .long v, .int e] h (fun o h2 => o = .inl none ∧ h2 = a_Dr h q t u n v e) := by
  refine Tr.of ⟨Nat.le_refl 4, rfl⟩ ?_
  show Ex (d + 1) [] tb_X0_add (0, [some (.ref q), some (.long v), none, some (.int e)], []) h _
  refine Ex.pure 1 (fr2 := (1, [some (.ref q), some (.long v), none, some (.int e)], [.ref q])) rfl ?_
  refine Ex.getI rfl (Or.inl rfl) hq ?_
  refine Ex.pure 1 (fr2 := (5, [some (.ref q), some (.long v), none, some (.int e)], [.ref q, .int (h.2.1 q 2)])) rfl ?_
  refine Ex.getQ rfl hq hr ?_
  refine Ex.alen rfl (Or.inr (Or.inl rfl)) ht ?_
  refine Ex.br (x := (46, [some (.ref q), some (.long v), none, some (.int e)], [])) (y := (12, [some (.ref q), some (.long v), none, some (.int e)], [])) (b := Int32.ofNat n ≤ h.2.1 q 2) rfl (fun hc => ?_) (fun hc => ?_)
  · refine Ex.vret rfl ⟨rfl, ?_⟩
    rw [a_Dr, if_pos hc]
  · refine Ex.pure 1 (fr2 := (13, [some (.ref q), some (.long v), none, some (.int e)], [.ref q])) rfl ?_
    refine Ex.getQ rfl hq hr ?_
    refine Ex.pure 1 (fr2 := (17, [some (.ref q), some (.long v), none, some (.int e)], [.ref q, .ref t])) rfl ?_
    refine Ex.getI rfl (Or.inl rfl) hq ?_
    refine Ex.pure 1 (fr2 := (21, [some (.ref q), some (.long v), none, some (.int e)], [.long v, .int (h.2.1 q 2), .ref t])) rfl ?_
    refine Ex.ask (rest := []) (j := m_X3_put_) (as := [.ref t, .int (h.2.1 q 2), .long v]) (fun c => rfl) (t_X3_put_ ht hn) ?_
    rintro o h3 ⟨rfl, e3⟩
    have hs3 : h3.1 = h.1 := by rw [e3, p_J_sh]
    have hi3 : h3.2.1 = h.2.1 := by rw [e3, p_J_I]
    rw [← hs3] at hq hu
    show Ex (d + 1) [] tb_X0_add (24, [some (.ref q), some (.long v), none, some (.int e)], []) h3 _
    refine Ex.pure 1 (fr2 := (25, [some (.ref q), some (.long v), none, some (.int e)], [.ref q])) rfl ?_
    refine Ex.getQ rfl hq hr2 ?_
    refine Ex.pure 1 (fr2 := (29, [some (.ref q), some (.long v), none, some (.int e)], [.ref q, .ref u])) rfl ?_
    refine Ex.getI rfl (Or.inl rfl) hq ?_
    rw [hi3]
    refine Ex.pure 1 (fr2 := (33, [some (.ref q), some (.long v), none, some (.int e)], [.int e, .int (h.2.1 q 2), .ref u])) rfl ?_
    refine Ex.ask (rest := []) (j := m_X3_put) (as := [.ref u, .int (h.2.1 q 2), .int e]) (fun c => rfl) (t_X3_put hu hn) ?_
    rintro o h4 ⟨rfl, e4⟩
    have hs4 : h4.1 = h3.1 := by rw [e4, p_I_sh]
    have hi4 : h4.2.1 q = h.2.1 q := by rw [e4, p_I_ne hqu, hi3]
    rw [← hs4] at hq
    show Ex (d + 1) [] tb_X0_add (36, [some (.ref q), some (.long v), none, some (.int e)], []) h4 _
    refine Ex.pure 2 (fr2 := (38, [some (.ref q), some (.long v), none, some (.int e)], [.ref q, .ref q])) rfl ?_
    refine Ex.getI rfl (Or.inl rfl) hq ?_
    rw [hi4]
    refine Ex.pure 2 (fr2 := (43, [some (.ref q), some (.long v), none, some (.int e)], [.int (h.2.1 q 2 + 1), .ref q])) rfl ?_
    refine Ex.putI rfl hq ?_
    refine Ex.vret rfl ⟨rfl, ?_⟩
    rw [a_Dr, if_neg hc, ← e3, ← e4]
