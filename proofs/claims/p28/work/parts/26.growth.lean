/-! ===== layer 2: Growth, its readers ===== -/
theorem t_X1_count {d : Nat} {h : XH} {q : Nat} {rs : List (Option Nat)} (hq : h.1[q]? = some (0, 1, rs)) : Tr (d + 1) m_X1_count [.ref q] h (fun o h2 => o = .inl (some (.int (h.2.1 q 2))) ∧ h2 = h) := by
  refine Tr.of ⟨by show 1 ≤ 1; omega, rfl⟩ ?_
  show Ex d [] tb_X1_count (0, [some (.ref q)], []) h _
  refine Ex.pure 1 (fr2 := (1, [some (.ref q)], [.ref q])) rfl ?_
  refine Ex.getI rfl (Or.inl rfl) hq ?_
  exact Ex.iret rfl (Or.inl rfl) ⟨rfl, rfl⟩
theorem t_X1_timesAt {d : Nat} {h : XH} {q t n : Nat} {k : Int32} {rs us : List (Option Nat)} (hq : h.1[q]? = some (0, 1, rs)) (hr : rs[0]? = some (some t)) (ht : h.1[t]? = some (2, n, us)) (hn : n < 2 ^ 31) : Tr (d + 2) m_X1_timesAt [.ref q, .int k] h (fun o h2 => o = .inl (some (.long (g_J h t n k))) ∧ h2 = h) := by
  refine Tr.of ⟨by show 2 ≤ 2; omega, rfl⟩ ?_
  show Ex (d + 1) [] tb_X1_timesAt (0, [some (.ref q), some (.int k)], []) h _
  refine Ex.pure 1 (fr2 := (1, [some (.ref q), some (.int k)], [.ref q])) rfl ?_
  refine Ex.getQ rfl hq hr ?_
  refine Ex.pure 1 (fr2 := (5, [some (.ref q), some (.int k)], [.int k, .ref t])) rfl ?_
  refine Ex.ask (rest := []) (j := m_X3_at_) (as := [.ref t, .int k]) (fun c => rfl) (t_X3_at_ ht hn) ?_
  rintro o h3 ⟨rfl, rfl⟩
  show Ex (d + 1) [] tb_X1_timesAt (8, [some (.ref q), some (.int k)], [.long (g_J h3 t n k)]) h3 _
  exact Ex.lret rfl ⟨rfl, rfl⟩
theorem t_X1_keyAt {d : Nat} {h : XH} {q t n : Nat} {k : Int32} {rs us : List (Option Nat)} (hq : h.1[q]? = some (0, 1, rs)) (hr : rs[1]? = some (some t)) (ht : h.1[t]? = some (2, n, us)) (hn : n < 2 ^ 31) : Tr (d + 2) m_X1_keyAt [.ref q, .int k] h (fun o h2 => o = .inl (some (.long (g_J h t n k))) ∧ h2 = h) := by
  refine Tr.of ⟨by show 2 ≤ 2; omega, rfl⟩ ?_
  show Ex (d + 1) [] tb_X1_keyAt (0, [some (.ref q), some (.int k)], []) h _
  refine Ex.pure 1 (fr2 := (1, [some (.ref q), some (.int k)], [.ref q])) rfl ?_
  refine Ex.getQ rfl hq hr ?_
  refine Ex.pure 1 (fr2 := (5, [some (.ref q), some (.int k)], [.int k, .ref t])) rfl ?_
  refine Ex.ask (rest := []) (j := m_X3_at_) (as := [.ref t, .int k]) (fun c => rfl) (t_X3_at_ ht hn) ?_
  rintro o h3 ⟨rfl, rfl⟩
  show Ex (d + 1) [] tb_X1_keyAt (8, [some (.ref q), some (.int k)], [.long (g_J h3 t n k)]) h3 _
  exact Ex.lret rfl ⟨rfl, rfl⟩
theorem t_X1_restart {d : Nat} {h : XH} {q : Nat} {rs : List (Option Nat)} (hq : h.1[q]? = some (0, 1, rs)) : Tr (d + 1) m_X1_restart [.ref q] h (fun o h2 => o = .inl none ∧ h2 = x_setI h q 2 0) := by
  refine Tr.of ⟨by show 1 ≤ 1; omega, rfl⟩ ?_
  show Ex d [] tb_X1_restart (0, [some (.ref q)], []) h _
  refine Ex.pure 2 (fr2 := (2, [some (.ref q)], [.int 0, .ref q])) rfl ?_
  refine Ex.putI rfl hq ?_
  exact Ex.vret rfl ⟨rfl, rfl⟩
