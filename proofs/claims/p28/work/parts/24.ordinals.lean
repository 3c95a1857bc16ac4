/-! ===== layer 2: Ordinals, its readers ===== -/
theorem t_X2_powersOf {d : Nat} {h : XH} {q s n : Nat} {a : Int32} {rs us : List (Option Nat)} (hq : h.1[q]? = some (0, 2, rs)) (hr : rs[0]? = some (some s)) (hs : h.1[s]? = some (1, n, us)) (hn : n < 2 ^ 31) : Tr (d + 2) m_X2_powersOf [.ref q, .int a] h (fun o h2 => o = .inl (some (.int (g_I h s n (a + 1) - g_I h s n a))) ∧ h2 = h) := by
  refine Tr.of ⟨Nat.le_refl 2, rfl⟩ ?_
  show Ex (d + 1) [] tb_X2_powersOf (0, [some (.ref q), some (.int a)], []) h _
  refine Ex.pure 1 (fr2 := (1, [some (.ref q), some (.int a)], [.ref q])) rfl ?_
  refine Ex.getQ rfl hq hr ?_
  refine Ex.pure 3 (fr2 := (7, [some (.ref q), some (.int a)], [.int (a + 1), .ref s])) rfl ?_
  refine Ex.ask (rest := []) (j := m_X3_at) (as := [.ref s, .int (a + 1)]) (fun c => rfl) (t_X3_at hs hn) ?_
  rintro o h3 ⟨rfl, rfl⟩
  show Ex (d + 1) [] tb_X2_powersOf (10, [some (.ref q), some (.int a)], [.int (g_I h3 s n (a + 1))]) h3 _
  refine Ex.pure 1 (fr2 := (11, [some (.ref q), some (.int a)], [.ref q, .int (g_I h3 s n (a + 1))])) rfl ?_
  refine Ex.getQ rfl hq hr ?_
  refine Ex.pure 1 (fr2 := (15, [some (.ref q), some (.int a)], [.int a, .ref s, .int (g_I h3 s n (a + 1))])) rfl ?_
  refine Ex.ask (rest := [.int (g_I h3 s n (a + 1))]) (j := m_X3_at) (as := [.ref s, .int a]) (fun c => rfl) (t_X3_at hs hn) ?_
  rintro o h4 ⟨rfl, rfl⟩
  show Ex (d + 1) [] tb_X2_powersOf (18, [some (.ref q), some (.int a)], [.int (g_I h4 s n a), .int (g_I h4 s n (a + 1))]) h4 _
  refine Ex.pure 1 (fr2 := (19, [some (.ref q), some (.int a)], [.int (g_I h4 s n (a + 1) - g_I h4 s n a)])) rfl ?_
  exact Ex.iret rfl (Or.inl rfl) ⟨rfl, rfl⟩
theorem t_X2_timesOf {d : Nat} {h : XH} {q s t n m : Nat} {a k : Int32} {rs us vs : List (Option Nat)} (hq : h.1[q]? = some (0, 2, rs)) (hr : rs[0]? = some (some s)) (hr2 : rs[2]? = some (some t)) (hs : h.1[s]? = some (1, n, us)) (hn : n < 2 ^ 31) (ht : h.1[t]? = some (1, m, vs)) (hm : m < 2 ^ 31) : Tr (d + 2) m_X2_timesOf [.ref q, .int a, .int k] h (fun o h2 => o = .inl (some (.int (g_I h t m (g_I h s n a + k)))) ∧ h2 = h) := by
  refine Tr.of ⟨Nat.le_refl 3, rfl⟩ ?_
  show Ex (d + 1) [] tb_X2_timesOf (0, [some (.ref q), some (.int a), some (.int k)], []) h _
  refine Ex.pure 1 (fr2 := (1, [some (.ref q), some (.int a), some (.int k)], [.ref q])) rfl ?_
  refine Ex.getQ rfl hq hr2 ?_
  refine Ex.pure 1 (fr2 := (5, [some (.ref q), some (.int a), some (.int k)], [.ref q, .ref t])) rfl ?_
  refine Ex.getQ rfl hq hr ?_
  refine Ex.pure 1 (fr2 := (9, [some (.ref q), some (.int a), some (.int k)], [.int a, .ref s, .ref t])) rfl ?_
  refine Ex.ask (rest := [.ref t]) (j := m_X3_at) (as := [.ref s, .int a]) (fun c => rfl) (t_X3_at hs hn) ?_
  rintro o h3 ⟨rfl, rfl⟩
  show Ex (d + 1) [] tb_X2_timesOf (12, [some (.ref q), some (.int a), some (.int k)], [.int (g_I h3 s n a), .ref t]) h3 _
  refine Ex.pure 2 (fr2 := (14, [some (.ref q), some (.int a), some (.int k)], [.int (g_I h3 s n a + k), .ref t])) rfl ?_
  refine Ex.ask (rest := []) (j := m_X3_at) (as := [.ref t, .int (g_I h3 s n a + k)]) (fun c => rfl) (t_X3_at ht hm) ?_
  rintro o h4 ⟨rfl, rfl⟩
  show Ex (d + 1) [] tb_X2_timesOf (17, [some (.ref q), some (.int a), some (.int k)], [.int (g_I h4 t m (g_I h4 s n a + k))]) h4 _
  exact Ex.iret rfl (Or.inl rfl) ⟨rfl, rfl⟩
theorem t_X2_exponentOf {d : Nat} {h : XH} {q s t n m : Nat} {a k : Int32} {rs us vs : List (Option Nat)} (hq : h.1[q]? = some (0, 2, rs)) (hr : rs[0]? = some (some s)) (hr2 : rs[3]? = some (some t)) (hs : h.1[s]? = some (1, n, us)) (hn : n < 2 ^ 31) (ht : h.1[t]? = some (1, m, vs)) (hm : m < 2 ^ 31) : Tr (d + 2) m_X2_exponentOf [.ref q, .int a, .int k] h (fun o h2 => o = .inl (some (.int (g_I h t m (g_I h s n a + k)))) ∧ h2 = h) := by
  refine Tr.of ⟨Nat.le_refl 3, rfl⟩ ?_
  show Ex (d + 1) [] tb_X2_exponentOf (0, [some (.ref q), some (.int a), some (.int k)], []) h _
  refine Ex.pure 1 (fr2 := (1, [some (.ref q), some (.int a), some (.int k)], [.ref q])) rfl ?_
  refine Ex.getQ rfl hq hr2 ?_
  refine Ex.pure 1 (fr2 := (5, [some (.ref q), some (.int a), some (.int k)], [.ref q, .ref t])) rfl ?_
  refine Ex.getQ rfl hq hr ?_
  refine Ex.pure 1 (fr2 := (9, [some (.ref q), some (.int a), some (.int k)], [.int a, .ref s, .ref t])) rfl ?_
  refine Ex.ask (rest := [.ref t]) (j := m_X3_at) (as := [.ref s, .int a]) (fun c => rfl) (t_X3_at hs hn) ?_
  rintro o h3 ⟨rfl, rfl⟩
  show Ex (d + 1) [] tb_X2_exponentOf (12, [some (.ref q), some (.int a), some (.int k)], [.int (g_I h3 s n a), .ref t]) h3 _
  refine Ex.pure 2 (fr2 := (14, [some (.ref q), some (.int a), some (.int k)], [.int (g_I h3 s n a + k), .ref t])) rfl ?_
  refine Ex.ask (rest := []) (j := m_X3_at) (as := [.ref t, .int (g_I h3 s n a + k)]) (fun c => rfl) (t_X3_at ht hm) ?_
  rintro o h4 ⟨rfl, rfl⟩
  show Ex (d + 1) [] tb_X2_exponentOf (17, [some (.ref q), some (.int a), some (.int k)], [.int (g_I h4 t m (g_I h4 s n a + k))]) h4 _
  exact Ex.iret rfl (Or.inl rfl) ⟨rfl, rfl⟩
theorem t_X2_keep {d : Nat} {h : XH} {q : Nat} {rs : List (Option Nat)} (hq : h.1[q]? = some (0, 2, rs)) : Tr (d + 1) m_X2_keep [.ref q] h (fun o h2 => o = .inl none ∧ h2 = x_setI h q 5 (h.2.1 q 4)) := by
  refine Tr.of ⟨Nat.le_refl 1, rfl⟩ ?_
  show Ex d [] tb_X2_keep (0, [some (.ref q)], []) h _
  refine Ex.pure 2 (fr2 := (2, [some (.ref q)], [.ref q, .ref q])) rfl ?_
  refine Ex.getI rfl (Or.inl rfl) hq ?_
  refine Ex.putI rfl hq ?_
  exact Ex.vret rfl ⟨rfl, rfl⟩
theorem t_X2_forget {d : Nat} {h : XH} {q : Nat} {rs : List (Option Nat)} (hq : h.1[q]? = some (0, 2, rs)) : Tr (d + 1) m_X2_forget [.ref q] h (fun o h2 => o = .inl none ∧ h2 = x_setI h q 4 (h.2.1 q 5)) := by
  refine Tr.of ⟨Nat.le_refl 1, rfl⟩ ?_
  show Ex d [] tb_X2_forget (0, [some (.ref q)], []) h _
  refine Ex.pure 2 (fr2 := (2, [some (.ref q)], [.ref q, .ref q])) rfl ?_
  refine Ex.getI rfl (Or.inl rfl) hq ?_
  refine Ex.putI rfl hq ?_
  exact Ex.vret rfl ⟨rfl, rfl⟩
