/-! ===== layer 2: small methods ===== -/
theorem unt_ne (a : Int32) : ¬ unt a = 0 := by
  unfold unt
  repeat' split
  all_goals decide
theorem w_X5_value {d : Nat} {h : XH} {y : Nat → Nat} {K : XK} {E : XE} (hd : 0 ≤ d) (hs : Sg h.1 y) (H : K (some (.long (h.2.2.1 18 0))) h) : Ca (d + 1) m_X5_value [.ref 18] h K E := by
  refine Ca.of ⟨by show 1 ≤ 1; omega, rfl⟩ ?_
  show Ex d [] tb_X5_value (0, [some (.ref 18)], []) h _
  refine Ex.pure 1 (fr2 := (1, [some (.ref 18)], [.ref 18])) rfl ?_
  refine Ex.getJ rfl (sg_18 hs) ?_
  exact Ex.lret rfl H
theorem t_X5_value {h : XH} {y : Nat → Nat} (hs : Sg h.1 y) : Tr 1 m_X5_value [.ref 18] h (fun o h2 => o = .inl (some (.long (h.2.2.1 18 0))) ∧ h2 = h) :=
  Tr.ca (w_X5_value (d := 0) (Nat.le_refl _) hs ⟨rfl, rfl⟩)
theorem w_X5_length {d : Nat} {h : XH} {y : Nat → Nat} {K : XK} {E : XE} (hd : 0 ≤ d) (hs : Sg h.1 y) (H : K (some (.int (h.2.1 18 3))) h) : Ca (d + 1) m_X5_length [.ref 18] h K E := by
  refine Ca.of ⟨by show 1 ≤ 1; omega, rfl⟩ ?_
  show Ex d [] tb_X5_length (0, [some (.ref 18)], []) h _
  refine Ex.pure 1 (fr2 := (1, [some (.ref 18)], [.ref 18])) rfl ?_
  refine Ex.getI rfl (Or.inl rfl) (sg_18 hs) ?_
  exact Ex.iret rfl (Or.inl rfl) H
theorem t_X5_length {h : XH} {y : Nat → Nat} (hs : Sg h.1 y) : Tr 1 m_X5_length [.ref 18] h (fun o h2 => o = .inl (some (.int (h.2.1 18 3))) ∧ h2 = h) :=
  Tr.ca (w_X5_length (d := 0) (Nat.le_refl _) hs ⟨rfl, rfl⟩)
theorem w_X4_growth {d : Nat} {h : XH} {y : Nat → Nat} {K : XK} {E : XE} (hd : 0 ≤ d) (hs : Sg h.1 y) (H : K (some (.ref (y 8))) h) : Ca (d + 1) m_X4_growth [.ref 19] h K E := by
  refine Ca.of ⟨by show 1 ≤ 1; omega, rfl⟩ ?_
  show Ex d [] tb_X4_growth (0, [some (.ref 19)], []) h _
  refine Ex.pure 1 (fr2 := (1, [some (.ref 19)], [.ref 19])) rfl ?_
  refine Ex.getQ rfl (sg_19 hs) rfl ?_
  exact Ex.aret rfl H
theorem t_X4_growth {h : XH} {y : Nat → Nat} (hs : Sg h.1 y) : Tr 1 m_X4_growth [.ref 19] h (fun o h2 => o = .inl (some (.ref (y 8))) ∧ h2 = h) :=
  Tr.ca (w_X4_growth (d := 0) (Nat.le_refl _) hs ⟨rfl, rfl⟩)
theorem w_J6_compare_7cf53 {d : Nat} {h : XH} {y : Nat → Nat} {K : XK} {E : XE} {a : Int32} {b : Int32} (hd : 0 ≤ d) (hs : Sg h.1 y) (H : (b ≤ a → (¬ a = b → K (some (.int 1)) h) ∧ (¬ (¬ a = b) → K (some (.int 0)) h)) ∧ (¬ (b ≤ a) → K (some (.int (-1))) h)) : Ca (d + 1) m_J6_compare_7cf53 [.int a, .int b] h K E := by
  refine Ca.of ⟨by show 2 ≤ 2; omega, rfl⟩ ?_
  show Ex d [] tb_J6_compare_7cf53 (0, [some (.int a), some (.int b)], []) h _
  refine Ex.pure 2 (fr2 := (2, [some (.int a), some (.int b)], [.int b, .int a])) rfl ?_
  refine Ex.br (x := (9, [some (.int a), some (.int b)], [])) (y := (5, [some (.int a), some (.int b)], [])) (b := b ≤ a) rfl (fun hb => ?_) (fun hb => ?_)
  · replace H := H.1 (hb)
    refine Ex.pure 2 (fr2 := (11, [some (.int a), some (.int b)], [.int b, .int a])) rfl ?_
    refine Ex.br (x := (18, [some (.int a), some (.int b)], [])) (y := (14, [some (.int a), some (.int b)], [])) (b := ¬ a = b) rfl (fun hb => ?_) (fun hb => ?_)
    · replace H := H.1 (hb)
      refine Ex.pure 1 (fr2 := (19, [some (.int a), some (.int b)], [.int 1])) rfl ?_
      exact Ex.iret rfl (Or.inl rfl) H
    · replace H := H.2 (hb)
      refine Ex.pure 2 (fr2 := (19, [some (.int a), some (.int b)], [.int 0])) rfl ?_
      exact Ex.iret rfl (Or.inl rfl) H
  · replace H := H.2 (hb)
    refine Ex.pure 2 (fr2 := (19, [some (.int a), some (.int b)], [.int (-1)])) rfl ?_
    exact Ex.iret rfl (Or.inl rfl) H
theorem t_J6_compare_7cf53 {h : XH} {y : Nat → Nat} {a : Int32} {b : Int32} (hs : Sg h.1 y) : Tr 1 m_J6_compare_7cf53 [.int a, .int b] h (fun o h2 => o = .inl (some (.int (c_I a b))) ∧ h2 = h) :=
  Tr.ca (w_J6_compare_7cf53 (d := 0) (Nat.le_refl _) hs ⟨fun h1 => ⟨fun h2 => ⟨by rw [c_I, if_neg (i_nlt.mpr h1), if_neg h2], rfl⟩, fun h2 => ⟨by rw [c_I, if_neg (i_nlt.mpr h1), if_pos (Classical.not_not.mp h2)], rfl⟩⟩, fun h1 => ⟨by rw [c_I, if_pos (i_nle.mp h1)], rfl⟩⟩)
theorem w_J13_compare_74951 {d : Nat} {h : XH} {y : Nat → Nat} {K : XK} {E : XE} {a : Int64} {b : Int64} (hd : 0 ≤ d) (hs : Sg h.1 y) (H : (b ≤ a → (¬ a = b → K (some (.int 1)) h) ∧ (¬ (¬ a = b) → K (some (.int 0)) h)) ∧ (¬ (b ≤ a) → K (some (.int (-1))) h)) : Ca (d + 1) m_J13_compare_74951 [.long a, .long b] h K E := by
  refine Ca.of ⟨by show 4 ≤ 4; omega, rfl⟩ ?_
  show Ex d [] tb_J13_compare_74951 (0, [some (.long a), none, some (.long b), none], []) h _
  refine Ex.pure 3 (fr2 := (3, [some (.long a), none, some (.long b), none], [.int (lg_cmp a b)])) rfl ?_
  refine Ex.br (x := (10, [some (.long a), none, some (.long b), none], [])) (y := (6, [some (.long a), none, some (.long b), none], [])) (b := 0 ≤ (lg_cmp a b)) rfl (fun hb => ?_) (fun hb => ?_)
  · replace H := H.1 ((lg_cmp_ge _ _).mp hb)
    refine Ex.pure 3 (fr2 := (13, [some (.long a), none, some (.long b), none], [.int (lg_cmp a b)])) rfl ?_
    refine Ex.br (x := (20, [some (.long a), none, some (.long b), none], [])) (y := (16, [some (.long a), none, some (.long b), none], [])) (b := ¬ (lg_cmp a b) = 0) rfl (fun hb => ?_) (fun hb => ?_)
    · replace H := H.1 (fun z => hb ((lg_cmp_eq _ _).mpr z))
      refine Ex.pure 1 (fr2 := (21, [some (.long a), none, some (.long b), none], [.int 1])) rfl ?_
      exact Ex.iret rfl (Or.inl rfl) H
    · replace H := H.2 (fun z => hb (fun w => z ((lg_cmp_eq _ _).mp w)))
      refine Ex.pure 2 (fr2 := (21, [some (.long a), none, some (.long b), none], [.int 0])) rfl ?_
      exact Ex.iret rfl (Or.inl rfl) H
  · replace H := H.2 (fun z => hb ((lg_cmp_ge _ _).mpr z))
    refine Ex.pure 2 (fr2 := (21, [some (.long a), none, some (.long b), none], [.int (-1)])) rfl ?_
    exact Ex.iret rfl (Or.inl rfl) H
theorem t_J13_compare_74951 {h : XH} {y : Nat → Nat} {a : Int64} {b : Int64} (hs : Sg h.1 y) : Tr 1 m_J13_compare_74951 [.long a, .long b] h (fun o h2 => o = .inl (some (.int (c_J a b))) ∧ h2 = h) :=
  Tr.ca (w_J13_compare_74951 (d := 0) (Nat.le_refl _) hs ⟨fun h1 => ⟨fun h2 => ⟨by rw [c_J, if_neg (j_nlt.mpr h1), if_neg h2], rfl⟩, fun h2 => ⟨by rw [c_J, if_neg (j_nlt.mpr h1), if_pos (Classical.not_not.mp h2)], rfl⟩⟩, fun h1 => ⟨by rw [c_J, if_pos (j_nle.mp h1)], rfl⟩⟩)
theorem w_X6_numberFits {d : Nat} {h : XH} {y : Nat → Nat} {K : XK} {E : XE} {a : Int64} (hd : 0 ≤ d) (hs : Sg h.1 y) (H : (a < (-268435456) → K (some (.int 0)) h) ∧ (¬ (a < (-268435456)) → (268435456 < a → K (some (.int 0)) h) ∧ (¬ (268435456 < a) → K (some (.int 1)) h))) : Ca (d + 1) m_X6_numberFits [.long a] h K E := by
  refine Ca.of ⟨by show 2 ≤ 2; omega, rfl⟩ ?_
  show Ex d [] tb_X6_numberFits (0, [some (.long a), none], []) h _
  refine Ex.pure 3 (fr2 := (5, [some (.long a), none], [.int (lg_cmp a (-268435456))])) rfl ?_
  refine Ex.br (x := (20, [some (.long a), none], [])) (y := (8, [some (.long a), none], [])) (b := (lg_cmp a (-268435456)) < 0) rfl (fun hb => ?_) (fun hb => ?_)
  · replace H := H.1 ((lg_cmp_lt _ _).mp hb)
    refine Ex.pure 1 (fr2 := (21, [some (.long a), none], [.int 0])) rfl ?_
    exact Ex.iret rfl (Or.inr ⟨rfl, by decide⟩) H
  · replace H := H.2 (fun z => hb ((lg_cmp_lt _ _).mpr z))
    refine Ex.pure 3 (fr2 := (13, [some (.long a), none], [.int (lg_cmp a 268435456)])) rfl ?_
    refine Ex.br (x := (20, [some (.long a), none], [])) (y := (16, [some (.long a), none], [])) (b := 0 < (lg_cmp a 268435456)) rfl (fun hb => ?_) (fun hb => ?_)
    · replace H := H.1 ((lg_cmp_gt _ _).mp hb)
      refine Ex.pure 1 (fr2 := (21, [some (.long a), none], [.int 0])) rfl ?_
      exact Ex.iret rfl (Or.inr ⟨rfl, by decide⟩) H
    · replace H := H.2 (fun z => hb ((lg_cmp_gt _ _).mpr z))
      refine Ex.pure 2 (fr2 := (21, [some (.long a), none], [.int 1])) rfl ?_
      exact Ex.iret rfl (Or.inr ⟨rfl, by decide⟩) H
theorem t_X6_numberFits {h : XH} {y : Nat → Nat} {a : Int64} (hs : Sg h.1 y) : Tr 1 m_X6_numberFits [.long a] h (fun o h2 => o = .inl (some (.int (bi ((-268435456) ≤ a ∧ a ≤ 268435456)))) ∧ h2 = h) :=
  Tr.ca (w_X6_numberFits (d := 0) (Nat.le_refl _) hs ⟨fun h1 => ⟨by rw [bi_f (fun z => j_nle.mpr h1 z.1)], rfl⟩, fun h1 => ⟨fun h2 => ⟨by rw [bi_f (fun z => j_nle.mpr h2 z.2)], rfl⟩, fun h2 => ⟨by rw [bi_t ⟨j_nlt.mp h1, j_nlt.mp h2⟩], rfl⟩⟩⟩)
theorem w_X7_thrown {d : Nat} {h : XH} {y : Nat → Nat} {K : XK} {E : XE} (hd : 0 ≤ d) (hs : Sg h.1 y) (H : K (some (.int (h.2.1 77 0))) h) : Ca (d + 1) m_X7_thrown [.ref 77] h K E := by
  refine Ca.of ⟨by show 1 ≤ 1; omega, rfl⟩ ?_
  show Ex d [] tb_X7_thrown (0, [some (.ref 77)], []) h _
  refine Ex.pure 1 (fr2 := (1, [some (.ref 77)], [.ref 77])) rfl ?_
  refine Ex.getI rfl (Or.inl rfl) (sg_77 hs) ?_
  exact Ex.iret rfl (Or.inl rfl) H
theorem t_X7_thrown {h : XH} {y : Nat → Nat} (hs : Sg h.1 y) : Tr 1 m_X7_thrown [.ref 77] h (fun o h2 => o = .inl (some (.int (h.2.1 77 0))) ∧ h2 = h) :=
  Tr.ca (w_X7_thrown (d := 0) (Nat.le_refl _) hs ⟨rfl, rfl⟩)
theorem w_X7_holds {d : Nat} {h : XH} {y : Nat → Nat} {K : XK} {E : XE} {a : Int32} (hd : 0 ≤ d) (hs : Sg h.1 y) (H : (∀ h1 : XH, h1 = (x_setI h 77 0 a) → (¬ a = 0 → K (some (.int 0)) h1) ∧ (¬ (¬ a = 0) → K (some (.int 1)) h1))) : Ca (d + 1) m_X7_holds [.ref 77, .int a] h K E := by
  refine Ca.of ⟨by show 2 ≤ 2; omega, rfl⟩ ?_
  show Ex d [] tb_X7_holds (0, [some (.ref 77), some (.int a)], []) h _
  refine Ex.pure 2 (fr2 := (2, [some (.ref 77), some (.int a)], [.int a, .ref 77])) rfl ?_
  refine Ex.putI rfl (sg_77 hs) ?_
  obtain ⟨h1, e1⟩ : ∃ z : XH, z = (x_setI h 77 0 a) := ⟨_, rfl⟩
  rw [← e1]
  replace H := H h1 e1
  replace hs : Sg h1.1 y := by rw [e1]; exact hs
  refine Ex.pure 1 (fr2 := (6, [some (.ref 77), some (.int a)], [.int a])) rfl ?_
  refine Ex.br (x := (13, [some (.ref 77), some (.int a)], [])) (y := (9, [some (.ref 77), some (.int a)], [])) (b := ¬ a = 0) rfl (fun hb => ?_) (fun hb => ?_)
  · replace H := H.1 (hb)
    refine Ex.pure 1 (fr2 := (14, [some (.ref 77), some (.int a)], [.int 0])) rfl ?_
    exact Ex.iret rfl (Or.inr ⟨rfl, by decide⟩) H
  · replace H := H.2 (hb)
    refine Ex.pure 2 (fr2 := (14, [some (.ref 77), some (.int a)], [.int 1])) rfl ?_
    exact Ex.iret rfl (Or.inr ⟨rfl, by decide⟩) H
theorem t_X7_holds {h : XH} {y : Nat → Nat} {a : Int32} (hs : Sg h.1 y) : Tr 1 m_X7_holds [.ref 77, .int a] h (fun o h2 => o = .inl (some (.int (bi (a = 0)))) ∧ h2 = (x_setI h 77 0 a)) :=
  Tr.ca (w_X7_holds (d := 0) (Nat.le_refl _) hs (fun h1 e1 => ⟨fun h2 => ⟨by rw [bi_f h2], e1⟩, fun h2 => ⟨by rw [bi_t (Classical.not_not.mp h2)], e1⟩⟩))
theorem w_X7_isIn {d : Nat} {h : XH} {y : Nat → Nat} {K : XK} {E : XE} {v : Int64} {a : Int64} {b : Int64} (hd : 0 ≤ d) (hs : Sg h.1 y) (H : (v < a → K (some (.int 0)) h) ∧ (¬ (v < a) → (b < v → K (some (.int 0)) h) ∧ (¬ (b < v) → K (some (.int 1)) h))) : Ca (d + 1) m_X7_isIn [.long v, .long a, .long b] h K E := by
  refine Ca.of ⟨by show 6 ≤ 6; omega, rfl⟩ ?_
  show Ex d [] tb_X7_isIn (0, [some (.long v), none, some (.long a), none, some (.long b), none], []) h _
  refine Ex.pure 3 (fr2 := (3, [some (.long v), none, some (.long a), none, some (.long b), none], [.int (lg_cmp v a)])) rfl ?_
  refine Ex.br (x := (17, [some (.long v), none, some (.long a), none, some (.long b), none], [])) (y := (6, [some (.long v), none, some (.long a), none, some (.long b), none], [])) (b := (lg_cmp v a) < 0) rfl (fun hb => ?_) (fun hb => ?_)
  · replace H := H.1 ((lg_cmp_lt _ _).mp hb)
    refine Ex.pure 1 (fr2 := (18, [some (.long v), none, some (.long a), none, some (.long b), none], [.int 0])) rfl ?_
    exact Ex.iret rfl (Or.inr ⟨rfl, by decide⟩) H
  · replace H := H.2 (fun z => hb ((lg_cmp_lt _ _).mpr z))
    refine Ex.pure 3 (fr2 := (10, [some (.long v), none, some (.long a), none, some (.long b), none], [.int (lg_cmp v b)])) rfl ?_
    refine Ex.br (x := (17, [some (.long v), none, some (.long a), none, some (.long b), none], [])) (y := (13, [some (.long v), none, some (.long a), none, some (.long b), none], [])) (b := 0 < (lg_cmp v b)) rfl (fun hb => ?_) (fun hb => ?_)
    · replace H := H.1 ((lg_cmp_gt _ _).mp hb)
      refine Ex.pure 1 (fr2 := (18, [some (.long v), none, some (.long a), none, some (.long b), none], [.int 0])) rfl ?_
      exact Ex.iret rfl (Or.inr ⟨rfl, by decide⟩) H
    · replace H := H.2 (fun z => hb ((lg_cmp_gt _ _).mpr z))
      refine Ex.pure 2 (fr2 := (18, [some (.long v), none, some (.long a), none, some (.long b), none], [.int 1])) rfl ?_
      exact Ex.iret rfl (Or.inr ⟨rfl, by decide⟩) H
theorem t_X7_isIn {h : XH} {y : Nat → Nat} {v : Int64} {a : Int64} {b : Int64} (hs : Sg h.1 y) : Tr 1 m_X7_isIn [.long v, .long a, .long b] h (fun o h2 => o = .inl (some (.int (bi (a ≤ v ∧ v ≤ b)))) ∧ h2 = h) :=
  Tr.ca (w_X7_isIn (d := 0) (Nat.le_refl _) hs ⟨fun h1 => ⟨by rw [bi_f (fun z => j_nle.mpr h1 z.1)], rfl⟩, fun h1 => ⟨fun h2 => ⟨by rw [bi_f (fun z => j_nle.mpr h2 z.2)], rfl⟩, fun h2 => ⟨by rw [bi_t ⟨j_nlt.mp h1, j_nlt.mp h2⟩], rfl⟩⟩⟩)
theorem w_X7_isPlace {d : Nat} {h : XH} {y : Nat → Nat} {K : XK} {E : XE} {p : Int32} (hd : 1 ≤ d) (hs : Sg h.1 y) (H : K (some (.int (bi (0 ≤ ((p : Int32).toInt64) ∧ ((p : Int32).toInt64) ≤ 15)))) h) : Ca (d + 1) m_X7_isPlace [.int p] h K E := by
  refine Ca.of ⟨by show 1 ≤ 1; omega, rfl⟩ ?_
  show Ex d [] tb_X7_isPlace (0, [some (.int p)], []) h _
  refine Ex.pure 4 (fr2 := (6, [some (.int p)], [.long 15, .long 0, .long ((p : Int32).toInt64)])) rfl ?_
  refine Ex.ask (rest := []) (j := m_X7_isIn) (as := [.long ((p : Int32).toInt64), .long 0, .long 15]) (fun c => rfl) ((t_X7_isIn hs).mono (by omega) (fun _ _ z => z)) ?_
  rintro _ h0 ⟨rfl, e0⟩
  rw [e0]
  show Ex d [] tb_X7_isPlace (9, [some (.int p)], [.int (bi (0 ≤ ((p : Int32).toInt64) ∧ ((p : Int32).toInt64) ≤ 15))]) h _
  exact Ex.iret rfl (Or.inr ⟨rfl, bi_01 _⟩) H
theorem t_X7_isPlace {h : XH} {y : Nat → Nat} {p : Int32} (hs : Sg h.1 y) : Tr 2 m_X7_isPlace [.int p] h (fun o h2 => o = .inl (some (.int (bi (isp p)))) ∧ h2 = h) :=
  Tr.ca (w_X7_isPlace (d := 1) (Nat.le_refl _) hs ⟨rfl, rfl⟩)
theorem w_X7_are {d : Nat} {h : XH} {y : Nat → Nat} {K : XK} {E : XE} {a : Int32} {b : Int32} {c : Int32} (hd : 2 ≤ d) (hs : Sg h.1 y) (H : ((isp a) → ((isp b) → ((isp c) → K (some (.int 1)) h) ∧ (¬ (isp c) → K (some (.int 0)) h)) ∧ (¬ (isp b) → K (some (.int 0)) h)) ∧ (¬ (isp a) → K (some (.int 0)) h)) : Ca (d + 1) m_X7_are [.int a, .int b, .int c] h K E := by
  refine Ca.of ⟨by show 3 ≤ 3; omega, rfl⟩ ?_
  show Ex d [] tb_X7_are (0, [some (.int a), some (.int b), some (.int c)], []) h _
  refine Ex.pure 1 (fr2 := (1, [some (.int a), some (.int b), some (.int c)], [.int a])) rfl ?_
  refine Ex.ask (rest := []) (j := m_X7_isPlace) (as := [.int a]) (fun c => rfl) ((t_X7_isPlace hs).mono (by omega) (fun _ _ z => z)) ?_
  rintro _ h0 ⟨rfl, e0⟩
  rw [e0]
  show Ex d [] tb_X7_are (4, [some (.int a), some (.int b), some (.int c)], [.int (bi (isp a))]) h _
  refine Ex.br (x := (25, [some (.int a), some (.int b), some (.int c)], [])) (y := (7, [some (.int a), some (.int b), some (.int c)], [])) (b := (bi (isp a)) = 0) rfl (fun hb => ?_) (fun hb => ?_)
  · replace H := H.2 (bi_eq.mp hb)
    refine Ex.pure 1 (fr2 := (26, [some (.int a), some (.int b), some (.int c)], [.int 0])) rfl ?_
    exact Ex.iret rfl (Or.inr ⟨rfl, by decide⟩) H
  · replace H := H.1 (bi_neq.mp hb)
    refine Ex.pure 1 (fr2 := (8, [some (.int a), some (.int b), some (.int c)], [.int b])) rfl ?_
    refine Ex.ask (rest := []) (j := m_X7_isPlace) (as := [.int b]) (fun c => rfl) ((t_X7_isPlace hs).mono (by omega) (fun _ _ z => z)) ?_
    rintro _ h0 ⟨rfl, e0⟩
    rw [e0]
    show Ex d [] tb_X7_are (11, [some (.int a), some (.int b), some (.int c)], [.int (bi (isp b))]) h _
    refine Ex.br (x := (25, [some (.int a), some (.int b), some (.int c)], [])) (y := (14, [some (.int a), some (.int b), some (.int c)], [])) (b := (bi (isp b)) = 0) rfl (fun hb => ?_) (fun hb => ?_)
    · replace H := H.2 (bi_eq.mp hb)
      refine Ex.pure 1 (fr2 := (26, [some (.int a), some (.int b), some (.int c)], [.int 0])) rfl ?_
      exact Ex.iret rfl (Or.inr ⟨rfl, by decide⟩) H
    · replace H := H.1 (bi_neq.mp hb)
      refine Ex.pure 1 (fr2 := (15, [some (.int a), some (.int b), some (.int c)], [.int c])) rfl ?_
      refine Ex.ask (rest := []) (j := m_X7_isPlace) (as := [.int c]) (fun c => rfl) ((t_X7_isPlace hs).mono (by omega) (fun _ _ z => z)) ?_
      rintro _ h0 ⟨rfl, e0⟩
      rw [e0]
      show Ex d [] tb_X7_are (18, [some (.int a), some (.int b), some (.int c)], [.int (bi (isp c))]) h _
      refine Ex.br (x := (25, [some (.int a), some (.int b), some (.int c)], [])) (y := (21, [some (.int a), some (.int b), some (.int c)], [])) (b := (bi (isp c)) = 0) rfl (fun hb => ?_) (fun hb => ?_)
      · replace H := H.2 (bi_eq.mp hb)
        refine Ex.pure 1 (fr2 := (26, [some (.int a), some (.int b), some (.int c)], [.int 0])) rfl ?_
        exact Ex.iret rfl (Or.inr ⟨rfl, by decide⟩) H
      · replace H := H.1 (bi_neq.mp hb)
        refine Ex.pure 2 (fr2 := (26, [some (.int a), some (.int b), some (.int c)], [.int 1])) rfl ?_
        exact Ex.iret rfl (Or.inr ⟨rfl, by decide⟩) H
theorem t_X7_are {h : XH} {y : Nat → Nat} {a : Int32} {b : Int32} {c : Int32} (hs : Sg h.1 y) : Tr 3 m_X7_are [.int a, .int b, .int c] h (fun o h2 => o = .inl (some (.int (bi (isp a ∧ isp b ∧ isp c)))) ∧ h2 = h) :=
  Tr.ca (w_X7_are (d := 2) (Nat.le_refl _) hs ⟨fun h1 => ⟨fun h2 => ⟨fun h3 => ⟨by rw [bi_t ⟨h1, h2, h3⟩], rfl⟩, fun h3 => ⟨by rw [bi_f (fun z => h3 z.2.2)], rfl⟩⟩, fun h2 => ⟨by rw [bi_f (fun z => h2 z.2.1)], rfl⟩⟩, fun h1 => ⟨by rw [bi_f (fun z => h1 z.1)], rfl⟩⟩)
theorem w_X7_isNumber {d : Nat} {h : XH} {y : Nat → Nat} {K : XK} {E : XE} {v : Int64} (hd : 1 ≤ d) (hs : Sg h.1 y) (H : K (some (.int (bi ((-268435456) ≤ v ∧ v ≤ 268435456)))) h) : Ca (d + 1) m_X7_isNumber [.long v] h K E := by
  refine Ca.of ⟨by show 2 ≤ 2; omega, rfl⟩ ?_
  show Ex d [] tb_X7_isNumber (0, [some (.long v), none], []) h _
  refine Ex.pure 3 (fr2 := (7, [some (.long v), none], [.long 268435456, .long (-268435456), .long v])) rfl ?_
  refine Ex.ask (rest := []) (j := m_X7_isIn) (as := [.long v, .long (-268435456), .long 268435456]) (fun c => rfl) ((t_X7_isIn hs).mono (by omega) (fun _ _ z => z)) ?_
  rintro _ h0 ⟨rfl, e0⟩
  rw [e0]
  show Ex d [] tb_X7_isNumber (10, [some (.long v), none], [.int (bi ((-268435456) ≤ v ∧ v ≤ 268435456))]) h _
  exact Ex.iret rfl (Or.inr ⟨rfl, bi_01 _⟩) H
theorem t_X7_isNumber {h : XH} {y : Nat → Nat} {v : Int64} (hs : Sg h.1 y) : Tr 2 m_X7_isNumber [.long v] h (fun o h2 => o = .inl (some (.int (bi ((-268435456) ≤ v ∧ v ≤ 268435456)))) ∧ h2 = h) :=
  Tr.ca (w_X7_isNumber (d := 1) (Nat.le_refl _) hs ⟨rfl, rfl⟩)
theorem w_X7_hasPlace {d : Nat} {h : XH} {y : Nat → Nat} {K : XK} {E : XE} {a : Int32} {b : Int32} (hd : 0 ≤ d) (hs : Sg h.1 y) (H : (¬ ((a >>> (b &&& 31)) &&& 1) = 1 → K (some (.int 0)) h) ∧ (¬ (¬ ((a >>> (b &&& 31)) &&& 1) = 1) → K (some (.int 1)) h)) : Ca (d + 1) m_X7_hasPlace [.int a, .int b] h K E := by
  refine Ca.of ⟨by show 2 ≤ 2; omega, rfl⟩ ?_
  show Ex d [] tb_X7_hasPlace (0, [some (.int a), some (.int b)], []) h _
  refine Ex.pure 6 (fr2 := (6, [some (.int a), some (.int b)], [.int 1, .int ((a >>> (b &&& 31)) &&& 1)])) rfl ?_
  refine Ex.br (x := (13, [some (.int a), some (.int b)], [])) (y := (9, [some (.int a), some (.int b)], [])) (b := ¬ ((a >>> (b &&& 31)) &&& 1) = 1) rfl (fun hb => ?_) (fun hb => ?_)
  · replace H := H.1 (hb)
    refine Ex.pure 1 (fr2 := (14, [some (.int a), some (.int b)], [.int 0])) rfl ?_
    exact Ex.iret rfl (Or.inr ⟨rfl, by decide⟩) H
  · replace H := H.2 (hb)
    refine Ex.pure 2 (fr2 := (14, [some (.int a), some (.int b)], [.int 1])) rfl ?_
    exact Ex.iret rfl (Or.inr ⟨rfl, by decide⟩) H
theorem t_X7_hasPlace {h : XH} {y : Nat → Nat} {a : Int32} {b : Int32} (hs : Sg h.1 y) : Tr 1 m_X7_hasPlace [.int a, .int b] h (fun o h2 => o = .inl (some (.int (bi ((a >>> (b &&& 31)) &&& 1 = 1)))) ∧ h2 = h) :=
  Tr.ca (w_X7_hasPlace (d := 0) (Nat.le_refl _) hs ⟨fun h2 => ⟨by rw [bi_f h2], rfl⟩, fun h2 => ⟨by rw [bi_t (Classical.not_not.mp h2)], rfl⟩⟩)
theorem w_X7_unit {d : Nat} {h : XH} {y : Nat → Nat} {K : XK} {E : XE} {a : Int32} (hd : 0 ≤ d) (hs : Sg h.1 y) (H : (¬ a = 1 → (¬ a = 2 → (¬ a = 3 → K (some (.long 1)) h) ∧ (¬ (¬ a = 3) → K (some (.long 401)) h)) ∧ (¬ (¬ a = 2) → K (some (.long 160801)) h)) ∧ (¬ (¬ a = 1) → K (some (.long 64481201)) h)) : Ca (d + 1) m_X7_unit [.int a] h K E := by
  refine Ca.of ⟨by show 1 ≤ 1; omega, rfl⟩ ?_
  show Ex d [] tb_X7_unit (0, [some (.int a)], []) h _
  refine Ex.pure 2 (fr2 := (2, [some (.int a)], [.int 1, .int a])) rfl ?_
  refine Ex.br (x := (11, [some (.int a)], [])) (y := (5, [some (.int a)], [])) (b := ¬ a = 1) rfl (fun hb => ?_) (fun hb => ?_)
  · replace H := H.1 (hb)
    refine Ex.pure 2 (fr2 := (13, [some (.int a)], [.int 2, .int a])) rfl ?_
    refine Ex.br (x := (22, [some (.int a)], [])) (y := (16, [some (.int a)], [])) (b := ¬ a = 2) rfl (fun hb => ?_) (fun hb => ?_)
    · replace H := H.1 (hb)
      refine Ex.pure 2 (fr2 := (24, [some (.int a)], [.int 3, .int a])) rfl ?_
      refine Ex.br (x := (33, [some (.int a)], [])) (y := (27, [some (.int a)], [])) (b := ¬ a = 3) rfl (fun hb => ?_) (fun hb => ?_)
      · replace H := H.1 (hb)
        refine Ex.pure 1 (fr2 := (34, [some (.int a)], [.long 1])) rfl ?_
        exact Ex.lret rfl H
      · replace H := H.2 (hb)
        refine Ex.pure 2 (fr2 := (34, [some (.int a)], [.long 401])) rfl ?_
        exact Ex.lret rfl H
    · replace H := H.2 (hb)
      refine Ex.pure 2 (fr2 := (34, [some (.int a)], [.long 160801])) rfl ?_
      exact Ex.lret rfl H
  · replace H := H.2 (hb)
    refine Ex.pure 2 (fr2 := (34, [some (.int a)], [.long 64481201])) rfl ?_
    exact Ex.lret rfl H
theorem t_X7_unit {h : XH} {y : Nat → Nat} {a : Int32} (hs : Sg h.1 y) : Tr 1 m_X7_unit [.int a] h (fun o h2 => o = .inl (some (.long (unt a))) ∧ h2 = h) :=
  Tr.ca (w_X7_unit (d := 0) (Nat.le_refl _) hs ⟨fun h1 => ⟨fun h2 => ⟨fun h3 => ⟨by rw [unt, if_neg h1, if_neg h2, if_neg h3], rfl⟩, fun h3 => ⟨by rw [unt, if_neg h1, if_neg h2, if_pos (Classical.not_not.mp h3)], rfl⟩⟩, fun h2 => ⟨by rw [unt, if_neg h1, if_pos (Classical.not_not.mp h2)], rfl⟩⟩, fun h1 => ⟨by rw [unt, if_pos (Classical.not_not.mp h1)], rfl⟩⟩)
theorem w_X7_level {d : Nat} {h : XH} {y : Nat → Nat} {K : XK} {E : XE} (hd : 1 ≤ d) (hs : Sg h.1 y) (H : K (some (.long (200 * ((((unt 1) + (unt 2)) + (unt 3)) + (unt 4))))) h) : Ca (d + 1) m_X7_level [] h K E := by
  refine Ca.of ⟨by show 0 ≤ 0; omega, rfl⟩ ?_
  show Ex d [] tb_X7_level (0, [], []) h _
  refine Ex.pure 2 (fr2 := (4, [], [.int 1, .long 200])) rfl ?_
  refine Ex.ask (rest := [.long 200]) (j := m_X7_unit) (as := [.int 1]) (fun c => rfl) ((t_X7_unit hs).mono (by omega) (fun _ _ z => z)) ?_
  rintro _ h0 ⟨rfl, e0⟩
  rw [e0]
  show Ex d [] tb_X7_level (7, [], [.long (unt 1), .long 200]) h _
  refine Ex.pure 1 (fr2 := (8, [], [.int 2, .long (unt 1), .long 200])) rfl ?_
  refine Ex.ask (rest := [.long (unt 1), .long 200]) (j := m_X7_unit) (as := [.int 2]) (fun c => rfl) ((t_X7_unit hs).mono (by omega) (fun _ _ z => z)) ?_
  rintro _ h0 ⟨rfl, e0⟩
  rw [e0]
  show Ex d [] tb_X7_level (11, [], [.long (unt 2), .long (unt 1), .long 200]) h _
  refine Ex.pure 2 (fr2 := (13, [], [.int 3, .long ((unt 1) + (unt 2)), .long 200])) rfl ?_
  refine Ex.ask (rest := [.long ((unt 1) + (unt 2)), .long 200]) (j := m_X7_unit) (as := [.int 3]) (fun c => rfl) ((t_X7_unit hs).mono (by omega) (fun _ _ z => z)) ?_
  rintro _ h0 ⟨rfl, e0⟩
  rw [e0]
  show Ex d [] tb_X7_level (16, [], [.long (unt 3), .long ((unt 1) + (unt 2)), .long 200]) h _
  refine Ex.pure 2 (fr2 := (18, [], [.int 4, .long (((unt 1) + (unt 2)) + (unt 3)), .long 200])) rfl ?_
  refine Ex.ask (rest := [.long (((unt 1) + (unt 2)) + (unt 3)), .long 200]) (j := m_X7_unit) (as := [.int 4]) (fun c => rfl) ((t_X7_unit hs).mono (by omega) (fun _ _ z => z)) ?_
  rintro _ h0 ⟨rfl, e0⟩
  rw [e0]
  show Ex d [] tb_X7_level (21, [], [.long (unt 4), .long (((unt 1) + (unt 2)) + (unt 3)), .long 200]) h _
  refine Ex.pure 2 (fr2 := (23, [], [.long (200 * ((((unt 1) + (unt 2)) + (unt 3)) + (unt 4)))])) rfl ?_
  exact Ex.lret rfl H
theorem t_X7_level {h : XH} {y : Nat → Nat} (hs : Sg h.1 y) : Tr 2 m_X7_level [] h (fun o h2 => o = .inl (some (.long lvl)) ∧ h2 = h) :=
  Tr.ca (w_X7_level (d := 1) (Nat.le_refl _) hs ⟨rfl, rfl⟩)
theorem w_X7_exponentOf {d : Nat} {h : XH} {y : Nat → Nat} {K : XK} {E : XE} {p : Int64} {a : Int32} (hd : 1 ≤ d) (hs : Sg h.1 y) (H : (¬ (unt a) = 0 ∧ K (some (.long (((p / (unt a)) - (p / (unt a)) / 401 * 401) - 200))) h)) : Ca (d + 1) m_X7_exponentOf [.long p, .int a] h K E := by
  refine Ca.of ⟨by show 3 ≤ 3; omega, rfl⟩ ?_
  show Ex d [] tb_X7_exponentOf (0, [some (.long p), none, some (.int a)], []) h _
  refine Ex.pure 2 (fr2 := (2, [some (.long p), none, some (.int a)], [.int a, .long p])) rfl ?_
  refine Ex.ask (rest := [.long p]) (j := m_X7_unit) (as := [.int a]) (fun c => rfl) ((t_X7_unit hs).mono (by omega) (fun _ _ z => z)) ?_
  rintro _ h0 ⟨rfl, e0⟩
  rw [e0]
  show Ex d [] tb_X7_exponentOf (5, [some (.long p), none, some (.int a)], [.long (unt a), .long p]) h _
  refine Ex.ldiv rfl H.1 ?_
  replace H := H.2
  refine Ex.pure 1 (fr2 := (9, [some (.long p), none, some (.int a)], [.long 401, .long (p / (unt a))])) rfl ?_
  refine Ex.lrem rfl (by decide) ?_
  refine Ex.pure 2 (fr2 := (14, [some (.long p), none, some (.int a)], [.long (((p / (unt a)) - (p / (unt a)) / 401 * 401) - 200)])) rfl ?_
  exact Ex.lret rfl H
theorem t_X7_exponentOf {h : XH} {y : Nat → Nat} {p : Int64} {a : Int32} (hs : Sg h.1 y) : Tr 2 m_X7_exponentOf [.long p, .int a] h (fun o h2 => o = .inl (some (.long (xpn4 p a))) ∧ h2 = h) :=
  Tr.ca (w_X7_exponentOf (d := 1) (Nat.le_refl _) hs ⟨unt_ne a, rfl, rfl⟩)
theorem w_X1_keyOf {d : Nat} {h : XH} {y : Nat → Nat} {K : XK} {E : XE} {a : Int32} {b : Int32} {c : Int32} {e : Int32} (hd : 0 ≤ d) (hs : Sg h.1 y) (H : K (some (.long ((((550293209600 + ((a : Int32).toInt64 <<< ((30 : Int32).toInt64 &&& 63))) + ((b : Int32).toInt64 <<< ((20 : Int32).toInt64 &&& 63))) + ((c : Int32).toInt64 <<< ((10 : Int32).toInt64 &&& 63))) + (e : Int32).toInt64))) h) : Ca (d + 1) m_X1_keyOf [.int a, .int b, .int c, .int e] h K E := by
  refine Ca.of ⟨by show 4 ≤ 4; omega, rfl⟩ ?_
  show Ex d [] tb_X1_keyOf (0, [some (.int a), some (.int b), some (.int c), some (.int e)], []) h _
  refine Ex.pure 19 (fr2 := (24, [some (.int a), some (.int b), some (.int c), some (.int e)], [.long ((((550293209600 + ((a : Int32).toInt64 <<< ((30 : Int32).toInt64 &&& 63))) + ((b : Int32).toInt64 <<< ((20 : Int32).toInt64 &&& 63))) + ((c : Int32).toInt64 <<< ((10 : Int32).toInt64 &&& 63))) + (e : Int32).toInt64)])) rfl ?_
  exact Ex.lret rfl H
theorem t_X1_keyOf {h : XH} {y : Nat → Nat} {a : Int32} {b : Int32} {c : Int32} {e : Int32} (hs : Sg h.1 y) : Tr 1 m_X1_keyOf [.int a, .int b, .int c, .int e] h (fun o h2 => o = .inl (some (.long (keyv a b c e))) ∧ h2 = h) :=
  Tr.ca (w_X1_keyOf (d := 0) (Nat.le_refl _) hs ⟨rfl, rfl⟩)
theorem w_X1_exponentIn {d : Nat} {h : XH} {y : Nat → Nat} {K : XK} {E : XE} {a : Int64} {b : Int32} (hd : 0 ≤ d) (hs : Sg h.1 y) (H : K (some (.int (((((a >>> (((10 * (4 - b)) : Int32).toInt64 &&& 63)) &&& 1023) - 512) : Int64).toInt32))) h) : Ca (d + 1) m_X1_exponentIn [.long a, .int b] h K E := by
  refine Ca.of ⟨by show 3 ≤ 3; omega, rfl⟩ ?_
  show Ex d [] tb_X1_exponentIn (0, [some (.long a), none, some (.int b)], []) h _
  refine Ex.pure 12 (fr2 := (17, [some (.long a), none, some (.int b)], [.int (((((a >>> (((10 * (4 - b)) : Int32).toInt64 &&& 63)) &&& 1023) - 512) : Int64).toInt32)])) rfl ?_
  exact Ex.iret rfl (Or.inl rfl) H
theorem t_X1_exponentIn {h : XH} {y : Nat → Nat} {a : Int64} {b : Int32} (hs : Sg h.1 y) : Tr 1 m_X1_exponentIn [.long a, .int b] h (fun o h2 => o = .inl (some (.int (xpin a b))) ∧ h2 = h) :=
  Tr.ca (w_X1_exponentIn (d := 0) (Nat.le_refl _) hs ⟨rfl, rfl⟩)
