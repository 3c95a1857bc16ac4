/-! ===== layer 2: small methods ===== -/
theorem unt_ne (a : Int32) : ¬ unt a = 0 := by
  unfold unt
  repeat' split
  all_goals decide
theorem w_X5_value {d : Nat} {h : XH} {y : Nat → Nat} {K : XK} {E : XE} (hd : 0 ≤ d) (hs : Sg h.1 y) (H : K (some (.long (h.2.2.1 18 0))) h) : Ca (d + 1) m_X5_value [.ref 18] h K E := by
  refine Ca.of ⟨by show 1 ≤ 1; omega, rfl⟩ ?_
  show Ex d [] tb_X5_value (0, [some (.ref 18)], []) h _
  refine Ex.pure 1 (fr2 := (1, [some (.ref 18)], [.ref 18])) rfl ?_
  refine Ex.getJ rfl (sg_18 hs) ?_
  exact Ex.lret rfl H
theorem t_X5_value {h : XH} {y : Nat → Nat} (hs : Sg h.1 y) : Tr 1 m_X5_value [.ref 18] h (fun o h2 => o = .inl (some (.long (h.2.2.1 18 0))) ∧ h2 = h) :=
  Tr.ca (w_X5_value (d := 0) (Nat.le_refl _) hs ⟨rfl, rfl⟩)
theorem w_X5_length {d : Nat} {h : XH} {y : Nat → Nat} {K : XK} {E : XE} (hd : 0 ≤ d) (hs : Sg h.1 y) (H : K (some (.int (h.2.1 18 3))) h) : Ca (d + 1) m_X5_length [.ref 18] h K E := by
  refine Ca.of ⟨by show 1 ≤ 1; omega, rfl⟩ ?_
  show Ex d [] tb_X5_length (0, [some (.ref 18)], []) h _
  refine Ex.pure 1 (fr2 := (1, [some (.ref 18)], [.ref 18])) rfl ?_
  refine Ex.getI rfl (Or.inl rfl) (sg_18 hs) ?_
  exact Ex.iret rfl (Or.inl rfl) H
theorem t_X5_length {h : XH} {y : Nat → Nat} (hs : Sg h.1 y) : Tr 1 m_X5_length [.ref 18] h (fun o h2 => o = .inl (some (.int (h.2.1 18 3))) ∧ h2 = h) :=
  Tr.ca (w_X5_length (d := 0) (Nat.le_refl _) hs ⟨rfl, rfl⟩)
theorem w_X4_growth {d : Nat} {h : XH} {y : Nat → Nat} {K : XK} {E : XE} (hd : 0 ≤ d) (hs : Sg h.1 y) (H : K (some (.ref (y 8))) h) : Ca (d + 1) m_X4_growth [.ref 19] h K E := by
  refine Ca.of ⟨by show 1 ≤ 1; omega, rfl⟩ ?_
  show Ex d [] tb_X4_growth (0, [some (.ref 19)], []) h _
  refine Ex.pure 1 (fr2 := (1, [some (.ref 19)], [.ref 19])) rfl ?_
  refine Ex.getQ rfl (sg_19 hs) rfl ?_
  exact Ex.aret rfl H
theorem t_X4_growth {h : XH} {y : Nat → Nat} (hs : Sg h.1 y) : Tr 1 m_X4_growth [.ref 19] h (fun o h2 => o = .inl (some (.ref (y 8))) ∧ h2 = h) :=
  Tr.ca (w_X4_growth (d := 0) (Nat.le_refl _) hs ⟨rfl, rfl⟩)
theorem w_J6_compare_7cf53 {d : Nat} {h : XH} {y : Nat → Nat} {K : XK} {E : XE} {a : Int32} {b : Int32} (hd : 0 ≤ d) (hs : Sg h.1 y) (H : (b ≤ a → (¬ a = b → K (some (.int 1)) h) ∧ (¬ (¬ a = b) → K (some (.int 0)) h)) ∧ (¬ (b ≤ a) → K (some (.int (-1))) h)) : Ca (d + 1) m_J6_compare_7cf53 [.int a, .int b] h K E := by
  refine Ca.of ⟨by show 2 ≤ 2; omega, rfl⟩ ?_
  show Ex d [] tb_J6_compare_7cf53 (0, [some (.int a), some (.int b)], []) h _
  refine Ex.pure 2 (fr2 := (2, [some (.int a), some (.int b)], [.int b, .int a])) rfl ?_
  refine Ex.br (x := (9, [some (.int a), some (.int b)], [])) (y := (5, [some (.int a), some (.int b)], [])) (b := b ≤ a) rfl (fun hb => ?_) (fun hb => ?_)
  · replace H := H.1 (hb)
    refine Ex.pure 2 (fr2 := (11, [some (.int a), some (.int b)], [.int b, .int a])) rfl ?_
    refine Ex.br (x := (18, [some (.int a), some (.int b)], [])) (y := (14, [some (.int a), some (.int b)], [])) (b := ¬ a = b) rfl (fun hb => ?_) (fun hb => ?_)
    · replace H := H.1 (hb)
      refine Ex.pure 1 (fr2 := (19, [some (.int a), some (.int b)], [.int 1])) rfl ?_
      exact Ex.iret rfl (Or.inl rfl) H
    · replace H := H.2 (hb)
      refine Ex.pure 2 (fr2 := (19, [some (.int a), some (.int b)], [.int 0])) rfl ?_
      exact Ex.iret rfl (Or.inl rfl) H
  · replace H := H.2 (hb)
    refine Ex.pure 2 (fr2 := (19, [some (.int a), some (.int b)], [.int (-1)])) rfl ?_
    exact Ex.iret rfl (Or.inl rfl) H
theorem t_J6_compare_7cf53 {h : XH} {y : Nat → Nat} {a : Int32} {b : Int32} (hs : Sg h.1 y) : Tr 1 m_J6_compare_7cf53 [.int a, .int b] h (fun o h2 => o = .inl (some (.int (c_I a b))) ∧ h2 = h) :=
  Tr.ca (w_J6_compare_7cf53 (d := 0) (Nat.le_refl _) hs ⟨fun h1 => ⟨fun h2 => ⟨by rw [c_I, if_neg (i_nlt.mpr h1), if_neg h2], rfl⟩, fun h2 => ⟨by rw [c_I, if_neg (i_nlt.mpr h1), if_pos (Classical.not_not.mp h2)], rfl⟩⟩, fun h1 => ⟨by rw [c_I, if_pos (i_nle.mp h1)], rfl⟩⟩)
theorem w_J13_compare_74951 {d : Nat} {h : XH} {y : Nat → Nat} {K : XK} {E : XE} {a : Int64} {b : Int64} (hd : 0 ≤ d) (hs : Sg h.1 y) (H : (b ≤ a → (¬ a = b → K (some (.int 1)) h) ∧ (¬ (¬ a = b) → K (some (.int 0)) h)) ∧ (¬ (b ≤ a) → K (some (.int (-1))) h)) : Ca (d + 1) m_J13_compare_74951 [.long a, .long b] h K E := by
  refine Ca.of ⟨by show 4 ≤ 4; omega, rfl⟩ ?_
  show Ex d [] tb_J13_compare_74951 (0, [some (.long a), none, some (.long b), none], []) h _
  refine Ex.pure 3 (fr2 := (3, [some (.long a), none, some (.long b), none], [.int (lg_cmp a b)])) rfl ?_
  refine Ex.br (x := (10, [some (.long a), none, some (.long b), none], [])) (y := (6, [some (.long a), none, some (.long b), none], [])) (b := 0 ≤ (lg_cmp a b)) rfl (fun hb => ?_) (fun hb => ?_)
  · replace H := H.1 ((lg_cmp_ge _ _).mp hb)
    refine Ex.pure 3 (fr2 := (13, [some (.long a), none, some (.long b), none], [.int (lg_cmp a b)])) rfl ?_
    refine Ex.br (x := (20, [some (.long a), none, some (.long b), none], [])) (y := (16, [some (.long a), none, some (.long b), none], [])) (b := ¬ (lg_cmp a b) = 0) rfl (fun hb => ?_) (fun hb => ?_)
    · replace H := H.1 (fun z => hb ((lg_cmp_eq _ _).mpr z))
      refine Ex.pure 1 (fr2 := (21, [some (.long a), none, some (.long b), none], [.int 1])) rfl ?_
      exact Ex.iret rfl (Or.inl rfl) H
    · replace H := H.2 (fun z => hb (fun w => z ((lg_cmp_eq _ _).mp w)))
      refine Ex.pure 2 (fr2 := (21, [some (.long a), none, some (.long b), none], [.int 0])) rfl ?_
      exact Ex.iret rfl (Or.inl rfl) H
  · replace H := H.2 (fun z => hb ((lg_cmp_ge _ _).mpr z))
    refine Ex.pure 2 (fr2 := (21, [some (.long a), none, some (.long b), none], [.int (-1)])) rfl ?_
    exact Ex.iret rfl (Or.inl rfl) H
theorem t_J13_compare_74951 {h : XH} {y : Nat → Nat} {a : Int64} {b : Int64} (hs : Sg h.1 y) : Tr 1 m_J13_compare_74951 [.long a, .long b] h (fun o h2 => o = .inl (some (.int (c_J a b))) ∧ h2 = h) :=
  Tr.ca (w_J13_compare_74951 (d := 0) (Nat.le_refl _) hs ⟨fun h1 => ⟨fun h2 => ⟨by rw [c_J, if_neg (j_nlt.mpr h1), if_neg h2], rfl⟩, fun h2 => ⟨by rw [c_J, if_neg (j_nlt.mpr h1), if_pos (Classical.not_not.mp h2)], rfl⟩⟩, fun h1 => ⟨by rw [c_J, if_pos (j_nle.mp h1)], rfl⟩⟩)
theorem w_X6_numberFits {d : Nat} {h : XH} {y : Nat → Nat} {K : XK} {E : XE} {a : Int64} (hd : 0 ≤ d) (hs : Sg h.1 y) (H : (a < (-268435456) → K (some (.int 0)) h) ∧ (¬ (a < (-268435456)) → (268435456 < a → K (some (.int 0)) h) ∧ (¬ (268435456 < a) → K (some (.int 1)) h))) : Ca (d + 1) m_X6_numberFits [.long a] h K E := by
  refine Ca.of ⟨by show 2 ≤ 2; omega, rfl⟩ ?_
  show Ex d [] tb_X6_numberFits (0, [some (.long a), none], []) h _
  refine Ex.pure 3 (fr2 := (5, [some (.long a), none], [.int (lg_cmp a (-268435456))])) rfl ?_
  refine Ex.br (x := (20, [some (.long a), none], [])) (y := (8, [some (.long a), none], [])) (b := (lg_cmp a (-268435456)) < 0) rfl (fun hb => ?_) (fun hb => ?_)
  · replace H := H.1 ((lg_cmp_lt _ _).mp hb)
    refine Ex.pure 1 (fr2 := (21, [some (.long a), none], [.int 0])) rfl ?_
    exact Ex.iret rfl (Or.inr ⟨rfl, by decide⟩) H
  · replace H := H.2 (fun z => hb ((lg_cmp_lt _ _).mpr z))
    refine Ex.pure 3 (fr2 := (13, [some (.long a), none], [.int (lg_cmp a 268435456)])) rfl ?_
    refine Ex.br (x := (20, [some (.long a), none], [])) (y := (16, [some (.long a), none], [])) (b := 0 < (lg_cmp a 268435456)) rfl (fun hb => ?_) (fun hb => ?_)
    · replace H := H.1 ((lg_cmp_gt _ _).mp hb)
      refine Ex.pure 1 (fr2 := (21, [some (.long a), none], [.int 0])) rfl ?_
      exact Ex.iret rfl (Or.inr ⟨rfl, by decide⟩) H
    · replace H := H.2 (fun z => hb ((lg_cmp_gt _ _).mpr z))
      refine Ex.pure 2 (fr2 := (21, [some (.long a), none], [.int 1])) rfl ?_
      exact Ex.iret rfl (Or.inr ⟨rfl, by decide⟩) H
theorem t_X6_numberFits {h : XH} {y : Nat → Nat} {a : Int64} (hs : Sg h.1 y) : Tr 1 m_X6_numberFits [.long a] h (fun o h2 => o = .inl (some (.int (bi ((-268435456) ≤ a ∧ a ≤ 268435456)))) ∧ h2 = h) :=
  Tr.ca (w_X6_numberFits (d := 0) (Nat.le_refl _) hs ⟨fun h1 => ⟨by rw [bi_f (fun z => j_nle.mpr h1 z.1)], rfl⟩, fun h1 => ⟨fun h2 => ⟨by rw [bi_f (fun z => j_nle.mpr h2 z.2)], rfl⟩, fun h2 => ⟨by rw [bi_t ⟨j_nlt.mp h1, j_nlt.mp h2⟩], rfl⟩⟩⟩)
theorem w_X1_keyOf {d : Nat} {h : XH} {y : Nat → Nat} {K : XK} {E : XE} {a : Int32} {b : Int32} {c : Int32} {e : Int32} (hd : 0 ≤ d) (hs : Sg h.1 y) (H : K (some (.long ((((550293209600 + ((a : Int32).toInt64 <<< ((30 : Int32).toInt64 &&& 63))) + ((b : Int32).toInt64 <<< ((20 : Int32).toInt64 &&& 63))) + ((c : Int32).toInt64 <<< ((10 : Int32).toInt64 &&& 63))) + (e : Int32).toInt64))) h) : Ca (d + 1) m_X1_keyOf [.int a, .int b, .int c, .int e] h K E := by
  refine Ca.of ⟨by show 4 ≤ 4; omega, rfl⟩ ?_
  show Ex d [] tb_X1_keyOf (0, [some (.int a), some (.int b), some (.int c), some (.int e)], []) h _
  refine Ex.pure 19 (fr2 := (24, [some (.int a), some (.int b), some (.int c), some (.int e)], [.long ((((550293209600 + ((a : Int32).toInt64 <<< ((30 : Int32).toInt64 &&& 63))) + ((b : Int32).toInt64 <<< ((20 : Int32).toInt64 &&& 63))) + ((c : Int32).toInt64 <<< ((10 : Int32).toInt64 &&& 63))) + (e : Int32).toInt64)])) rfl ?_
  exact Ex.lret rfl H
theorem t_X1_keyOf {h : XH} {y : Nat → Nat} {a : Int32} {b : Int32} {c : Int32} {e : Int32} (hs : Sg h.1 y) : Tr 1 m_X1_keyOf [.int a, .int b, .int c, .int e] h (fun o h2 => o = .inl (some (.long (keyv a b c e))) ∧ h2 = h) :=
  Tr.ca (w_X1_keyOf (d := 0) (Nat.le_refl _) hs ⟨rfl, rfl⟩)
theorem w_X1_exponentIn {d : Nat} {h : XH} {y : Nat → Nat} {K : XK} {E : XE} {a : Int64} {b : Int32} (hd : 0 ≤ d) (hs : Sg h.1 y) (H : K (some (.int (((((a >>> (((10 * (4 - b)) : Int32).toInt64 &&& 63)) &&& 1023) - 512) : Int64).toInt32))) h) : Ca (d + 1) m_X1_exponentIn [.long a, .int b] h K E := by
  refine Ca.of ⟨by show 3 ≤ 3; omega, rfl⟩ ?_
  show Ex d [] tb_X1_exponentIn (0, [some (.long a), none, some (.int b)], []) h _
  refine Ex.pure 12 (fr2 := (17, [some (.long a), none, some (.int b)], [.int (((((a >>> (((10 * (4 - b)) : Int32).toInt64 &&& 63)) &&& 1023) - 512) : Int64).toInt32)])) rfl ?_
  exact Ex.iret rfl (Or.inl rfl) H
theorem t_X1_exponentIn {h : XH} {y : Nat → Nat} {a : Int64} {b : Int32} (hs : Sg h.1 y) : Tr 1 m_X1_exponentIn [.long a, .int b] h (fun o h2 => o = .inl (some (.int (xpin a b))) ∧ h2 = h) :=
  Tr.ca (w_X1_exponentIn (d := 0) (Nat.le_refl _) hs ⟨rfl, rfl⟩)
