/-! ===== layer 2: the class itself by blocks, written by a program ===== -/
theorem w_X6_kind {d : Nat} {h : XH} {y : Nat → Nat} {K : XK} {E : XE} {a : Int32} (hd : 20 ≤ d) (hs : Sg h.1 y) (H : (Ca d m_X6_needPlace [.int a] h (fun rv h1 => rv = none ∧ Sg h1.1 y ∧ K (some (.int (g_I h1 2 16 a))) h1) E)) : Ca (d + 1) m_X6_kind [.ref 1, .int a] h K E := by
  refine Ca.of ⟨by show 2 ≤ 2; omega, rfl⟩ ?_
  show Ex d [] tb_X6_kind (0, [some (.ref 1), some (.int a)], []) h _
  refine Ex.pure 1 (fr2 := (1, [some (.ref 1), some (.int a)], [.int a])) rfl ?_
  refine Ex.cal (rest := []) (j := m_X6_needPlace) (as := [.int a]) (fun c => rfl) (H.imp ?_)
  intro rv h1 H
  obtain ⟨rfl, H⟩ := H
  obtain ⟨hs, H⟩ := H
  show Ex d [] tb_X6_kind (4, [some (.ref 1), some (.int a)], []) h1 _
  refine Ex.pure 1 (fr2 := (5, [some (.ref 1), some (.int a)], [.ref 1])) rfl ?_
  refine Ex.getQ rfl (sg_1 hs) rfl ?_
  refine Ex.pure 1 (fr2 := (9, [some (.ref 1), some (.int a)], [.int a, .ref 2])) rfl ?_
  refine Ex.ask (rest := []) (j := m_X3_at) (as := [.ref 2, .int a]) (fun c => rfl) ((t_X3_at (d := 0) (sg_2 hs) (by omega)).mono (by omega) (fun _ _ z => z)) ?_
  rintro _ h0 ⟨rfl, e0⟩
  rw [e0]
  show Ex d [] tb_X6_kind (12, [some (.ref 1), some (.int a)], [.int (g_I h1 2 16 a)]) h1 _
  exact Ex.iret rfl (Or.inl rfl) H
theorem w_X6_finite {d : Nat} {h : XH} {y : Nat → Nat} {K : XK} {E : XE} {a : Int32} {b : Int32} (hd : 20 ≤ d) (hs : Sg h.1 y) (H : (Ca d m_X6_needPlace [.int a] h (fun rv h1 => rv = none ∧ Sg h1.1 y ∧ (Ca d m_X6_needRange [.int b, .int 0, .int 1000000] h1 (fun rv h3 => rv = none ∧ Sg h3.1 y ∧ (Ca d m_X2_powerOf [.ref 6, .int 0, .int b] h3 (fun rv h5 => ∃ x6, rv = some (.int x6) ∧ ∃ y7 : Nat → Nat, Sg h5.1 y7 ∧ (Ca d m_X6_keepOrdinal [.ref 1, .int a, .int x6] h5 (fun rv h8 => rv = none ∧ Sg h8.1 y7 ∧ K none h8) E)) E)) E)) E)) : Ca (d + 1) m_X6_finite [.ref 1, .int a, .int b] h K E := by
  refine Ca.of ⟨by show 3 ≤ 3; omega, rfl⟩ ?_
  show Ex d [] tb_X6_finite (0, [some (.ref 1), some (.int a), some (.int b)], []) h _
  refine Ex.pure 1 (fr2 := (1, [some (.ref 1), some (.int a), some (.int b)], [.int a])) rfl ?_
  refine Ex.cal (rest := []) (j := m_X6_needPlace) (as := [.int a]) (fun c => rfl) (H.imp ?_)
  intro rv h1 H
  obtain ⟨rfl, H⟩ := H
  obtain ⟨hs, H⟩ := H
  show Ex d [] tb_X6_finite (4, [some (.ref 1), some (.int a), some (.int b)], []) h1 _
  refine Ex.pure 3 (fr2 := (8, [some (.ref 1), some (.int a), some (.int b)], [.int 1000000, .int 0, .int b])) rfl ?_
  refine Ex.cal (rest := []) (j := m_X6_needRange) (as := [.int b, .int 0, .int 1000000]) (fun c => rfl) (H.imp ?_)
  intro rv h3 H
  obtain ⟨rfl, H⟩ := H
  obtain ⟨hs, H⟩ := H
  show Ex d [] tb_X6_finite (11, [some (.ref 1), some (.int a), some (.int b)], []) h3 _
  refine Ex.pure 3 (fr2 := (14, [some (.ref 1), some (.int a), some (.int b)], [.ref 1, .int a, .ref 1])) rfl ?_
  refine Ex.getQ rfl (sg_1 hs) rfl ?_
  refine Ex.pure 2 (fr2 := (19, [some (.ref 1), some (.int a), some (.int b)], [.int b, .int 0, .ref 6, .int a, .ref 1])) rfl ?_
  refine Ex.cal (rest := [.int a, .ref 1]) (j := m_X2_powerOf) (as := [.ref 6, .int 0, .int b]) (vst (a := 27) (b := 3) (c := 2) (rest := [.int a, .ref 1]) (vs := [.int 0, .int b]) rfl ⟨Nat.le_of_ble_eq_true rfl, Nat.le_of_ble_eq_true rfl⟩ rfl rfl (sg_6 hs)) (H.imp ?_)
  intro rv h5 H
  obtain ⟨x6, rfl, H⟩ := H
  obtain ⟨y7, hs, H⟩ := H
  show Ex d [] tb_X6_finite (22, [some (.ref 1), some (.int a), some (.int b)], [.int x6, .int a, .ref 1]) h5 _
  refine Ex.cal (rest := []) (j := m_X6_keepOrdinal) (as := [.ref 1, .int a, .int x6]) (vst (a := 102) (b := 3) (c := 5) (rest := []) (vs := [.int a, .int x6]) rfl ⟨Nat.le_of_ble_eq_true rfl, Nat.le_of_ble_eq_true rfl⟩ rfl rfl (sg_1 hs)) (H.imp ?_)
  intro rv h8 H
  obtain ⟨rfl, H⟩ := H
  obtain ⟨hs, H⟩ := H
  show Ex d [] tb_X6_finite (25, [some (.ref 1), some (.int a), some (.int b)], []) h8 _
  exact Ex.vret rfl H
theorem w_X6_omega {d : Nat} {h : XH} {y : Nat → Nat} {K : XK} {E : XE} {a : Int32} {b : Int32} (hd : 20 ≤ d) (hs : Sg h.1 y) (H : (Ca d m_X6_needPlace [.int a] h (fun rv h1 => rv = none ∧ Sg h1.1 y ∧ (Ca d m_X6_needPlace [.int b] h1 (fun rv h3 => rv = none ∧ Sg h3.1 y ∧ (Ca d m_X6_ordinalAt [.ref 1, .int b] h3 (fun rv h5 => ∃ x6, rv = some (.int x6) ∧ Sg h5.1 y ∧ (Ca d m_X2_powerOf [.ref 6, .int x6, .int 1] h5 (fun rv h7 => ∃ x8, rv = some (.int x8) ∧ ∃ y9 : Nat → Nat, Sg h7.1 y9 ∧ (Ca d m_X6_keepOrdinal [.ref 1, .int a, .int x8] h7 (fun rv h10 => rv = none ∧ Sg h10.1 y9 ∧ K none h10) E)) E)) E)) E)) E)) : Ca (d + 1) m_X6_omega [.ref 1, .int a, .int b] h K E := by
  refine Ca.of ⟨by show 3 ≤ 3; omega, rfl⟩ ?_
  show Ex d [] tb_X6_omega (0, [some (.ref 1), some (.int a), some (.int b)], []) h _
  refine Ex.pure 1 (fr2 := (1, [some (.ref 1), some (.int a), some (.int b)], [.int a])) rfl ?_
  refine Ex.cal (rest := []) (j := m_X6_needPlace) (as := [.int a]) (fun c => rfl) (H.imp ?_)
  intro rv h1 H
  obtain ⟨rfl, H⟩ := H
  obtain ⟨hs, H⟩ := H
  show Ex d [] tb_X6_omega (4, [some (.ref 1), some (.int a), some (.int b)], []) h1 _
  refine Ex.pure 1 (fr2 := (5, [some (.ref 1), some (.int a), some (.int b)], [.int b])) rfl ?_
  refine Ex.cal (rest := []) (j := m_X6_needPlace) (as := [.int b]) (fun c => rfl) (H.imp ?_)
  intro rv h3 H
  obtain ⟨rfl, H⟩ := H
  obtain ⟨hs, H⟩ := H
  show Ex d [] tb_X6_omega (8, [some (.ref 1), some (.int a), some (.int b)], []) h3 _
  refine Ex.pure 3 (fr2 := (11, [some (.ref 1), some (.int a), some (.int b)], [.ref 1, .int a, .ref 1])) rfl ?_
  refine Ex.getQ rfl (sg_1 hs) rfl ?_
  refine Ex.pure 2 (fr2 := (16, [some (.ref 1), some (.int a), some (.int b)], [.int b, .ref 1, .ref 6, .int a, .ref 1])) rfl ?_
  refine Ex.cal (rest := [.ref 6, .int a, .ref 1]) (j := m_X6_ordinalAt) (as := [.ref 1, .int b]) (vst (a := 97) (b := 2) (c := 5) (rest := [.ref 6, .int a, .ref 1]) (vs := [.int b]) rfl ⟨Nat.le_of_ble_eq_true rfl, Nat.le_of_ble_eq_true rfl⟩ rfl rfl (sg_1 hs)) (H.imp ?_)
  intro rv h5 H
  obtain ⟨x6, rfl, H⟩ := H
  obtain ⟨hs, H⟩ := H
  show Ex d [] tb_X6_omega (19, [some (.ref 1), some (.int a), some (.int b)], [.int x6, .ref 6, .int a, .ref 1]) h5 _
  refine Ex.pure 1 (fr2 := (20, [some (.ref 1), some (.int a), some (.int b)], [.int 1, .int x6, .ref 6, .int a, .ref 1])) rfl ?_
  refine Ex.cal (rest := [.int a, .ref 1]) (j := m_X2_powerOf) (as := [.ref 6, .int x6, .int 1]) (vst (a := 27) (b := 3) (c := 2) (rest := [.int a, .ref 1]) (vs := [.int x6, .int 1]) rfl ⟨Nat.le_of_ble_eq_true rfl, Nat.le_of_ble_eq_true rfl⟩ rfl rfl (sg_6 hs)) (H.imp ?_)
  intro rv h7 H
  obtain ⟨x8, rfl, H⟩ := H
  obtain ⟨y9, hs, H⟩ := H
  show Ex d [] tb_X6_omega (23, [some (.ref 1), some (.int a), some (.int b)], [.int x8, .int a, .ref 1]) h7 _
  refine Ex.cal (rest := []) (j := m_X6_keepOrdinal) (as := [.ref 1, .int a, .int x8]) (vst (a := 102) (b := 3) (c := 5) (rest := []) (vs := [.int a, .int x8]) rfl ⟨Nat.le_of_ble_eq_true rfl, Nat.le_of_ble_eq_true rfl⟩ rfl rfl (sg_1 hs)) (H.imp ?_)
  intro rv h10 H
  obtain ⟨rfl, H⟩ := H
  obtain ⟨hs, H⟩ := H
  show Ex d [] tb_X6_omega (26, [some (.ref 1), some (.int a), some (.int b)], []) h10 _
  exact Ex.vret rfl H
theorem w_X6_number {d : Nat} {h : XH} {y : Nat → Nat} {K : XK} {E : XE} {a : Int32} {b : Int32} {c : Int32} (hd : 20 ≤ d) (hs : Sg h.1 y) (H : (Ca d m_X6_needPlace [.int a] h (fun rv h1 => rv = none ∧ Sg h1.1 y ∧ (Ca d m_X6_needRange [.int c, .int 0, .int 20] h1 (fun rv h3 => rv = none ∧ Sg h3.1 y ∧ ((-268435456 ≤ ((b : Int32).toInt64 <<< (((20 - c) : Int32).toInt64 &&& 63)) ∧ ((b : Int32).toInt64 <<< (((20 - c) : Int32).toInt64 &&& 63)) ≤ 268435456) → (Ca d m_X6_keepNumber [.ref 1, .int a, .long ((b : Int32).toInt64 <<< (((20 - c) : Int32).toInt64 &&& 63))] h3 (fun rv h6 => rv = none ∧ Sg h6.1 y ∧ K none h6) E)) ∧ (¬ (-268435456 ≤ ((b : Int32).toInt64 <<< (((20 - c) : Int32).toInt64 &&& 63)) ∧ ((b : Int32).toInt64 <<< (((20 - c) : Int32).toInt64 &&& 63)) ≤ 268435456) → E 2 (x_new h3 (4, 2, []) 6))) E)) E)) : Ca (d + 1) m_X6_number [.ref 1, .int a, .int b, .int c] h K E := by
  refine Ca.of ⟨by show 4 ≤ 6; omega, rfl⟩ ?_
  show Ex d [] tb_X6_number (0, [some (.ref 1), some (.int a), some (.int b), some (.int c), none, none], []) h _
  refine Ex.pure 1 (fr2 := (1, [some (.ref 1), some (.int a), some (.int b), some (.int c), none, none], [.int a])) rfl ?_
  refine Ex.cal (rest := []) (j := m_X6_needPlace) (as := [.int a]) (fun c => rfl) (H.imp ?_)
  intro rv h1 H
  obtain ⟨rfl, H⟩ := H
  obtain ⟨hs, H⟩ := H
  show Ex d [] tb_X6_number (4, [some (.ref 1), some (.int a), some (.int b), some (.int c), none, none], []) h1 _
  refine Ex.pure 3 (fr2 := (8, [some (.ref 1), some (.int a), some (.int b), some (.int c), none, none], [.int 20, .int 0, .int c])) rfl ?_
  refine Ex.cal (rest := []) (j := m_X6_needRange) (as := [.int c, .int 0, .int 20]) (fun c => rfl) (H.imp ?_)
  intro rv h3 H
  obtain ⟨rfl, H⟩ := H
  obtain ⟨hs, H⟩ := H
  show Ex d [] tb_X6_number (11, [some (.ref 1), some (.int a), some (.int b), some (.int c), none, none], []) h3 _
  refine Ex.pure 8 (fr2 := (22, [some (.ref 1), some (.int a), some (.int b), some (.int c), some (.long ((b : Int32).toInt64 <<< (((20 - c) : Int32).toInt64 &&& 63))), none], [.long ((b : Int32).toInt64 <<< (((20 - c) : Int32).toInt64 &&& 63))])) rfl ?_
  refine Ex.ask (rest := []) (j := m_X6_numberFits) (as := [.long ((b : Int32).toInt64 <<< (((20 - c) : Int32).toInt64 &&& 63))]) (fun c => rfl) ((t_X6_numberFits hs).mono (by omega) (fun _ _ z => z)) ?_
  rintro _ h0 ⟨rfl, e0⟩
  rw [e0]
  show Ex d [] tb_X6_number (25, [some (.ref 1), some (.int a), some (.int b), some (.int c), some (.long ((b : Int32).toInt64 <<< (((20 - c) : Int32).toInt64 &&& 63))), none], [.int (bi (-268435456 ≤ ((b : Int32).toInt64 <<< (((20 - c) : Int32).toInt64 &&& 63)) ∧ ((b : Int32).toInt64 <<< (((20 - c) : Int32).toInt64 &&& 63)) ≤ 268435456))]) h3 _
  refine Ex.br (x := (38, [some (.ref 1), some (.int a), some (.int b), some (.int c), some (.long ((b : Int32).toInt64 <<< (((20 - c) : Int32).toInt64 &&& 63))), none], [])) (y := (28, [some (.ref 1), some (.int a), some (.int b), some (.int c), some (.long ((b : Int32).toInt64 <<< (((20 - c) : Int32).toInt64 &&& 63))), none], [])) (b := ¬ (bi (-268435456 ≤ ((b : Int32).toInt64 <<< (((20 - c) : Int32).toInt64 &&& 63)) ∧ ((b : Int32).toInt64 <<< (((20 - c) : Int32).toInt64 &&& 63)) ≤ 268435456)) = 0) rfl (fun hb => ?_) (fun hb => ?_)
  · replace H := H.1 (bi_ne.mp hb)
    refine Ex.pure 3 (fr2 := (42, [some (.ref 1), some (.int a), some (.int b), some (.int c), some (.long ((b : Int32).toInt64 <<< (((20 - c) : Int32).toInt64 &&& 63))), none], [.long ((b : Int32).toInt64 <<< (((20 - c) : Int32).toInt64 &&& 63)), .int a, .ref 1])) rfl ?_
    refine Ex.cal (rest := []) (j := m_X6_keepNumber) (as := [.ref 1, .int a, .long ((b : Int32).toInt64 <<< (((20 - c) : Int32).toInt64 &&& 63))]) (vst (a := 103) (b := 3) (c := 5) (rest := []) (vs := [.int a, .long ((b : Int32).toInt64 <<< (((20 - c) : Int32).toInt64 &&& 63))]) rfl ⟨Nat.le_of_ble_eq_true rfl, Nat.le_of_ble_eq_true rfl⟩ rfl rfl (sg_1 hs)) (H.imp ?_)
    intro rv h6 H
    obtain ⟨rfl, H⟩ := H
    obtain ⟨hs, H⟩ := H
    show Ex d [] tb_X6_number (45, [some (.ref 1), some (.int a), some (.int b), some (.int c), some (.long ((b : Int32).toInt64 <<< (((20 - c) : Int32).toInt64 &&& 63))), none], []) h6 _
    exact Ex.vret rfl H
  · replace H := H.2 (bi_nne.mp hb)
    exact Ex.thr rfl (by decide) H
theorem w_X6_signs {d : Nat} {h : XH} {y : Nat → Nat} {K : XK} {E : XE} {a : Int32} {b : Int32} {c : Int32} (hd : 20 ≤ d) (hs : Sg h.1 y) (H : (Ca d m_X6_needPlace [.int a] h (fun rv h1 => rv = none ∧ Sg h1.1 y ∧ (Ca d m_X6_needRange [.int c, .int 0, .int 20] h1 (fun rv h3 => rv = none ∧ Sg h3.1 y ∧ (Ca d m_X6_needRange [.int b, .int 0, .int ((1 <<< (c &&& 31)) - 1)] h3 (fun rv h5 => rv = none ∧ Sg h5.1 y ∧ (Ca d m_X5_along [.ref 18, .int b, .int c] h5 (fun rv h7 => rv = none ∧ Sg h7.1 y ∧ (Ca d m_X6_keepNumber [.ref 1, .int a, .long (h7.2.2.1 18 0)] h7 (fun rv h10 => rv = none ∧ Sg h10.1 y ∧ K none h10) E)) E)) E)) E)) E)) : Ca (d + 1) m_X6_signs [.ref 1, .int a, .int b, .int c] h K E := by
  refine Ca.of ⟨by show 4 ≤ 4; omega, rfl⟩ ?_
  show Ex d [] tb_X6_signs (0, [some (.ref 1), some (.int a), some (.int b), some (.int c)], []) h _
  refine Ex.pure 1 (fr2 := (1, [some (.ref 1), some (.int a), some (.int b), some (.int c)], [.int a])) rfl ?_
  refine Ex.cal (rest := []) (j := m_X6_needPlace) (as := [.int a]) (fun c => rfl) (H.imp ?_)
  intro rv h1 H
  obtain ⟨rfl, H⟩ := H
  obtain ⟨hs, H⟩ := H
  show Ex d [] tb_X6_signs (4, [some (.ref 1), some (.int a), some (.int b), some (.int c)], []) h1 _
  refine Ex.pure 3 (fr2 := (8, [some (.ref 1), some (.int a), some (.int b), some (.int c)], [.int 20, .int 0, .int c])) rfl ?_
  refine Ex.cal (rest := []) (j := m_X6_needRange) (as := [.int c, .int 0, .int 20]) (fun c => rfl) (H.imp ?_)
  intro rv h3 H
  obtain ⟨rfl, H⟩ := H
  obtain ⟨hs, H⟩ := H
  show Ex d [] tb_X6_signs (11, [some (.ref 1), some (.int a), some (.int b), some (.int c)], []) h3 _
  refine Ex.pure 7 (fr2 := (18, [some (.ref 1), some (.int a), some (.int b), some (.int c)], [.int ((1 <<< (c &&& 31)) - 1), .int 0, .int b])) rfl ?_
  refine Ex.cal (rest := []) (j := m_X6_needRange) (as := [.int b, .int 0, .int ((1 <<< (c &&& 31)) - 1)]) (fun c => rfl) (H.imp ?_)
  intro rv h5 H
  obtain ⟨rfl, H⟩ := H
  obtain ⟨hs, H⟩ := H
  show Ex d [] tb_X6_signs (21, [some (.ref 1), some (.int a), some (.int b), some (.int c)], []) h5 _
  refine Ex.pure 1 (fr2 := (22, [some (.ref 1), some (.int a), some (.int b), some (.int c)], [.ref 1])) rfl ?_
  refine Ex.getQ rfl (sg_1 hs) rfl ?_
  refine Ex.pure 2 (fr2 := (27, [some (.ref 1), some (.int a), some (.int b), some (.int c)], [.int c, .int b, .ref 18])) rfl ?_
  refine Ex.cal (rest := []) (j := m_X5_along) (as := [.ref 18, .int b, .int c]) (vst (a := 63) (b := 3) (c := 4) (rest := []) (vs := [.int b, .int c]) rfl ⟨Nat.le_of_ble_eq_true rfl, Nat.le_of_ble_eq_true rfl⟩ rfl rfl (sg_18 hs)) (H.imp ?_)
  intro rv h7 H
  obtain ⟨rfl, H⟩ := H
  obtain ⟨hs, H⟩ := H
  show Ex d [] tb_X6_signs (30, [some (.ref 1), some (.int a), some (.int b), some (.int c)], []) h7 _
  refine Ex.pure 3 (fr2 := (33, [some (.ref 1), some (.int a), some (.int b), some (.int c)], [.ref 1, .int a, .ref 1])) rfl ?_
  refine Ex.getQ rfl (sg_1 hs) rfl ?_
  refine Ex.ask (rest := [.int a, .ref 1]) (j := m_X5_value) (as := [.ref 18]) (vst (a := 60) (b := 1) (c := 4) (rest := [.int a, .ref 1]) (vs := []) rfl ⟨Nat.le_of_ble_eq_true rfl, Nat.le_of_ble_eq_true rfl⟩ rfl rfl (sg_18 hs)) ((t_X5_value hs).mono (by omega) (fun _ _ z => z)) ?_
  rintro _ h0 ⟨rfl, e0⟩
  rw [e0]
  show Ex d [] tb_X6_signs (39, [some (.ref 1), some (.int a), some (.int b), some (.int c)], [.long (h7.2.2.1 18 0), .int a, .ref 1]) h7 _
  refine Ex.cal (rest := []) (j := m_X6_keepNumber) (as := [.ref 1, .int a, .long (h7.2.2.1 18 0)]) (vst (a := 103) (b := 3) (c := 5) (rest := []) (vs := [.int a, .long (h7.2.2.1 18 0)]) rfl ⟨Nat.le_of_ble_eq_true rfl, Nat.le_of_ble_eq_true rfl⟩ rfl rfl (sg_1 hs)) (H.imp ?_)
  intro rv h10 H
  obtain ⟨rfl, H⟩ := H
  obtain ⟨hs, H⟩ := H
  show Ex d [] tb_X6_signs (42, [some (.ref 1), some (.int a), some (.int b), some (.int c)], []) h10 _
  exact Ex.vret rfl H
theorem w_X6_term {d : Nat} {h : XH} {y : Nat → Nat} {K : XK} {E : XE} {a : Int32} {b : Int32} {c : Int32} {e : Int32} {f : Int32} {g : Int32} (hd : 20 ≤ d) (hs : Sg h.1 y) (H : (Ca d m_X6_needPlace [.int a] h (fun rv h1 => rv = none ∧ Sg h1.1 y ∧ (Ca d m_X6_needRange [.int b, .int (-1000000), .int 1000000] h1 (fun rv h3 => rv = none ∧ Sg h3.1 y ∧ (Ca d m_X6_needRange [.int c, .int (-20), .int 20] h3 (fun rv h5 => rv = none ∧ Sg h5.1 y ∧ (Ca d m_X6_needRange [.int e, .int (-20), .int 20] h5 (fun rv h7 => rv = none ∧ Sg h7.1 y ∧ (Ca d m_X6_needRange [.int f, .int (-20), .int 20] h7 (fun rv h9 => rv = none ∧ Sg h9.1 y ∧ (Ca d m_X6_needRange [.int g, .int (-20), .int 20] h9 (fun rv h11 => rv = none ∧ Sg h11.1 y ∧ (Ca d m_X4_restart [.ref 19] h11 (fun rv h13 => rv = none ∧ Sg h13.1 y ∧ (Ca d m_X4_addPart [.ref 19, .long ((b : Int32).toInt64), .long (keyv c e f g)] h13 (fun rv h16 => rv = none ∧ ∃ y18 : Nat → Nat, Sg h16.1 y18 ∧ (Ca d m_X6_keepGrowth [.ref 1, .int a] h16 (fun rv h19 => rv = none ∧ Sg h19.1 y18 ∧ K none h19) E)) E)) E)) E)) E)) E)) E)) E)) E)) : Ca (d + 1) m_X6_term [.ref 1, .int a, .int b, .int c, .int e, .int f, .int g] h K E := by
  refine Ca.of ⟨by show 7 ≤ 7; omega, rfl⟩ ?_
  show Ex d [] tb_X6_term (0, [some (.ref 1), some (.int a), some (.int b), some (.int c), some (.int e), some (.int f), some (.int g)], []) h _
  refine Ex.pure 1 (fr2 := (1, [some (.ref 1), some (.int a), some (.int b), some (.int c), some (.int e), some (.int f), some (.int g)], [.int a])) rfl ?_
  refine Ex.cal (rest := []) (j := m_X6_needPlace) (as := [.int a]) (fun c => rfl) (H.imp ?_)
  intro rv h1 H
  obtain ⟨rfl, H⟩ := H
  obtain ⟨hs, H⟩ := H
  show Ex d [] tb_X6_term (4, [some (.ref 1), some (.int a), some (.int b), some (.int c), some (.int e), some (.int f), some (.int g)], []) h1 _
  refine Ex.pure 3 (fr2 := (9, [some (.ref 1), some (.int a), some (.int b), some (.int c), some (.int e), some (.int f), some (.int g)], [.int 1000000, .int (-1000000), .int b])) rfl ?_
  refine Ex.cal (rest := []) (j := m_X6_needRange) (as := [.int b, .int (-1000000), .int 1000000]) (fun c => rfl) (H.imp ?_)
  intro rv h3 H
  obtain ⟨rfl, H⟩ := H
  obtain ⟨hs, H⟩ := H
  show Ex d [] tb_X6_term (12, [some (.ref 1), some (.int a), some (.int b), some (.int c), some (.int e), some (.int f), some (.int g)], []) h3 _
  refine Ex.pure 3 (fr2 := (17, [some (.ref 1), some (.int a), some (.int b), some (.int c), some (.int e), some (.int f), some (.int g)], [.int 20, .int (-20), .int c])) rfl ?_
  refine Ex.cal (rest := []) (j := m_X6_needRange) (as := [.int c, .int (-20), .int 20]) (fun c => rfl) (H.imp ?_)
  intro rv h5 H
  obtain ⟨rfl, H⟩ := H
  obtain ⟨hs, H⟩ := H
  show Ex d [] tb_X6_term (20, [some (.ref 1), some (.int a), some (.int b), some (.int c), some (.int e), some (.int f), some (.int g)], []) h5 _
  refine Ex.pure 3 (fr2 := (26, [some (.ref 1), some (.int a), some (.int b), some (.int c), some (.int e), some (.int f), some (.int g)], [.int 20, .int (-20), .int e])) rfl ?_
  refine Ex.cal (rest := []) (j := m_X6_needRange) (as := [.int e, .int (-20), .int 20]) (fun c => rfl) (H.imp ?_)
  intro rv h7 H
  obtain ⟨rfl, H⟩ := H
  obtain ⟨hs, H⟩ := H
  show Ex d [] tb_X6_term (29, [some (.ref 1), some (.int a), some (.int b), some (.int c), some (.int e), some (.int f), some (.int g)], []) h7 _
  refine Ex.pure 3 (fr2 := (35, [some (.ref 1), some (.int a), some (.int b), some (.int c), some (.int e), some (.int f), some (.int g)], [.int 20, .int (-20), .int f])) rfl ?_
  refine Ex.cal (rest := []) (j := m_X6_needRange) (as := [.int f, .int (-20), .int 20]) (fun c => rfl) (H.imp ?_)
  intro rv h9 H
  obtain ⟨rfl, H⟩ := H
  obtain ⟨hs, H⟩ := H
  show Ex d [] tb_X6_term (38, [some (.ref 1), some (.int a), some (.int b), some (.int c), some (.int e), some (.int f), some (.int g)], []) h9 _
  refine Ex.pure 3 (fr2 := (44, [some (.ref 1), some (.int a), some (.int b), some (.int c), some (.int e), some (.int f), some (.int g)], [.int 20, .int (-20), .int g])) rfl ?_
  refine Ex.cal (rest := []) (j := m_X6_needRange) (as := [.int g, .int (-20), .int 20]) (fun c => rfl) (H.imp ?_)
  intro rv h11 H
  obtain ⟨rfl, H⟩ := H
  obtain ⟨hs, H⟩ := H
  show Ex d [] tb_X6_term (47, [some (.ref 1), some (.int a), some (.int b), some (.int c), some (.int e), some (.int f), some (.int g)], []) h11 _
  refine Ex.pure 1 (fr2 := (48, [some (.ref 1), some (.int a), some (.int b), some (.int c), some (.int e), some (.int f), some (.int g)], [.ref 1])) rfl ?_
  refine Ex.getQ rfl (sg_1 hs) rfl ?_
  refine Ex.cal (rest := []) (j := m_X4_restart) (as := [.ref 19]) (vst (a := 54) (b := 1) (c := 3) (rest := []) (vs := []) rfl ⟨Nat.le_of_ble_eq_true rfl, Nat.le_of_ble_eq_true rfl⟩ rfl rfl (sg_19 hs)) (H.imp ?_)
  intro rv h13 H
  obtain ⟨rfl, H⟩ := H
  obtain ⟨hs, H⟩ := H
  show Ex d [] tb_X6_term (54, [some (.ref 1), some (.int a), some (.int b), some (.int c), some (.int e), some (.int f), some (.int g)], []) h13 _
  refine Ex.pure 1 (fr2 := (55, [some (.ref 1), some (.int a), some (.int b), some (.int c), some (.int e), some (.int f), some (.int g)], [.ref 1])) rfl ?_
  refine Ex.getQ rfl (sg_1 hs) rfl ?_
  refine Ex.pure 6 (fr2 := (67, [some (.ref 1), some (.int a), some (.int b), some (.int c), some (.int e), some (.int f), some (.int g)], [.int g, .int f, .int e, .int c, .long ((b : Int32).toInt64), .ref 19])) rfl ?_
  refine Ex.ask (rest := [.long ((b : Int32).toInt64), .ref 19]) (j := m_X1_keyOf) (as := [.int c, .int e, .int f, .int g]) (fun c => rfl) ((t_X1_keyOf hs).mono (by omega) (fun _ _ z => z)) ?_
  rintro _ h0 ⟨rfl, e0⟩
  rw [e0]
  show Ex d [] tb_X6_term (70, [some (.ref 1), some (.int a), some (.int b), some (.int c), some (.int e), some (.int f), some (.int g)], [.long (keyv c e f g), .long ((b : Int32).toInt64), .ref 19]) h13 _
  refine Ex.cal (rest := []) (j := m_X4_addPart) (as := [.ref 19, .long ((b : Int32).toInt64), .long (keyv c e f g)]) (vst (a := 55) (b := 3) (c := 3) (rest := []) (vs := [.long ((b : Int32).toInt64), .long (keyv c e f g)]) rfl ⟨Nat.le_of_ble_eq_true rfl, Nat.le_of_ble_eq_true rfl⟩ rfl rfl (sg_19 hs)) (H.imp ?_)
  intro rv h16 H
  obtain ⟨rfl, H⟩ := H
  obtain ⟨y18, hs, H⟩ := H
  show Ex d [] tb_X6_term (73, [some (.ref 1), some (.int a), some (.int b), some (.int c), some (.int e), some (.int f), some (.int g)], []) h16 _
  refine Ex.pure 2 (fr2 := (75, [some (.ref 1), some (.int a), some (.int b), some (.int c), some (.int e), some (.int f), some (.int g)], [.int a, .ref 1])) rfl ?_
  refine Ex.cal (rest := []) (j := m_X6_keepGrowth) (as := [.ref 1, .int a]) (vst (a := 104) (b := 2) (c := 5) (rest := []) (vs := [.int a]) rfl ⟨Nat.le_of_ble_eq_true rfl, Nat.le_of_ble_eq_true rfl⟩ rfl rfl (sg_1 hs)) (H.imp ?_)
  intro rv h19 H
  obtain ⟨rfl, H⟩ := H
  obtain ⟨hs, H⟩ := H
  show Ex d [] tb_X6_term (78, [some (.ref 1), some (.int a), some (.int b), some (.int c), some (.int e), some (.int f), some (.int g)], []) h19 _
  exact Ex.vret rfl H
theorem w_X6_sum {d : Nat} {h : XH} {y : Nat → Nat} {K : XK} {E : XE} {a : Int32} {b : Int32} {c : Int32} (hd : 20 ≤ d) (hs : Sg h.1 y) (H : (Ca d m_X6_needThree [.int a, .int b, .int c] h (fun rv h1 => rv = none ∧ Sg h1.1 y ∧ (Ca d m_X6_commonKind [.ref 1, .int b, .int c] h1 (fun rv h3 => ∃ x4, rv = some (.int x4) ∧ Sg h3.1 y ∧ (¬ x4 = 1 → (¬ x4 = 2 → (Ca d m_X6_growthAt [.ref 1, .int b] h3 (fun rv h5 => ∃ x6, rv = some (.ref x6) ∧ Sg h5.1 y ∧ ∃ n_x6, Gq h5.1 x6 n_x6 ∧ n_x6 < 2 ^ 31 ∧ (Ca d m_X6_growthAt [.ref 1, .int c] h5 (fun rv h7 => ∃ x8, rv = some (.ref x8) ∧ Sg h7.1 y ∧ Gq h7.1 x6 n_x6 ∧ ∃ n_x8, Gq h7.1 x8 n_x8 ∧ n_x8 < 2 ^ 31 ∧ (Ca d m_X6_addGrowths [.ref 1, .ref x6, .ref x8, .int 1] h7 (fun rv h9 => rv = none ∧ ∃ y11 : Nat → Nat, Sg h9.1 y11 ∧ Gq h9.1 x6 n_x6 ∧ Gq h9.1 x8 n_x8 ∧ (Ca d m_X6_keepGrowth [.ref 1, .int a] h9 (fun rv h12 => rv = none ∧ Sg h12.1 y11 ∧ Gq h12.1 x6 n_x6 ∧ Gq h12.1 x8 n_x8 ∧ K (some (.int x4)) h12) E)) E)) E)) E)) ∧ (¬ (¬ x4 = 2) → (Ca d m_X6_numberAt [.ref 1, .int b] h3 (fun rv h14 => ∃ x15, rv = some (.long x15) ∧ Sg h14.1 y ∧ (Ca d m_X6_numberAt [.ref 1, .int c] h14 (fun rv h16 => ∃ x17, rv = some (.long x17) ∧ Sg h16.1 y ∧ (Ca d m_X6_keepNumber [.ref 1, .int a, .long (x15 + x17)] h16 (fun rv h18 => rv = none ∧ Sg h18.1 y ∧ K (some (.int x4)) h18) E)) E)) E))) ∧ (¬ (¬ x4 = 1) → (Ca d m_X6_ordinalAt [.ref 1, .int b] h3 (fun rv h20 => ∃ x21, rv = some (.int x21) ∧ Sg h20.1 y ∧ (Ca d m_X6_ordinalAt [.ref 1, .int c] h20 (fun rv h22 => ∃ x23, rv = some (.int x23) ∧ Sg h22.1 y ∧ (Ca d m_X2_added [.ref 6, .int x21, .int x23] h22 (fun rv h24 => ∃ x25, rv = some (.int x25) ∧ ∃ y26 : Nat → Nat, Sg h24.1 y26 ∧ (Ca d m_X6_keepOrdinal [.ref 1, .int a, .int x25] h24 (fun rv h27 => rv = none ∧ Sg h27.1 y26 ∧ K (some (.int x4)) h27) E)) E)) E)) E))) E)) E)) : Ca (d + 1) m_X6_sum [.ref 1, .int a, .int b, .int c] h K E := by
  refine Ca.of ⟨by show 4 ≤ 5; omega, rfl⟩ ?_
  show Ex d [] tb_X6_sum (0, [some (.ref 1), some (.int a), some (.int b), some (.int c), none], []) h _
  refine Ex.pure 3 (fr2 := (3, [some (.ref 1), some (.int a), some (.int b), some (.int c), none], [.int c, .int b, .int a])) rfl ?_
  refine Ex.cal (rest := []) (j := m_X6_needThree) (as := [.int a, .int b, .int c]) (fun c => rfl) (H.imp ?_)
  intro rv h1 H
  obtain ⟨rfl, H⟩ := H
  obtain ⟨hs, H⟩ := H
  show Ex d [] tb_X6_sum (6, [some (.ref 1), some (.int a), some (.int b), some (.int c), none], []) h1 _
  refine Ex.pure 3 (fr2 := (9, [some (.ref 1), some (.int a), some (.int b), some (.int c), none], [.int c, .int b, .ref 1])) rfl ?_
  refine Ex.cal (rest := []) (j := m_X6_commonKind) (as := [.ref 1, .int b, .int c]) (vst (a := 96) (b := 3) (c := 5) (rest := []) (vs := [.int b, .int c]) rfl ⟨Nat.le_of_ble_eq_true rfl, Nat.le_of_ble_eq_true rfl⟩ rfl rfl (sg_1 hs)) (H.imp ?_)
  intro rv h3 H
  obtain ⟨x4, rfl, H⟩ := H
  obtain ⟨hs, H⟩ := H
  show Ex d [] tb_X6_sum (12, [some (.ref 1), some (.int a), some (.int b), some (.int c), none], [.int x4]) h3 _
  refine Ex.pure 3 (fr2 := (17, [some (.ref 1), some (.int a), some (.int b), some (.int c), some (.int x4)], [.int 1, .int x4])) rfl ?_
  refine Ex.br (x := (45, [some (.ref 1), some (.int a), some (.int b), some (.int c), some (.int x4)], [])) (y := (20, [some (.ref 1), some (.int a), some (.int b), some (.int c), some (.int x4)], [])) (b := ¬ x4 = 1) rfl (fun hb => ?_) (fun hb => ?_)
  · replace H := H.1 (hb)
    refine Ex.pure 2 (fr2 := (48, [some (.ref 1), some (.int a), some (.int b), some (.int c), some (.int x4)], [.int 2, .int x4])) rfl ?_
    refine Ex.br (x := (70, [some (.ref 1), some (.int a), some (.int b), some (.int c), some (.int x4)], [])) (y := (51, [some (.ref 1), some (.int a), some (.int b), some (.int c), some (.int x4)], [])) (b := ¬ x4 = 2) rfl (fun hb => ?_) (fun hb => ?_)
    · replace H := H.1 (hb)
      refine Ex.pure 3 (fr2 := (73, [some (.ref 1), some (.int a), some (.int b), some (.int c), some (.int x4)], [.int b, .ref 1, .ref 1])) rfl ?_
      refine Ex.cal (rest := [.ref 1]) (j := m_X6_growthAt) (as := [.ref 1, .int b]) (vst (a := 100) (b := 2) (c := 5) (rest := [.ref 1]) (vs := [.int b]) rfl ⟨Nat.le_of_ble_eq_true rfl, Nat.le_of_ble_eq_true rfl⟩ rfl rfl (sg_1 hs)) (H.imp ?_)
      intro rv h5 H
      obtain ⟨x6, rfl, H⟩ := H
      obtain ⟨hs, H⟩ := H
      obtain ⟨n_x6, ho_x6, hn_x6, H⟩ := H
      show Ex d [] tb_X6_sum (76, [some (.ref 1), some (.int a), some (.int b), some (.int c), some (.int x4)], [.ref x6, .ref 1]) h5 _
      refine Ex.pure 2 (fr2 := (78, [some (.ref 1), some (.int a), some (.int b), some (.int c), some (.int x4)], [.int c, .ref 1, .ref x6, .ref 1])) rfl ?_
      refine Ex.cal (rest := [.ref x6, .ref 1]) (j := m_X6_growthAt) (as := [.ref 1, .int c]) (vst (a := 100) (b := 2) (c := 5) (rest := [.ref x6, .ref 1]) (vs := [.int c]) rfl ⟨Nat.le_of_ble_eq_true rfl, Nat.le_of_ble_eq_true rfl⟩ rfl rfl (sg_1 hs)) (H.imp ?_)
      intro rv h7 H
      obtain ⟨x8, rfl, H⟩ := H
      obtain ⟨hs, H⟩ := H
      obtain ⟨ho_x6, H⟩ := H
      obtain ⟨n_x8, ho_x8, hn_x8, H⟩ := H
      show Ex d [] tb_X6_sum (81, [some (.ref 1), some (.int a), some (.int b), some (.int c), some (.int x4)], [.ref x8, .ref x6, .ref 1]) h7 _
      refine Ex.pure 1 (fr2 := (82, [some (.ref 1), some (.int a), some (.int b), some (.int c), some (.int x4)], [.int 1, .ref x8, .ref x6, .ref 1])) rfl ?_
      refine Ex.cal (rest := []) (j := m_X6_addGrowths) (as := [.ref 1, .ref x6, .ref x8, .int 1]) (vst (a := 109) (b := 4) (c := 5) (rest := []) (vs := [.ref x6, .ref x8, .int 1]) rfl ⟨Nat.le_of_ble_eq_true rfl, Nat.le_of_ble_eq_true rfl⟩ rfl rfl (sg_1 hs)) (H.imp ?_)
      intro rv h9 H
      obtain ⟨rfl, H⟩ := H
      obtain ⟨y11, hs, H⟩ := H
      obtain ⟨ho_x6, H⟩ := H
      obtain ⟨ho_x8, H⟩ := H
      show Ex d [] tb_X6_sum (85, [some (.ref 1), some (.int a), some (.int b), some (.int c), some (.int x4)], []) h9 _
      refine Ex.pure 2 (fr2 := (87, [some (.ref 1), some (.int a), some (.int b), some (.int c), some (.int x4)], [.int a, .ref 1])) rfl ?_
      refine Ex.cal (rest := []) (j := m_X6_keepGrowth) (as := [.ref 1, .int a]) (vst (a := 104) (b := 2) (c := 5) (rest := []) (vs := [.int a]) rfl ⟨Nat.le_of_ble_eq_true rfl, Nat.le_of_ble_eq_true rfl⟩ rfl rfl (sg_1 hs)) (H.imp ?_)
      intro rv h12 H
      obtain ⟨rfl, H⟩ := H
      obtain ⟨hs, H⟩ := H
      obtain ⟨ho_x6, H⟩ := H
      obtain ⟨ho_x8, H⟩ := H
      show Ex d [] tb_X6_sum (90, [some (.ref 1), some (.int a), some (.int b), some (.int c), some (.int x4)], []) h12 _
      refine Ex.pure 1 (fr2 := (92, [some (.ref 1), some (.int a), some (.int b), some (.int c), some (.int x4)], [.int x4])) rfl ?_
      exact Ex.iret rfl (Or.inl rfl) H
    · replace H := H.2 (hb)
      refine Ex.pure 4 (fr2 := (55, [some (.ref 1), some (.int a), some (.int b), some (.int c), some (.int x4)], [.int b, .ref 1, .int a, .ref 1])) rfl ?_
      refine Ex.cal (rest := [.int a, .ref 1]) (j := m_X6_numberAt) (as := [.ref 1, .int b]) (vst (a := 99) (b := 2) (c := 5) (rest := [.int a, .ref 1]) (vs := [.int b]) rfl ⟨Nat.le_of_ble_eq_true rfl, Nat.le_of_ble_eq_true rfl⟩ rfl rfl (sg_1 hs)) (H.imp ?_)
      intro rv h14 H
      obtain ⟨x15, rfl, H⟩ := H
      obtain ⟨hs, H⟩ := H
      show Ex d [] tb_X6_sum (58, [some (.ref 1), some (.int a), some (.int b), some (.int c), some (.int x4)], [.long x15, .int a, .ref 1]) h14 _
      refine Ex.pure 2 (fr2 := (60, [some (.ref 1), some (.int a), some (.int b), some (.int c), some (.int x4)], [.int c, .ref 1, .long x15, .int a, .ref 1])) rfl ?_
      refine Ex.cal (rest := [.long x15, .int a, .ref 1]) (j := m_X6_numberAt) (as := [.ref 1, .int c]) (vst (a := 99) (b := 2) (c := 5) (rest := [.long x15, .int a, .ref 1]) (vs := [.int c]) rfl ⟨Nat.le_of_ble_eq_true rfl, Nat.le_of_ble_eq_true rfl⟩ rfl rfl (sg_1 hs)) (H.imp ?_)
      intro rv h16 H
      obtain ⟨x17, rfl, H⟩ := H
      obtain ⟨hs, H⟩ := H
      show Ex d [] tb_X6_sum (63, [some (.ref 1), some (.int a), some (.int b), some (.int c), some (.int x4)], [.long x17, .long x15, .int a, .ref 1]) h16 _
      refine Ex.pure 1 (fr2 := (64, [some (.ref 1), some (.int a), some (.int b), some (.int c), some (.int x4)], [.long (x15 + x17), .int a, .ref 1])) rfl ?_
      refine Ex.cal (rest := []) (j := m_X6_keepNumber) (as := [.ref 1, .int a, .long (x15 + x17)]) (vst (a := 103) (b := 3) (c := 5) (rest := []) (vs := [.int a, .long (x15 + x17)]) rfl ⟨Nat.le_of_ble_eq_true rfl, Nat.le_of_ble_eq_true rfl⟩ rfl rfl (sg_1 hs)) (H.imp ?_)
      intro rv h18 H
      obtain ⟨rfl, H⟩ := H
      obtain ⟨hs, H⟩ := H
      show Ex d [] tb_X6_sum (67, [some (.ref 1), some (.int a), some (.int b), some (.int c), some (.int x4)], []) h18 _
      refine Ex.pure 2 (fr2 := (92, [some (.ref 1), some (.int a), some (.int b), some (.int c), some (.int x4)], [.int x4])) rfl ?_
      exact Ex.iret rfl (Or.inl rfl) H
  · replace H := H.2 (hb)
    refine Ex.pure 3 (fr2 := (23, [some (.ref 1), some (.int a), some (.int b), some (.int c), some (.int x4)], [.ref 1, .int a, .ref 1])) rfl ?_
    refine Ex.getQ rfl (sg_1 hs) rfl ?_
    refine Ex.pure 2 (fr2 := (28, [some (.ref 1), some (.int a), some (.int b), some (.int c), some (.int x4)], [.int b, .ref 1, .ref 6, .int a, .ref 1])) rfl ?_
    refine Ex.cal (rest := [.ref 6, .int a, .ref 1]) (j := m_X6_ordinalAt) (as := [.ref 1, .int b]) (vst (a := 97) (b := 2) (c := 5) (rest := [.ref 6, .int a, .ref 1]) (vs := [.int b]) rfl ⟨Nat.le_of_ble_eq_true rfl, Nat.le_of_ble_eq_true rfl⟩ rfl rfl (sg_1 hs)) (H.imp ?_)
    intro rv h20 H
    obtain ⟨x21, rfl, H⟩ := H
    obtain ⟨hs, H⟩ := H
    show Ex d [] tb_X6_sum (31, [some (.ref 1), some (.int a), some (.int b), some (.int c), some (.int x4)], [.int x21, .ref 6, .int a, .ref 1]) h20 _
    refine Ex.pure 2 (fr2 := (33, [some (.ref 1), some (.int a), some (.int b), some (.int c), some (.int x4)], [.int c, .ref 1, .int x21, .ref 6, .int a, .ref 1])) rfl ?_
    refine Ex.cal (rest := [.int x21, .ref 6, .int a, .ref 1]) (j := m_X6_ordinalAt) (as := [.ref 1, .int c]) (vst (a := 97) (b := 2) (c := 5) (rest := [.int x21, .ref 6, .int a, .ref 1]) (vs := [.int c]) rfl ⟨Nat.le_of_ble_eq_true rfl, Nat.le_of_ble_eq_true rfl⟩ rfl rfl (sg_1 hs)) (H.imp ?_)
    intro rv h22 H
    obtain ⟨x23, rfl, H⟩ := H
    obtain ⟨hs, H⟩ := H
    show Ex d [] tb_X6_sum (36, [some (.ref 1), some (.int a), some (.int b), some (.int c), some (.int x4)], [.int x23, .int x21, .ref 6, .int a, .ref 1]) h22 _
    refine Ex.cal (rest := [.int a, .ref 1]) (j := m_X2_added) (as := [.ref 6, .int x21, .int x23]) (vst (a := 28) (b := 3) (c := 2) (rest := [.int a, .ref 1]) (vs := [.int x21, .int x23]) rfl ⟨Nat.le_of_ble_eq_true rfl, Nat.le_of_ble_eq_true rfl⟩ rfl rfl (sg_6 hs)) (H.imp ?_)
    intro rv h24 H
    obtain ⟨x25, rfl, H⟩ := H
    obtain ⟨y26, hs, H⟩ := H
    show Ex d [] tb_X6_sum (39, [some (.ref 1), some (.int a), some (.int b), some (.int c), some (.int x4)], [.int x25, .int a, .ref 1]) h24 _
    refine Ex.cal (rest := []) (j := m_X6_keepOrdinal) (as := [.ref 1, .int a, .int x25]) (vst (a := 102) (b := 3) (c := 5) (rest := []) (vs := [.int a, .int x25]) rfl ⟨Nat.le_of_ble_eq_true rfl, Nat.le_of_ble_eq_true rfl⟩ rfl rfl (sg_1 hs)) (H.imp ?_)
    intro rv h27 H
    obtain ⟨rfl, H⟩ := H
    obtain ⟨hs, H⟩ := H
    show Ex d [] tb_X6_sum (42, [some (.ref 1), some (.int a), some (.int b), some (.int c), some (.int x4)], []) h27 _
    refine Ex.pure 2 (fr2 := (92, [some (.ref 1), some (.int a), some (.int b), some (.int c), some (.int x4)], [.int x4])) rfl ?_
    exact Ex.iret rfl (Or.inl rfl) H
theorem w_X6_product {d : Nat} {h : XH} {y : Nat → Nat} {K : XK} {E : XE} {a : Int32} {b : Int32} {c : Int32} (hd : 20 ≤ d) (hs : Sg h.1 y) (H : (Ca d m_X6_needThree [.int a, .int b, .int c] h (fun rv h1 => rv = none ∧ Sg h1.1 y ∧ (Ca d m_X6_commonKind [.ref 1, .int b, .int c] h1 (fun rv h3 => ∃ x4, rv = some (.int x4) ∧ Sg h3.1 y ∧ (¬ x4 = 1 → (¬ x4 = 2 → (Ca d m_X6_growthAt [.ref 1, .int b] h3 (fun rv h5 => ∃ x6, rv = some (.ref x6) ∧ Sg h5.1 y ∧ ∃ n_x6, Gq h5.1 x6 n_x6 ∧ n_x6 < 2 ^ 31 ∧ (Ca d m_X6_growthAt [.ref 1, .int c] h5 (fun rv h7 => ∃ x8, rv = some (.ref x8) ∧ Sg h7.1 y ∧ Gq h7.1 x6 n_x6 ∧ ∃ n_x8, Gq h7.1 x8 n_x8 ∧ n_x8 < 2 ^ 31 ∧ (Ca d m_X6_multiplyGrowths [.ref 1, .ref x6, .ref x8] h7 (fun rv h9 => rv = none ∧ ∃ y11 : Nat → Nat, Sg h9.1 y11 ∧ Gq h9.1 x6 n_x6 ∧ Gq h9.1 x8 n_x8 ∧ (Ca d m_X6_keepGrowth [.ref 1, .int a] h9 (fun rv h12 => rv = none ∧ Sg h12.1 y11 ∧ Gq h12.1 x6 n_x6 ∧ Gq h12.1 x8 n_x8 ∧ K (some (.int x4)) h12) E)) E)) E)) E)) ∧ (¬ (¬ x4 = 2) → (Ca d m_X6_numberAt [.ref 1, .int b] h3 (fun rv h14 => ∃ x15, rv = some (.long x15) ∧ Sg h14.1 y ∧ (Ca d m_X6_numberAt [.ref 1, .int c] h14 (fun rv h16 => ∃ x17, rv = some (.long x17) ∧ Sg h16.1 y ∧ (Ca d m_X6_multipliedNumbers [.long x15, .long x17] h16 (fun rv h18 => ∃ x19, rv = some (.long x19) ∧ Sg h18.1 y ∧ (Ca d m_X6_keepNumber [.ref 1, .int a, .long x19] h18 (fun rv h20 => rv = none ∧ Sg h20.1 y ∧ K (some (.int x4)) h20) E)) E)) E)) E))) ∧ (¬ (¬ x4 = 1) → (Ca d m_X6_ordinalAt [.ref 1, .int b] h3 (fun rv h22 => ∃ x23, rv = some (.int x23) ∧ Sg h22.1 y ∧ (Ca d m_X6_ordinalAt [.ref 1, .int c] h22 (fun rv h24 => ∃ x25, rv = some (.int x25) ∧ Sg h24.1 y ∧ (Ca d m_X2_multiplied [.ref 6, .int x23, .int x25] h24 (fun rv h26 => ∃ x27, rv = some (.int x27) ∧ ∃ y28 : Nat → Nat, Sg h26.1 y28 ∧ (Ca d m_X6_keepOrdinal [.ref 1, .int a, .int x27] h26 (fun rv h29 => rv = none ∧ Sg h29.1 y28 ∧ K (some (.int x4)) h29) E)) E)) E)) E))) E)) E)) : Ca (d + 1) m_X6_product [.ref 1, .int a, .int b, .int c] h K E := by
  refine Ca.of ⟨by show 4 ≤ 5; omega, rfl⟩ ?_
  show Ex d [] tb_X6_product (0, [some (.ref 1), some (.int a), some (.int b), some (.int c), none], []) h _
  refine Ex.pure 3 (fr2 := (3, [some (.ref 1), some (.int a), some (.int b), some (.int c), none], [.int c, .int b, .int a])) rfl ?_
  refine Ex.cal (rest := []) (j := m_X6_needThree) (as := [.int a, .int b, .int c]) (fun c => rfl) (H.imp ?_)
  intro rv h1 H
  obtain ⟨rfl, H⟩ := H
  obtain ⟨hs, H⟩ := H
  show Ex d [] tb_X6_product (6, [some (.ref 1), some (.int a), some (.int b), some (.int c), none], []) h1 _
  refine Ex.pure 3 (fr2 := (9, [some (.ref 1), some (.int a), some (.int b), some (.int c), none], [.int c, .int b, .ref 1])) rfl ?_
  refine Ex.cal (rest := []) (j := m_X6_commonKind) (as := [.ref 1, .int b, .int c]) (vst (a := 96) (b := 3) (c := 5) (rest := []) (vs := [.int b, .int c]) rfl ⟨Nat.le_of_ble_eq_true rfl, Nat.le_of_ble_eq_true rfl⟩ rfl rfl (sg_1 hs)) (H.imp ?_)
  intro rv h3 H
  obtain ⟨x4, rfl, H⟩ := H
  obtain ⟨hs, H⟩ := H
  show Ex d [] tb_X6_product (12, [some (.ref 1), some (.int a), some (.int b), some (.int c), none], [.int x4]) h3 _
  refine Ex.pure 3 (fr2 := (17, [some (.ref 1), some (.int a), some (.int b), some (.int c), some (.int x4)], [.int 1, .int x4])) rfl ?_
  refine Ex.br (x := (45, [some (.ref 1), some (.int a), some (.int b), some (.int c), some (.int x4)], [])) (y := (20, [some (.ref 1), some (.int a), some (.int b), some (.int c), some (.int x4)], [])) (b := ¬ x4 = 1) rfl (fun hb => ?_) (fun hb => ?_)
  · replace H := H.1 (hb)
    refine Ex.pure 2 (fr2 := (48, [some (.ref 1), some (.int a), some (.int b), some (.int c), some (.int x4)], [.int 2, .int x4])) rfl ?_
    refine Ex.br (x := (72, [some (.ref 1), some (.int a), some (.int b), some (.int c), some (.int x4)], [])) (y := (51, [some (.ref 1), some (.int a), some (.int b), some (.int c), some (.int x4)], [])) (b := ¬ x4 = 2) rfl (fun hb => ?_) (fun hb => ?_)
    · replace H := H.1 (hb)
      refine Ex.pure 3 (fr2 := (75, [some (.ref 1), some (.int a), some (.int b), some (.int c), some (.int x4)], [.int b, .ref 1, .ref 1])) rfl ?_
      refine Ex.cal (rest := [.ref 1]) (j := m_X6_growthAt) (as := [.ref 1, .int b]) (vst (a := 100) (b := 2) (c := 5) (rest := [.ref 1]) (vs := [.int b]) rfl ⟨Nat.le_of_ble_eq_true rfl, Nat.le_of_ble_eq_true rfl⟩ rfl rfl (sg_1 hs)) (H.imp ?_)
      intro rv h5 H
      obtain ⟨x6, rfl, H⟩ := H
      obtain ⟨hs, H⟩ := H
      obtain ⟨n_x6, ho_x6, hn_x6, H⟩ := H
      show Ex d [] tb_X6_product (78, [some (.ref 1), some (.int a), some (.int b), some (.int c), some (.int x4)], [.ref x6, .ref 1]) h5 _
      refine Ex.pure 2 (fr2 := (80, [some (.ref 1), some (.int a), some (.int b), some (.int c), some (.int x4)], [.int c, .ref 1, .ref x6, .ref 1])) rfl ?_
      refine Ex.cal (rest := [.ref x6, .ref 1]) (j := m_X6_growthAt) (as := [.ref 1, .int c]) (vst (a := 100) (b := 2) (c := 5) (rest := [.ref x6, .ref 1]) (vs := [.int c]) rfl ⟨Nat.le_of_ble_eq_true rfl, Nat.le_of_ble_eq_true rfl⟩ rfl rfl (sg_1 hs)) (H.imp ?_)
      intro rv h7 H
      obtain ⟨x8, rfl, H⟩ := H
      obtain ⟨hs, H⟩ := H
      obtain ⟨ho_x6, H⟩ := H
      obtain ⟨n_x8, ho_x8, hn_x8, H⟩ := H
      show Ex d [] tb_X6_product (83, [some (.ref 1), some (.int a), some (.int b), some (.int c), some (.int x4)], [.ref x8, .ref x6, .ref 1]) h7 _
      refine Ex.cal (rest := []) (j := m_X6_multiplyGrowths) (as := [.ref 1, .ref x6, .ref x8]) (vst (a := 110) (b := 3) (c := 5) (rest := []) (vs := [.ref x6, .ref x8]) rfl ⟨Nat.le_of_ble_eq_true rfl, Nat.le_of_ble_eq_true rfl⟩ rfl rfl (sg_1 hs)) (H.imp ?_)
      intro rv h9 H
      obtain ⟨rfl, H⟩ := H
      obtain ⟨y11, hs, H⟩ := H
      obtain ⟨ho_x6, H⟩ := H
      obtain ⟨ho_x8, H⟩ := H
      show Ex d [] tb_X6_product (86, [some (.ref 1), some (.int a), some (.int b), some (.int c), some (.int x4)], []) h9 _
      refine Ex.pure 2 (fr2 := (88, [some (.ref 1), some (.int a), some (.int b), some (.int c), some (.int x4)], [.int a, .ref 1])) rfl ?_
      refine Ex.cal (rest := []) (j := m_X6_keepGrowth) (as := [.ref 1, .int a]) (vst (a := 104) (b := 2) (c := 5) (rest := []) (vs := [.int a]) rfl ⟨Nat.le_of_ble_eq_true rfl, Nat.le_of_ble_eq_true rfl⟩ rfl rfl (sg_1 hs)) (H.imp ?_)
      intro rv h12 H
      obtain ⟨rfl, H⟩ := H
      obtain ⟨hs, H⟩ := H
      obtain ⟨ho_x6, H⟩ := H
      obtain ⟨ho_x8, H⟩ := H
      show Ex d [] tb_X6_product (91, [some (.ref 1), some (.int a), some (.int b), some (.int c), some (.int x4)], []) h12 _
      refine Ex.pure 1 (fr2 := (93, [some (.ref 1), some (.int a), some (.int b), some (.int c), some (.int x4)], [.int x4])) rfl ?_
      exact Ex.iret rfl (Or.inl rfl) H
    · replace H := H.2 (hb)
      refine Ex.pure 4 (fr2 := (55, [some (.ref 1), some (.int a), some (.int b), some (.int c), some (.int x4)], [.int b, .ref 1, .int a, .ref 1])) rfl ?_
      refine Ex.cal (rest := [.int a, .ref 1]) (j := m_X6_numberAt) (as := [.ref 1, .int b]) (vst (a := 99) (b := 2) (c := 5) (rest := [.int a, .ref 1]) (vs := [.int b]) rfl ⟨Nat.le_of_ble_eq_true rfl, Nat.le_of_ble_eq_true rfl⟩ rfl rfl (sg_1 hs)) (H.imp ?_)
      intro rv h14 H
      obtain ⟨x15, rfl, H⟩ := H
      obtain ⟨hs, H⟩ := H
      show Ex d [] tb_X6_product (58, [some (.ref 1), some (.int a), some (.int b), some (.int c), some (.int x4)], [.long x15, .int a, .ref 1]) h14 _
      refine Ex.pure 2 (fr2 := (60, [some (.ref 1), some (.int a), some (.int b), some (.int c), some (.int x4)], [.int c, .ref 1, .long x15, .int a, .ref 1])) rfl ?_
      refine Ex.cal (rest := [.long x15, .int a, .ref 1]) (j := m_X6_numberAt) (as := [.ref 1, .int c]) (vst (a := 99) (b := 2) (c := 5) (rest := [.long x15, .int a, .ref 1]) (vs := [.int c]) rfl ⟨Nat.le_of_ble_eq_true rfl, Nat.le_of_ble_eq_true rfl⟩ rfl rfl (sg_1 hs)) (H.imp ?_)
      intro rv h16 H
      obtain ⟨x17, rfl, H⟩ := H
      obtain ⟨hs, H⟩ := H
      show Ex d [] tb_X6_product (63, [some (.ref 1), some (.int a), some (.int b), some (.int c), some (.int x4)], [.long x17, .long x15, .int a, .ref 1]) h16 _
      refine Ex.cal (rest := [.int a, .ref 1]) (j := m_X6_multipliedNumbers) (as := [.long x15, .long x17]) (fun c => rfl) (H.imp ?_)
      intro rv h18 H
      obtain ⟨x19, rfl, H⟩ := H
      obtain ⟨hs, H⟩ := H
      show Ex d [] tb_X6_product (66, [some (.ref 1), some (.int a), some (.int b), some (.int c), some (.int x4)], [.long x19, .int a, .ref 1]) h18 _
      refine Ex.cal (rest := []) (j := m_X6_keepNumber) (as := [.ref 1, .int a, .long x19]) (vst (a := 103) (b := 3) (c := 5) (rest := []) (vs := [.int a, .long x19]) rfl ⟨Nat.le_of_ble_eq_true rfl, Nat.le_of_ble_eq_true rfl⟩ rfl rfl (sg_1 hs)) (H.imp ?_)
      intro rv h20 H
      obtain ⟨rfl, H⟩ := H
      obtain ⟨hs, H⟩ := H
      show Ex d [] tb_X6_product (69, [some (.ref 1), some (.int a), some (.int b), some (.int c), some (.int x4)], []) h20 _
      refine Ex.pure 2 (fr2 := (93, [some (.ref 1), some (.int a), some (.int b), some (.int c), some (.int x4)], [.int x4])) rfl ?_
      exact Ex.iret rfl (Or.inl rfl) H
  · replace H := H.2 (hb)
    refine Ex.pure 3 (fr2 := (23, [some (.ref 1), some (.int a), some (.int b), some (.int c), some (.int x4)], [.ref 1, .int a, .ref 1])) rfl ?_
    refine Ex.getQ rfl (sg_1 hs) rfl ?_
    refine Ex.pure 2 (fr2 := (28, [some (.ref 1), some (.int a), some (.int b), some (.int c), some (.int x4)], [.int b, .ref 1, .ref 6, .int a, .ref 1])) rfl ?_
    refine Ex.cal (rest := [.ref 6, .int a, .ref 1]) (j := m_X6_ordinalAt) (as := [.ref 1, .int b]) (vst (a := 97) (b := 2) (c := 5) (rest := [.ref 6, .int a, .ref 1]) (vs := [.int b]) rfl ⟨Nat.le_of_ble_eq_true rfl, Nat.le_of_ble_eq_true rfl⟩ rfl rfl (sg_1 hs)) (H.imp ?_)
    intro rv h22 H
    obtain ⟨x23, rfl, H⟩ := H
    obtain ⟨hs, H⟩ := H
    show Ex d [] tb_X6_product (31, [some (.ref 1), some (.int a), some (.int b), some (.int c), some (.int x4)], [.int x23, .ref 6, .int a, .ref 1]) h22 _
    refine Ex.pure 2 (fr2 := (33, [some (.ref 1), some (.int a), some (.int b), some (.int c), some (.int x4)], [.int c, .ref 1, .int x23, .ref 6, .int a, .ref 1])) rfl ?_
    refine Ex.cal (rest := [.int x23, .ref 6, .int a, .ref 1]) (j := m_X6_ordinalAt) (as := [.ref 1, .int c]) (vst (a := 97) (b := 2) (c := 5) (rest := [.int x23, .ref 6, .int a, .ref 1]) (vs := [.int c]) rfl ⟨Nat.le_of_ble_eq_true rfl, Nat.le_of_ble_eq_true rfl⟩ rfl rfl (sg_1 hs)) (H.imp ?_)
    intro rv h24 H
    obtain ⟨x25, rfl, H⟩ := H
    obtain ⟨hs, H⟩ := H
    show Ex d [] tb_X6_product (36, [some (.ref 1), some (.int a), some (.int b), some (.int c), some (.int x4)], [.int x25, .int x23, .ref 6, .int a, .ref 1]) h24 _
    refine Ex.cal (rest := [.int a, .ref 1]) (j := m_X2_multiplied) (as := [.ref 6, .int x23, .int x25]) (vst (a := 29) (b := 3) (c := 2) (rest := [.int a, .ref 1]) (vs := [.int x23, .int x25]) rfl ⟨Nat.le_of_ble_eq_true rfl, Nat.le_of_ble_eq_true rfl⟩ rfl rfl (sg_6 hs)) (H.imp ?_)
    intro rv h26 H
    obtain ⟨x27, rfl, H⟩ := H
    obtain ⟨y28, hs, H⟩ := H
    show Ex d [] tb_X6_product (39, [some (.ref 1), some (.int a), some (.int b), some (.int c), some (.int x4)], [.int x27, .int a, .ref 1]) h26 _
    refine Ex.cal (rest := []) (j := m_X6_keepOrdinal) (as := [.ref 1, .int a, .int x27]) (vst (a := 102) (b := 3) (c := 5) (rest := []) (vs := [.int a, .int x27]) rfl ⟨Nat.le_of_ble_eq_true rfl, Nat.le_of_ble_eq_true rfl⟩ rfl rfl (sg_1 hs)) (H.imp ?_)
    intro rv h29 H
    obtain ⟨rfl, H⟩ := H
    obtain ⟨hs, H⟩ := H
    show Ex d [] tb_X6_product (42, [some (.ref 1), some (.int a), some (.int b), some (.int c), some (.int x4)], []) h29 _
    refine Ex.pure 2 (fr2 := (93, [some (.ref 1), some (.int a), some (.int b), some (.int c), some (.int x4)], [.int x4])) rfl ?_
    exact Ex.iret rfl (Or.inl rfl) H
theorem w_X6_difference {d : Nat} {h : XH} {y : Nat → Nat} {K : XK} {E : XE} {a : Int32} {b : Int32} {c : Int32} (hd : 20 ≤ d) (hs : Sg h.1 y) (H : (Ca d m_X6_needThree [.int a, .int b, .int c] h (fun rv h1 => rv = none ∧ Sg h1.1 y ∧ (Ca d m_X6_commonKind [.ref 1, .int b, .int c] h1 (fun rv h3 => ∃ x4, rv = some (.int x4) ∧ Sg h3.1 y ∧ (¬ x4 = 1 → (¬ x4 = 2 → (Ca d m_X6_growthAt [.ref 1, .int b] h3 (fun rv h5 => ∃ x6, rv = some (.ref x6) ∧ Sg h5.1 y ∧ ∃ n_x6, Gq h5.1 x6 n_x6 ∧ n_x6 < 2 ^ 31 ∧ (Ca d m_X6_growthAt [.ref 1, .int c] h5 (fun rv h7 => ∃ x8, rv = some (.ref x8) ∧ Sg h7.1 y ∧ Gq h7.1 x6 n_x6 ∧ ∃ n_x8, Gq h7.1 x8 n_x8 ∧ n_x8 < 2 ^ 31 ∧ (Ca d m_X6_addGrowths [.ref 1, .ref x6, .ref x8, .int (-1)] h7 (fun rv h9 => rv = none ∧ ∃ y11 : Nat → Nat, Sg h9.1 y11 ∧ Gq h9.1 x6 n_x6 ∧ Gq h9.1 x8 n_x8 ∧ (Ca d m_X6_keepGrowth [.ref 1, .int a] h9 (fun rv h12 => rv = none ∧ Sg h12.1 y11 ∧ Gq h12.1 x6 n_x6 ∧ Gq h12.1 x8 n_x8 ∧ K (some (.int x4)) h12) E)) E)) E)) E)) ∧ (¬ (¬ x4 = 2) → (Ca d m_X6_numberAt [.ref 1, .int b] h3 (fun rv h14 => ∃ x15, rv = some (.long x15) ∧ Sg h14.1 y ∧ (Ca d m_X6_numberAt [.ref 1, .int c] h14 (fun rv h16 => ∃ x17, rv = some (.long x17) ∧ Sg h16.1 y ∧ (Ca d m_X6_keepNumber [.ref 1, .int a, .long (x15 - x17)] h16 (fun rv h18 => rv = none ∧ Sg h18.1 y ∧ K (some (.int x4)) h18) E)) E)) E))) ∧ (¬ (¬ x4 = 1) → E 3 (x_new h3 (4, 3, []) 6))) E)) E)) : Ca (d + 1) m_X6_difference [.ref 1, .int a, .int b, .int c] h K E := by
  refine Ca.of ⟨by show 4 ≤ 5; omega, rfl⟩ ?_
  show Ex d [] tb_X6_difference (0, [some (.ref 1), some (.int a), some (.int b), some (.int c), none], []) h _
  refine Ex.pure 3 (fr2 := (3, [some (.ref 1), some (.int a), some (.int b), some (.int c), none], [.int c, .int b, .int a])) rfl ?_
  refine Ex.cal (rest := []) (j := m_X6_needThree) (as := [.int a, .int b, .int c]) (fun c => rfl) (H.imp ?_)
  intro rv h1 H
  obtain ⟨rfl, H⟩ := H
  obtain ⟨hs, H⟩ := H
  show Ex d [] tb_X6_difference (6, [some (.ref 1), some (.int a), some (.int b), some (.int c), none], []) h1 _
  refine Ex.pure 3 (fr2 := (9, [some (.ref 1), some (.int a), some (.int b), some (.int c), none], [.int c, .int b, .ref 1])) rfl ?_
  refine Ex.cal (rest := []) (j := m_X6_commonKind) (as := [.ref 1, .int b, .int c]) (vst (a := 96) (b := 3) (c := 5) (rest := []) (vs := [.int b, .int c]) rfl ⟨Nat.le_of_ble_eq_true rfl, Nat.le_of_ble_eq_true rfl⟩ rfl rfl (sg_1 hs)) (H.imp ?_)
  intro rv h3 H
  obtain ⟨x4, rfl, H⟩ := H
  obtain ⟨hs, H⟩ := H
  show Ex d [] tb_X6_difference (12, [some (.ref 1), some (.int a), some (.int b), some (.int c), none], [.int x4]) h3 _
  refine Ex.pure 3 (fr2 := (17, [some (.ref 1), some (.int a), some (.int b), some (.int c), some (.int x4)], [.int 1, .int x4])) rfl ?_
  refine Ex.br (x := (30, [some (.ref 1), some (.int a), some (.int b), some (.int c), some (.int x4)], [])) (y := (20, [some (.ref 1), some (.int a), some (.int b), some (.int c), some (.int x4)], [])) (b := ¬ x4 = 1) rfl (fun hb => ?_) (fun hb => ?_)
  · replace H := H.1 (hb)
    refine Ex.pure 2 (fr2 := (33, [some (.ref 1), some (.int a), some (.int b), some (.int c), some (.int x4)], [.int 2, .int x4])) rfl ?_
    refine Ex.br (x := (55, [some (.ref 1), some (.int a), some (.int b), some (.int c), some (.int x4)], [])) (y := (36, [some (.ref 1), some (.int a), some (.int b), some (.int c), some (.int x4)], [])) (b := ¬ x4 = 2) rfl (fun hb => ?_) (fun hb => ?_)
    · replace H := H.1 (hb)
      refine Ex.pure 3 (fr2 := (58, [some (.ref 1), some (.int a), some (.int b), some (.int c), some (.int x4)], [.int b, .ref 1, .ref 1])) rfl ?_
      refine Ex.cal (rest := [.ref 1]) (j := m_X6_growthAt) (as := [.ref 1, .int b]) (vst (a := 100) (b := 2) (c := 5) (rest := [.ref 1]) (vs := [.int b]) rfl ⟨Nat.le_of_ble_eq_true rfl, Nat.le_of_ble_eq_true rfl⟩ rfl rfl (sg_1 hs)) (H.imp ?_)
      intro rv h5 H
      obtain ⟨x6, rfl, H⟩ := H
      obtain ⟨hs, H⟩ := H
      obtain ⟨n_x6, ho_x6, hn_x6, H⟩ := H
      show Ex d [] tb_X6_difference (61, [some (.ref 1), some (.int a), some (.int b), some (.int c), some (.int x4)], [.ref x6, .ref 1]) h5 _
      refine Ex.pure 2 (fr2 := (63, [some (.ref 1), some (.int a), some (.int b), some (.int c), some (.int x4)], [.int c, .ref 1, .ref x6, .ref 1])) rfl ?_
      refine Ex.cal (rest := [.ref x6, .ref 1]) (j := m_X6_growthAt) (as := [.ref 1, .int c]) (vst (a := 100) (b := 2) (c := 5) (rest := [.ref x6, .ref 1]) (vs := [.int c]) rfl ⟨Nat.le_of_ble_eq_true rfl, Nat.le_of_ble_eq_true rfl⟩ rfl rfl (sg_1 hs)) (H.imp ?_)
      intro rv h7 H
      obtain ⟨x8, rfl, H⟩ := H
      obtain ⟨hs, H⟩ := H
      obtain ⟨ho_x6, H⟩ := H
      obtain ⟨n_x8, ho_x8, hn_x8, H⟩ := H
      show Ex d [] tb_X6_difference (66, [some (.ref 1), some (.int a), some (.int b), some (.int c), some (.int x4)], [.ref x8, .ref x6, .ref 1]) h7 _
      refine Ex.pure 1 (fr2 := (67, [some (.ref 1), some (.int a), some (.int b), some (.int c), some (.int x4)], [.int (-1), .ref x8, .ref x6, .ref 1])) rfl ?_
      refine Ex.cal (rest := []) (j := m_X6_addGrowths) (as := [.ref 1, .ref x6, .ref x8, .int (-1)]) (vst (a := 109) (b := 4) (c := 5) (rest := []) (vs := [.ref x6, .ref x8, .int (-1)]) rfl ⟨Nat.le_of_ble_eq_true rfl, Nat.le_of_ble_eq_true rfl⟩ rfl rfl (sg_1 hs)) (H.imp ?_)
      intro rv h9 H
      obtain ⟨rfl, H⟩ := H
      obtain ⟨y11, hs, H⟩ := H
      obtain ⟨ho_x6, H⟩ := H
      obtain ⟨ho_x8, H⟩ := H
      show Ex d [] tb_X6_difference (70, [some (.ref 1), some (.int a), some (.int b), some (.int c), some (.int x4)], []) h9 _
      refine Ex.pure 2 (fr2 := (72, [some (.ref 1), some (.int a), some (.int b), some (.int c), some (.int x4)], [.int a, .ref 1])) rfl ?_
      refine Ex.cal (rest := []) (j := m_X6_keepGrowth) (as := [.ref 1, .int a]) (vst (a := 104) (b := 2) (c := 5) (rest := []) (vs := [.int a]) rfl ⟨Nat.le_of_ble_eq_true rfl, Nat.le_of_ble_eq_true rfl⟩ rfl rfl (sg_1 hs)) (H.imp ?_)
      intro rv h12 H
      obtain ⟨rfl, H⟩ := H
      obtain ⟨hs, H⟩ := H
      obtain ⟨ho_x6, H⟩ := H
      obtain ⟨ho_x8, H⟩ := H
      show Ex d [] tb_X6_difference (75, [some (.ref 1), some (.int a), some (.int b), some (.int c), some (.int x4)], []) h12 _
      refine Ex.pure 1 (fr2 := (77, [some (.ref 1), some (.int a), some (.int b), some (.int c), some (.int x4)], [.int x4])) rfl ?_
      exact Ex.iret rfl (Or.inl rfl) H
    · replace H := H.2 (hb)
      refine Ex.pure 4 (fr2 := (40, [some (.ref 1), some (.int a), some (.int b), some (.int c), some (.int x4)], [.int b, .ref 1, .int a, .ref 1])) rfl ?_
      refine Ex.cal (rest := [.int a, .ref 1]) (j := m_X6_numberAt) (as := [.ref 1, .int b]) (vst (a := 99) (b := 2) (c := 5) (rest := [.int a, .ref 1]) (vs := [.int b]) rfl ⟨Nat.le_of_ble_eq_true rfl, Nat.le_of_ble_eq_true rfl⟩ rfl rfl (sg_1 hs)) (H.imp ?_)
      intro rv h14 H
      obtain ⟨x15, rfl, H⟩ := H
      obtain ⟨hs, H⟩ := H
      show Ex d [] tb_X6_difference (43, [some (.ref 1), some (.int a), some (.int b), some (.int c), some (.int x4)], [.long x15, .int a, .ref 1]) h14 _
      refine Ex.pure 2 (fr2 := (45, [some (.ref 1), some (.int a), some (.int b), some (.int c), some (.int x4)], [.int c, .ref 1, .long x15, .int a, .ref 1])) rfl ?_
      refine Ex.cal (rest := [.long x15, .int a, .ref 1]) (j := m_X6_numberAt) (as := [.ref 1, .int c]) (vst (a := 99) (b := 2) (c := 5) (rest := [.long x15, .int a, .ref 1]) (vs := [.int c]) rfl ⟨Nat.le_of_ble_eq_true rfl, Nat.le_of_ble_eq_true rfl⟩ rfl rfl (sg_1 hs)) (H.imp ?_)
      intro rv h16 H
      obtain ⟨x17, rfl, H⟩ := H
      obtain ⟨hs, H⟩ := H
      show Ex d [] tb_X6_difference (48, [some (.ref 1), some (.int a), some (.int b), some (.int c), some (.int x4)], [.long x17, .long x15, .int a, .ref 1]) h16 _
      refine Ex.pure 1 (fr2 := (49, [some (.ref 1), some (.int a), some (.int b), some (.int c), some (.int x4)], [.long (x15 - x17), .int a, .ref 1])) rfl ?_
      refine Ex.cal (rest := []) (j := m_X6_keepNumber) (as := [.ref 1, .int a, .long (x15 - x17)]) (vst (a := 103) (b := 3) (c := 5) (rest := []) (vs := [.int a, .long (x15 - x17)]) rfl ⟨Nat.le_of_ble_eq_true rfl, Nat.le_of_ble_eq_true rfl⟩ rfl rfl (sg_1 hs)) (H.imp ?_)
      intro rv h18 H
      obtain ⟨rfl, H⟩ := H
      obtain ⟨hs, H⟩ := H
      show Ex d [] tb_X6_difference (52, [some (.ref 1), some (.int a), some (.int b), some (.int c), some (.int x4)], []) h18 _
      refine Ex.pure 2 (fr2 := (77, [some (.ref 1), some (.int a), some (.int b), some (.int c), some (.int x4)], [.int x4])) rfl ?_
      exact Ex.iret rfl (Or.inl rfl) H
  · replace H := H.2 (hb)
    exact Ex.thr rfl (by decide) H
def b_X6_natural_52 (d : Nat) (u0 : Option Value) (u1 : Option Value) (u2 : Option Value) (u3 : Option Value) (u4 : Option Value) (u5 : Option Value) (u6 : Option Value) (s0 : Int32) (s1 : Int32) (r_9 : Nat) (h : XH) (K : XK) (E : XE) : Prop := Ex d [] tb_X6_natural (52, [u0, u1, u2, u3, u4, u5, u6], [.int s0, .int s1, .ref r_9]) h (Po K E)
theorem w_X6_natural {d : Nat} {h : XH} {y : Nat → Nat} {K : XK} {E : XE} {a : Int32} {b : Int32} {c : Int32} {e : Int32} (hd : 20 ≤ d) (hs : Sg h.1 y) (H : (Ca d m_X6_needThree [.int a, .int b, .int c] h (fun rv h1 => rv = none ∧ Sg h1.1 y ∧ (Ca d m_X6_ordinalAt [.ref 1, .int b] h1 (fun rv h3 => ∃ x4, rv = some (.int x4) ∧ Sg h3.1 y ∧ (Ca d m_X6_ordinalAt [.ref 1, .int c] h3 (fun rv h5 => ∃ x6, rv = some (.int x6) ∧ Sg h5.1 y ∧ (e = 0 → (Ca d m_X2_naturallyAdded [.ref 6, .int x4, .int x6] h5 (fun rv h7 => ∃ x8, rv = some (.int x8) ∧ ∃ y9 : Nat → Nat, Sg h7.1 y9 ∧ b_X6_natural_52 d (some (.ref 1)) (some (.int a)) (some (.int b)) (some (.int c)) (some (.int e)) (some (.int x4)) (some (.int x6)) x8 a 1 h7 K E) E)) ∧ (¬ (e = 0) → (Ca d m_X2_naturallyMultiplied [.ref 6, .int x4, .int x6] h5 (fun rv h10 => ∃ x11, rv = some (.int x11) ∧ ∃ y12 : Nat → Nat, Sg h10.1 y12 ∧ b_X6_natural_52 d (some (.ref 1)) (some (.int a)) (some (.int b)) (some (.int c)) (some (.int e)) (some (.int x4)) (some (.int x6)) x11 a 1 h10 K E) E))) E)) E)) E)) : Ca (d + 1) m_X6_natural [.ref 1, .int a, .int b, .int c, .int e] h K E := by
  refine Ca.of ⟨by show 5 ≤ 7; omega, rfl⟩ ?_
  show Ex d [] tb_X6_natural (0, [some (.ref 1), some (.int a), some (.int b), some (.int c), some (.int e), none, none], []) h _
  refine Ex.pure 3 (fr2 := (3, [some (.ref 1), some (.int a), some (.int b), some (.int c), some (.int e), none, none], [.int c, .int b, .int a])) rfl ?_
  refine Ex.cal (rest := []) (j := m_X6_needThree) (as := [.int a, .int b, .int c]) (fun c => rfl) (H.imp ?_)
  intro rv h1 H
  obtain ⟨rfl, H⟩ := H
  obtain ⟨hs, H⟩ := H
  show Ex d [] tb_X6_natural (6, [some (.ref 1), some (.int a), some (.int b), some (.int c), some (.int e), none, none], []) h1 _
  refine Ex.pure 2 (fr2 := (8, [some (.ref 1), some (.int a), some (.int b), some (.int c), some (.int e), none, none], [.int b, .ref 1])) rfl ?_
  refine Ex.cal (rest := []) (j := m_X6_ordinalAt) (as := [.ref 1, .int b]) (vst (a := 97) (b := 2) (c := 5) (rest := []) (vs := [.int b]) rfl ⟨Nat.le_of_ble_eq_true rfl, Nat.le_of_ble_eq_true rfl⟩ rfl rfl (sg_1 hs)) (H.imp ?_)
  intro rv h3 H
  obtain ⟨x4, rfl, H⟩ := H
  obtain ⟨hs, H⟩ := H
  show Ex d [] tb_X6_natural (11, [some (.ref 1), some (.int a), some (.int b), some (.int c), some (.int e), none, none], [.int x4]) h3 _
  refine Ex.pure 3 (fr2 := (15, [some (.ref 1), some (.int a), some (.int b), some (.int c), some (.int e), some (.int x4), none], [.int c, .ref 1])) rfl ?_
  refine Ex.cal (rest := []) (j := m_X6_ordinalAt) (as := [.ref 1, .int c]) (vst (a := 97) (b := 2) (c := 5) (rest := []) (vs := [.int c]) rfl ⟨Nat.le_of_ble_eq_true rfl, Nat.le_of_ble_eq_true rfl⟩ rfl rfl (sg_1 hs)) (H.imp ?_)
  intro rv h5 H
  obtain ⟨x6, rfl, H⟩ := H
  obtain ⟨hs, H⟩ := H
  show Ex d [] tb_X6_natural (18, [some (.ref 1), some (.int a), some (.int b), some (.int c), some (.int e), some (.int x4), none], [.int x6]) h5 _
  refine Ex.pure 4 (fr2 := (24, [some (.ref 1), some (.int a), some (.int b), some (.int c), some (.int e), some (.int x4), some (.int x6)], [.int e, .int a, .ref 1])) rfl ?_
  refine Ex.br (x := (41, [some (.ref 1), some (.int a), some (.int b), some (.int c), some (.int e), some (.int x4), some (.int x6)], [.int a, .ref 1])) (y := (27, [some (.ref 1), some (.int a), some (.int b), some (.int c), some (.int e), some (.int x4), some (.int x6)], [.int a, .ref 1])) (b := e = 0) rfl (fun hb => ?_) (fun hb => ?_)
  · replace H := H.1 (hb)
    refine Ex.pure 1 (fr2 := (42, [some (.ref 1), some (.int a), some (.int b), some (.int c), some (.int e), some (.int x4), some (.int x6)], [.ref 1, .int a, .ref 1])) rfl ?_
    refine Ex.getQ rfl (sg_1 hs) rfl ?_
    refine Ex.pure 2 (fr2 := (49, [some (.ref 1), some (.int a), some (.int b), some (.int c), some (.int e), some (.int x4), some (.int x6)], [.int x6, .int x4, .ref 6, .int a, .ref 1])) rfl ?_
    refine Ex.cal (rest := [.int a, .ref 1]) (j := m_X2_naturallyAdded) (as := [.ref 6, .int x4, .int x6]) (vst (a := 30) (b := 3) (c := 2) (rest := [.int a, .ref 1]) (vs := [.int x4, .int x6]) rfl ⟨Nat.le_of_ble_eq_true rfl, Nat.le_of_ble_eq_true rfl⟩ rfl rfl (sg_6 hs)) (H.imp ?_)
    intro rv h7 H
    obtain ⟨x8, rfl, H⟩ := H
    obtain ⟨y9, hs, H⟩ := H
    show Ex d [] tb_X6_natural (52, [some (.ref 1), some (.int a), some (.int b), some (.int c), some (.int e), some (.int x4), some (.int x6)], [.int x8, .int a, .ref 1]) h7 _
    exact H
  · replace H := H.2 (hb)
    refine Ex.pure 1 (fr2 := (28, [some (.ref 1), some (.int a), some (.int b), some (.int c), some (.int e), some (.int x4), some (.int x6)], [.ref 1, .int a, .ref 1])) rfl ?_
    refine Ex.getQ rfl (sg_1 hs) rfl ?_
    refine Ex.pure 2 (fr2 := (35, [some (.ref 1), some (.int a), some (.int b), some (.int c), some (.int e), some (.int x4), some (.int x6)], [.int x6, .int x4, .ref 6, .int a, .ref 1])) rfl ?_
    refine Ex.cal (rest := [.int a, .ref 1]) (j := m_X2_naturallyMultiplied) (as := [.ref 6, .int x4, .int x6]) (vst (a := 31) (b := 3) (c := 2) (rest := [.int a, .ref 1]) (vs := [.int x4, .int x6]) rfl ⟨Nat.le_of_ble_eq_true rfl, Nat.le_of_ble_eq_true rfl⟩ rfl rfl (sg_6 hs)) (H.imp ?_)
    intro rv h10 H
    obtain ⟨x11, rfl, H⟩ := H
    obtain ⟨y12, hs, H⟩ := H
    show Ex d [] tb_X6_natural (38, [some (.ref 1), some (.int a), some (.int b), some (.int c), some (.int e), some (.int x4), some (.int x6)], [.int x11, .int a, .ref 1]) h10 _
    refine Ex.pure 1 (fr2 := (52, [some (.ref 1), some (.int a), some (.int b), some (.int c), some (.int e), some (.int x4), some (.int x6)], [.int x11, .int a, .ref 1])) rfl ?_
    exact H
theorem w_X6_natural_52 {d : Nat} {h : XH} {y : Nat → Nat} {K : XK} {E : XE} {u0 : Option Value} {u1 : Option Value} {u2 : Option Value} {u3 : Option Value} {u4 : Option Value} {u5 : Option Value} {u6 : Option Value} {s0 : Int32} {s1 : Int32} (hd : 20 ≤ d) (hs : Sg h.1 y) (H : (Ca d m_X6_keepOrdinal [.ref 1, .int s1, .int s0] h (fun rv h1 => rv = none ∧ Sg h1.1 y ∧ K none h1) E)) : b_X6_natural_52 d u0 u1 u2 u3 u4 u5 u6 s0 s1 1 h K E := by
  show Ex d [] tb_X6_natural (52, [u0, u1, u2, u3, u4, u5, u6], [.int s0, .int s1, .ref 1]) h _
  refine Ex.cal (rest := []) (j := m_X6_keepOrdinal) (as := [.ref 1, .int s1, .int s0]) (vst (a := 102) (b := 3) (c := 5) (rest := []) (vs := [.int s1, .int s0]) rfl ⟨Nat.le_of_ble_eq_true rfl, Nat.le_of_ble_eq_true rfl⟩ rfl rfl (sg_1 hs)) (H.imp ?_)
  intro rv h1 H
  obtain ⟨rfl, H⟩ := H
  obtain ⟨hs, H⟩ := H
  show Ex d [] tb_X6_natural (55, [u0, u1, u2, u3, u4, u5, u6], []) h1 _
  exact Ex.vret rfl H
def b_X6_derive_24 (d : Nat) (r_0 : Nat) (l1 : Int32) (u2 : Option Value) (r3 : Nat) (l4 : Int32) (h : XH) (K : XK) (E : XE) : Prop := Ex d [] tb_X6_derive (24, [some (.ref r_0), some (.int l1), u2, some (.ref r3), some (.int l4)], []) h (Po K E)
theorem w_X6_derive {d : Nat} {h : XH} {y : Nat → Nat} {K : XK} {E : XE} {a : Int32} {b : Int32} (hd : 20 ≤ d) (hs : Sg h.1 y) (H : (Ca d m_X6_needPlace [.int a] h (fun rv h1 => rv = none ∧ Sg h1.1 y ∧ (Ca d m_X6_needPlace [.int b] h1 (fun rv h3 => rv = none ∧ Sg h3.1 y ∧ (Ca d m_X6_growthAt [.ref 1, .int b] h3 (fun rv h5 => ∃ x6, rv = some (.ref x6) ∧ Sg h5.1 y ∧ ∃ n_x6, Gq h5.1 x6 n_x6 ∧ n_x6 < 2 ^ 31 ∧ (Ca d m_X4_restart [.ref 19] h5 (fun rv h7 => rv = none ∧ Sg h7.1 y ∧ Gq h7.1 x6 n_x6 ∧ b_X6_derive_24 d 1 a (some (.int b)) x6 1 h7 K E) E)) E)) E)) E)) : Ca (d + 1) m_X6_derive [.ref 1, .int a, .int b] h K E := by
  refine Ca.of ⟨by show 3 ≤ 5; omega, rfl⟩ ?_
  show Ex d [] tb_X6_derive (0, [some (.ref 1), some (.int a), some (.int b), none, none], []) h _
  refine Ex.pure 1 (fr2 := (1, [some (.ref 1), some (.int a), some (.int b), none, none], [.int a])) rfl ?_
  refine Ex.cal (rest := []) (j := m_X6_needPlace) (as := [.int a]) (fun c => rfl) (H.imp ?_)
  intro rv h1 H
  obtain ⟨rfl, H⟩ := H
  obtain ⟨hs, H⟩ := H
  show Ex d [] tb_X6_derive (4, [some (.ref 1), some (.int a), some (.int b), none, none], []) h1 _
  refine Ex.pure 1 (fr2 := (5, [some (.ref 1), some (.int a), some (.int b), none, none], [.int b])) rfl ?_
  refine Ex.cal (rest := []) (j := m_X6_needPlace) (as := [.int b]) (fun c => rfl) (H.imp ?_)
  intro rv h3 H
  obtain ⟨rfl, H⟩ := H
  obtain ⟨hs, H⟩ := H
  show Ex d [] tb_X6_derive (8, [some (.ref 1), some (.int a), some (.int b), none, none], []) h3 _
  refine Ex.pure 2 (fr2 := (10, [some (.ref 1), some (.int a), some (.int b), none, none], [.int b, .ref 1])) rfl ?_
  refine Ex.cal (rest := []) (j := m_X6_growthAt) (as := [.ref 1, .int b]) (vst (a := 100) (b := 2) (c := 5) (rest := []) (vs := [.int b]) rfl ⟨Nat.le_of_ble_eq_true rfl, Nat.le_of_ble_eq_true rfl⟩ rfl rfl (sg_1 hs)) (H.imp ?_)
  intro rv h5 H
  obtain ⟨x6, rfl, H⟩ := H
  obtain ⟨hs, H⟩ := H
  obtain ⟨n_x6, ho_x6, hn_x6, H⟩ := H
  show Ex d [] tb_X6_derive (13, [some (.ref 1), some (.int a), some (.int b), none, none], [.ref x6]) h5 _
  refine Ex.pure 2 (fr2 := (15, [some (.ref 1), some (.int a), some (.int b), some (.ref x6), none], [.ref 1])) rfl ?_
  refine Ex.getQ rfl (sg_1 hs) rfl ?_
  refine Ex.cal (rest := []) (j := m_X4_restart) (as := [.ref 19]) (vst (a := 54) (b := 1) (c := 3) (rest := []) (vs := []) rfl ⟨Nat.le_of_ble_eq_true rfl, Nat.le_of_ble_eq_true rfl⟩ rfl rfl (sg_19 hs)) (H.imp ?_)
  intro rv h7 H
  obtain ⟨rfl, H⟩ := H
  obtain ⟨hs, H⟩ := H
  obtain ⟨ho_x6, H⟩ := H
  show Ex d [] tb_X6_derive (21, [some (.ref 1), some (.int a), some (.int b), some (.ref x6), none], []) h7 _
  refine Ex.pure 2 (fr2 := (24, [some (.ref 1), some (.int a), some (.int b), some (.ref x6), some (.int 1)], [])) rfl ?_
  exact H
theorem w_X6_derive_24 {d : Nat} {h : XH} {y : Nat → Nat} {K : XK} {E : XE} {l1 : Int32} {u2 : Option Value} {r3 : Nat} {l4 : Int32} (hd : 20 ≤ d) (hs : Sg h.1 y) (H : (4 < l4 → (Ca d m_X6_keepGrowth [.ref 1, .int l1] h (fun rv h1 => rv = none ∧ Sg h1.1 y ∧ K none h1) E)) ∧ (¬ (4 < l4) → (Ca d m_X4_addSlopes [.ref 19, .ref r3, .int l4] h (fun rv h3 => rv = none ∧ ∃ y5 : Nat → Nat, Sg h3.1 y5 ∧ b_X6_derive_24 d 1 l1 (u2) r3 (l4 + 1) h3 K E) E))) : b_X6_derive_24 d 1 l1 u2 r3 l4 h K E := by
  show Ex d [] tb_X6_derive (24, [some (.ref 1), some (.int l1), u2, some (.ref r3), some (.int l4)], []) h _
  refine Ex.pure 2 (fr2 := (27, [some (.ref 1), some (.int l1), u2, some (.ref r3), some (.int l4)], [.int 4, .int l4])) rfl ?_
  refine Ex.br (x := (46, [some (.ref 1), some (.int l1), u2, some (.ref r3), some (.int l4)], [])) (y := (30, [some (.ref 1), some (.int l1), u2, some (.ref r3), some (.int l4)], [])) (b := 4 < l4) rfl (fun hb => ?_) (fun hb => ?_)
  · replace H := H.1 (hb)
    refine Ex.pure 2 (fr2 := (48, [some (.ref 1), some (.int l1), u2, some (.ref r3), some (.int l4)], [.int l1, .ref 1])) rfl ?_
    refine Ex.cal (rest := []) (j := m_X6_keepGrowth) (as := [.ref 1, .int l1]) (vst (a := 104) (b := 2) (c := 5) (rest := []) (vs := [.int l1]) rfl ⟨Nat.le_of_ble_eq_true rfl, Nat.le_of_ble_eq_true rfl⟩ rfl rfl (sg_1 hs)) (H.imp ?_)
    intro rv h1 H
    obtain ⟨rfl, H⟩ := H
    obtain ⟨hs, H⟩ := H
    show Ex d [] tb_X6_derive (51, [some (.ref 1), some (.int l1), u2, some (.ref r3), some (.int l4)], []) h1 _
    exact Ex.vret rfl H
  · replace H := H.2 (hb)
    refine Ex.pure 1 (fr2 := (31, [some (.ref 1), some (.int l1), u2, some (.ref r3), some (.int l4)], [.ref 1])) rfl ?_
    refine Ex.getQ rfl (sg_1 hs) rfl ?_
    refine Ex.pure 2 (fr2 := (37, [some (.ref 1), some (.int l1), u2, some (.ref r3), some (.int l4)], [.int l4, .ref r3, .ref 19])) rfl ?_
    refine Ex.cal (rest := []) (j := m_X4_addSlopes) (as := [.ref 19, .ref r3, .int l4]) (vst (a := 57) (b := 3) (c := 3) (rest := []) (vs := [.ref r3, .int l4]) rfl ⟨Nat.le_of_ble_eq_true rfl, Nat.le_of_ble_eq_true rfl⟩ rfl rfl (sg_19 hs)) (H.imp ?_)
    intro rv h3 H
    obtain ⟨rfl, H⟩ := H
    obtain ⟨y5, hs, H⟩ := H
    show Ex d [] tb_X6_derive (40, [some (.ref 1), some (.int l1), u2, some (.ref r3), some (.int l4)], []) h3 _
    refine Ex.pure 2 (fr2 := (24, [some (.ref 1), some (.int l1), u2, some (.ref r3), some (.int (l4 + 1))], [])) rfl ?_
    exact H
theorem w_X6_compare {d : Nat} {h : XH} {y : Nat → Nat} {K : XK} {E : XE} {a : Int32} {b : Int32} (hd : 20 ≤ d) (hs : Sg h.1 y) (H : (Ca d m_X6_needPlace [.int a] h (fun rv h1 => rv = none ∧ Sg h1.1 y ∧ (Ca d m_X6_needPlace [.int b] h1 (fun rv h3 => rv = none ∧ Sg h3.1 y ∧ (Ca d m_X6_commonKind [.ref 1, .int a, .int b] h3 (fun rv h5 => ∃ x6, rv = some (.int x6) ∧ Sg h5.1 y ∧ (¬ x6 = 1 → (¬ x6 = 2 → (Ca d m_X6_growthAt [.ref 1, .int a] h5 (fun rv h7 => ∃ x8, rv = some (.ref x8) ∧ Sg h7.1 y ∧ ∃ n_x8, Gq h7.1 x8 n_x8 ∧ n_x8 < 2 ^ 31 ∧ (Ca d m_X6_growthAt [.ref 1, .int b] h7 (fun rv h9 => ∃ x10, rv = some (.ref x10) ∧ Sg h9.1 y ∧ Gq h9.1 x8 n_x8 ∧ ∃ n_x10, Gq h9.1 x10 n_x10 ∧ n_x10 < 2 ^ 31 ∧ (Ca d m_X1_comparedWith [.ref x8, .ref x10] h9 (fun rv h11 => ∃ x12, rv = some (.int x12) ∧ Sg h11.1 y ∧ Gq h11.1 x8 n_x8 ∧ Gq h11.1 x10 n_x10 ∧ K (some (.int x12)) h11) E)) E)) E)) ∧ (¬ (¬ x6 = 2) → (Ca d m_X6_numberAt [.ref 1, .int a] h5 (fun rv h13 => ∃ x14, rv = some (.long x14) ∧ Sg h13.1 y ∧ (Ca d m_X6_numberAt [.ref 1, .int b] h13 (fun rv h15 => ∃ x16, rv = some (.long x16) ∧ Sg h15.1 y ∧ K (some (.int (c_J x14 x16))) h15) E)) E))) ∧ (¬ (¬ x6 = 1) → (Ca d m_X6_ordinalAt [.ref 1, .int a] h5 (fun rv h18 => ∃ x19, rv = some (.int x19) ∧ Sg h18.1 y ∧ (Ca d m_X6_ordinalAt [.ref 1, .int b] h18 (fun rv h20 => ∃ x21, rv = some (.int x21) ∧ Sg h20.1 y ∧ (Ca d m_X2_compared [.ref 6, .int x19, .int x21] h20 (fun rv h22 => ∃ x23, rv = some (.int x23) ∧ Sg h22.1 y ∧ K (some (.int x23)) h22) E)) E)) E))) E)) E)) E)) : Ca (d + 1) m_X6_compare [.ref 1, .int a, .int b] h K E := by
  refine Ca.of ⟨by show 3 ≤ 4; omega, rfl⟩ ?_
  show Ex d [] tb_X6_compare (0, [some (.ref 1), some (.int a), some (.int b), none], []) h _
  refine Ex.pure 1 (fr2 := (1, [some (.ref 1), some (.int a), some (.int b), none], [.int a])) rfl ?_
  refine Ex.cal (rest := []) (j := m_X6_needPlace) (as := [.int a]) (fun c => rfl) (H.imp ?_)
  intro rv h1 H
  obtain ⟨rfl, H⟩ := H
  obtain ⟨hs, H⟩ := H
  show Ex d [] tb_X6_compare (4, [some (.ref 1), some (.int a), some (.int b), none], []) h1 _
  refine Ex.pure 1 (fr2 := (5, [some (.ref 1), some (.int a), some (.int b), none], [.int b])) rfl ?_
  refine Ex.cal (rest := []) (j := m_X6_needPlace) (as := [.int b]) (fun c => rfl) (H.imp ?_)
  intro rv h3 H
  obtain ⟨rfl, H⟩ := H
  obtain ⟨hs, H⟩ := H
  show Ex d [] tb_X6_compare (8, [some (.ref 1), some (.int a), some (.int b), none], []) h3 _
  refine Ex.pure 3 (fr2 := (11, [some (.ref 1), some (.int a), some (.int b), none], [.int b, .int a, .ref 1])) rfl ?_
  refine Ex.cal (rest := []) (j := m_X6_commonKind) (as := [.ref 1, .int a, .int b]) (vst (a := 96) (b := 3) (c := 5) (rest := []) (vs := [.int a, .int b]) rfl ⟨Nat.le_of_ble_eq_true rfl, Nat.le_of_ble_eq_true rfl⟩ rfl rfl (sg_1 hs)) (H.imp ?_)
  intro rv h5 H
  obtain ⟨x6, rfl, H⟩ := H
  obtain ⟨hs, H⟩ := H
  show Ex d [] tb_X6_compare (14, [some (.ref 1), some (.int a), some (.int b), none], [.int x6]) h5 _
  refine Ex.pure 3 (fr2 := (17, [some (.ref 1), some (.int a), some (.int b), some (.int x6)], [.int 1, .int x6])) rfl ?_
  refine Ex.br (x := (38, [some (.ref 1), some (.int a), some (.int b), some (.int x6)], [])) (y := (20, [some (.ref 1), some (.int a), some (.int b), some (.int x6)], [])) (b := ¬ x6 = 1) rfl (fun hb => ?_) (fun hb => ?_)
  · replace H := H.1 (hb)
    refine Ex.pure 2 (fr2 := (40, [some (.ref 1), some (.int a), some (.int b), some (.int x6)], [.int 2, .int x6])) rfl ?_
    refine Ex.br (x := (57, [some (.ref 1), some (.int a), some (.int b), some (.int x6)], [])) (y := (43, [some (.ref 1), some (.int a), some (.int b), some (.int x6)], [])) (b := ¬ x6 = 2) rfl (fun hb => ?_) (fun hb => ?_)
    · replace H := H.1 (hb)
      refine Ex.pure 2 (fr2 := (59, [some (.ref 1), some (.int a), some (.int b), some (.int x6)], [.int a, .ref 1])) rfl ?_
      refine Ex.cal (rest := []) (j := m_X6_growthAt) (as := [.ref 1, .int a]) (vst (a := 100) (b := 2) (c := 5) (rest := []) (vs := [.int a]) rfl ⟨Nat.le_of_ble_eq_true rfl, Nat.le_of_ble_eq_true rfl⟩ rfl rfl (sg_1 hs)) (H.imp ?_)
      intro rv h7 H
      obtain ⟨x8, rfl, H⟩ := H
      obtain ⟨hs, H⟩ := H
      obtain ⟨n_x8, ho_x8, hn_x8, H⟩ := H
      show Ex d [] tb_X6_compare (62, [some (.ref 1), some (.int a), some (.int b), some (.int x6)], [.ref x8]) h7 _
      refine Ex.pure 2 (fr2 := (64, [some (.ref 1), some (.int a), some (.int b), some (.int x6)], [.int b, .ref 1, .ref x8])) rfl ?_
      refine Ex.cal (rest := [.ref x8]) (j := m_X6_growthAt) (as := [.ref 1, .int b]) (vst (a := 100) (b := 2) (c := 5) (rest := [.ref x8]) (vs := [.int b]) rfl ⟨Nat.le_of_ble_eq_true rfl, Nat.le_of_ble_eq_true rfl⟩ rfl rfl (sg_1 hs)) (H.imp ?_)
      intro rv h9 H
      obtain ⟨x10, rfl, H⟩ := H
      obtain ⟨hs, H⟩ := H
      obtain ⟨ho_x8, H⟩ := H
      obtain ⟨n_x10, ho_x10, hn_x10, H⟩ := H
      show Ex d [] tb_X6_compare (67, [some (.ref 1), some (.int a), some (.int b), some (.int x6)], [.ref x10, .ref x8]) h9 _
      refine Ex.cal (rest := []) (j := m_X1_comparedWith) (as := [.ref x8, .ref x10]) (vst (a := 19) (b := 2) (c := 1) (rest := []) (vs := [.ref x10]) rfl ⟨Nat.le_of_ble_eq_true rfl, Nat.le_of_ble_eq_true rfl⟩ rfl rfl ho_x8.1) (H.imp ?_)
      intro rv h11 H
      obtain ⟨x12, rfl, H⟩ := H
      obtain ⟨hs, H⟩ := H
      obtain ⟨ho_x8, H⟩ := H
      obtain ⟨ho_x10, H⟩ := H
      show Ex d [] tb_X6_compare (70, [some (.ref 1), some (.int a), some (.int b), some (.int x6)], [.int x12]) h11 _
      exact Ex.iret rfl (Or.inl rfl) H
    · replace H := H.2 (hb)
      refine Ex.pure 2 (fr2 := (45, [some (.ref 1), some (.int a), some (.int b), some (.int x6)], [.int a, .ref 1])) rfl ?_
      refine Ex.cal (rest := []) (j := m_X6_numberAt) (as := [.ref 1, .int a]) (vst (a := 99) (b := 2) (c := 5) (rest := []) (vs := [.int a]) rfl ⟨Nat.le_of_ble_eq_true rfl, Nat.le_of_ble_eq_true rfl⟩ rfl rfl (sg_1 hs)) (H.imp ?_)
      intro rv h13 H
      obtain ⟨x14, rfl, H⟩ := H
      obtain ⟨hs, H⟩ := H
      show Ex d [] tb_X6_compare (48, [some (.ref 1), some (.int a), some (.int b), some (.int x6)], [.long x14]) h13 _
      refine Ex.pure 2 (fr2 := (50, [some (.ref 1), some (.int a), some (.int b), some (.int x6)], [.int b, .ref 1, .long x14])) rfl ?_
      refine Ex.cal (rest := [.long x14]) (j := m_X6_numberAt) (as := [.ref 1, .int b]) (vst (a := 99) (b := 2) (c := 5) (rest := [.long x14]) (vs := [.int b]) rfl ⟨Nat.le_of_ble_eq_true rfl, Nat.le_of_ble_eq_true rfl⟩ rfl rfl (sg_1 hs)) (H.imp ?_)
      intro rv h15 H
      obtain ⟨x16, rfl, H⟩ := H
      obtain ⟨hs, H⟩ := H
      show Ex d [] tb_X6_compare (53, [some (.ref 1), some (.int a), some (.int b), some (.int x6)], [.long x16, .long x14]) h15 _
      refine Ex.ask (rest := []) (j := m_J13_compare_74951) (as := [.long x14, .long x16]) (fun c => rfl) ((t_J13_compare_74951 hs).mono (by omega) (fun _ _ z => z)) ?_
      rintro _ h0 ⟨rfl, e0⟩
      rw [e0]
      show Ex d [] tb_X6_compare (56, [some (.ref 1), some (.int a), some (.int b), some (.int x6)], [.int (c_J x14 x16)]) h15 _
      exact Ex.iret rfl (Or.inl rfl) H
  · replace H := H.2 (hb)
    refine Ex.pure 1 (fr2 := (21, [some (.ref 1), some (.int a), some (.int b), some (.int x6)], [.ref 1])) rfl ?_
    refine Ex.getQ rfl (sg_1 hs) rfl ?_
    refine Ex.pure 2 (fr2 := (26, [some (.ref 1), some (.int a), some (.int b), some (.int x6)], [.int a, .ref 1, .ref 6])) rfl ?_
    refine Ex.cal (rest := [.ref 6]) (j := m_X6_ordinalAt) (as := [.ref 1, .int a]) (vst (a := 97) (b := 2) (c := 5) (rest := [.ref 6]) (vs := [.int a]) rfl ⟨Nat.le_of_ble_eq_true rfl, Nat.le_of_ble_eq_true rfl⟩ rfl rfl (sg_1 hs)) (H.imp ?_)
    intro rv h18 H
    obtain ⟨x19, rfl, H⟩ := H
    obtain ⟨hs, H⟩ := H
    show Ex d [] tb_X6_compare (29, [some (.ref 1), some (.int a), some (.int b), some (.int x6)], [.int x19, .ref 6]) h18 _
    refine Ex.pure 2 (fr2 := (31, [some (.ref 1), some (.int a), some (.int b), some (.int x6)], [.int b, .ref 1, .int x19, .ref 6])) rfl ?_
    refine Ex.cal (rest := [.int x19, .ref 6]) (j := m_X6_ordinalAt) (as := [.ref 1, .int b]) (vst (a := 97) (b := 2) (c := 5) (rest := [.int x19, .ref 6]) (vs := [.int b]) rfl ⟨Nat.le_of_ble_eq_true rfl, Nat.le_of_ble_eq_true rfl⟩ rfl rfl (sg_1 hs)) (H.imp ?_)
    intro rv h20 H
    obtain ⟨x21, rfl, H⟩ := H
    obtain ⟨hs, H⟩ := H
    show Ex d [] tb_X6_compare (34, [some (.ref 1), some (.int a), some (.int b), some (.int x6)], [.int x21, .int x19, .ref 6]) h20 _
    refine Ex.cal (rest := []) (j := m_X2_compared) (as := [.ref 6, .int x19, .int x21]) (vst (a := 33) (b := 3) (c := 2) (rest := []) (vs := [.int x19, .int x21]) rfl ⟨Nat.le_of_ble_eq_true rfl, Nat.le_of_ble_eq_true rfl⟩ rfl rfl (sg_6 hs)) (H.imp ?_)
    intro rv h22 H
    obtain ⟨x23, rfl, H⟩ := H
    obtain ⟨hs, H⟩ := H
    show Ex d [] tb_X6_compare (37, [some (.ref 1), some (.int a), some (.int b), some (.int x6)], [.int x23]) h22 _
    exact Ex.iret rfl (Or.inl rfl) H
theorem w_X6_step {d : Nat} {h : XH} {y : Nat → Nat} {K : XK} {E : XE} {a : Int32} {b : Int32} {c : Int32} (hd : 20 ≤ d) (hs : Sg h.1 y) (H : (Ca d m_X6_needPlace [.int a] h (fun rv h1 => rv = none ∧ Sg h1.1 y ∧ (Ca d m_X6_needPlace [.int b] h1 (fun rv h3 => rv = none ∧ Sg h3.1 y ∧ (Ca d m_X6_needRange [.int c, .int 1, .int 99] h3 (fun rv h5 => rv = none ∧ Sg h5.1 y ∧ (Ca d m_X6_ordinalAt [.ref 1, .int b] h5 (fun rv h7 => ∃ x8, rv = some (.int x8) ∧ Sg h7.1 y ∧ (¬ x8 = 0 → (Ca d m_X2_stepped [.ref 6, .int x8, .int c] h7 (fun rv h9 => ∃ x10, rv = some (.int x10) ∧ ∃ y11 : Nat → Nat, Sg h9.1 y11 ∧ (Ca d m_X6_keepOrdinal [.ref 1, .int a, .int x10] h9 (fun rv h12 => rv = none ∧ Sg h12.1 y11 ∧ K none h12) E)) E)) ∧ (¬ (¬ x8 = 0) → E 3 (x_new h7 (4, 3, []) 6))) E)) E)) E)) E)) : Ca (d + 1) m_X6_step [.ref 1, .int a, .int b, .int c] h K E := by
  refine Ca.of ⟨by show 4 ≤ 5; omega, rfl⟩ ?_
  show Ex d [] tb_X6_step (0, [some (.ref 1), some (.int a), some (.int b), some (.int c), none], []) h _
  refine Ex.pure 1 (fr2 := (1, [some (.ref 1), some (.int a), some (.int b), some (.int c), none], [.int a])) rfl ?_
  refine Ex.cal (rest := []) (j := m_X6_needPlace) (as := [.int a]) (fun c => rfl) (H.imp ?_)
  intro rv h1 H
  obtain ⟨rfl, H⟩ := H
  obtain ⟨hs, H⟩ := H
  show Ex d [] tb_X6_step (4, [some (.ref 1), some (.int a), some (.int b), some (.int c), none], []) h1 _
  refine Ex.pure 1 (fr2 := (5, [some (.ref 1), some (.int a), some (.int b), some (.int c), none], [.int b])) rfl ?_
  refine Ex.cal (rest := []) (j := m_X6_needPlace) (as := [.int b]) (fun c => rfl) (H.imp ?_)
  intro rv h3 H
  obtain ⟨rfl, H⟩ := H
  obtain ⟨hs, H⟩ := H
  show Ex d [] tb_X6_step (8, [some (.ref 1), some (.int a), some (.int b), some (.int c), none], []) h3 _
  refine Ex.pure 3 (fr2 := (12, [some (.ref 1), some (.int a), some (.int b), some (.int c), none], [.int 99, .int 1, .int c])) rfl ?_
  refine Ex.cal (rest := []) (j := m_X6_needRange) (as := [.int c, .int 1, .int 99]) (fun c => rfl) (H.imp ?_)
  intro rv h5 H
  obtain ⟨rfl, H⟩ := H
  obtain ⟨hs, H⟩ := H
  show Ex d [] tb_X6_step (15, [some (.ref 1), some (.int a), some (.int b), some (.int c), none], []) h5 _
  refine Ex.pure 2 (fr2 := (17, [some (.ref 1), some (.int a), some (.int b), some (.int c), none], [.int b, .ref 1])) rfl ?_
  refine Ex.cal (rest := []) (j := m_X6_ordinalAt) (as := [.ref 1, .int b]) (vst (a := 97) (b := 2) (c := 5) (rest := []) (vs := [.int b]) rfl ⟨Nat.le_of_ble_eq_true rfl, Nat.le_of_ble_eq_true rfl⟩ rfl rfl (sg_1 hs)) (H.imp ?_)
  intro rv h7 H
  obtain ⟨x8, rfl, H⟩ := H
  obtain ⟨hs, H⟩ := H
  show Ex d [] tb_X6_step (20, [some (.ref 1), some (.int a), some (.int b), some (.int c), none], [.int x8]) h7 _
  refine Ex.pure 2 (fr2 := (24, [some (.ref 1), some (.int a), some (.int b), some (.int c), some (.int x8)], [.int x8])) rfl ?_
  refine Ex.br (x := (37, [some (.ref 1), some (.int a), some (.int b), some (.int c), some (.int x8)], [])) (y := (27, [some (.ref 1), some (.int a), some (.int b), some (.int c), some (.int x8)], [])) (b := ¬ x8 = 0) rfl (fun hb => ?_) (fun hb => ?_)
  · replace H := H.1 (hb)
    refine Ex.pure 3 (fr2 := (40, [some (.ref 1), some (.int a), some (.int b), some (.int c), some (.int x8)], [.ref 1, .int a, .ref 1])) rfl ?_
    refine Ex.getQ rfl (sg_1 hs) rfl ?_
    refine Ex.pure 2 (fr2 := (46, [some (.ref 1), some (.int a), some (.int b), some (.int c), some (.int x8)], [.int c, .int x8, .ref 6, .int a, .ref 1])) rfl ?_
    refine Ex.cal (rest := [.int a, .ref 1]) (j := m_X2_stepped) (as := [.ref 6, .int x8, .int c]) (vst (a := 35) (b := 3) (c := 2) (rest := [.int a, .ref 1]) (vs := [.int x8, .int c]) rfl ⟨Nat.le_of_ble_eq_true rfl, Nat.le_of_ble_eq_true rfl⟩ rfl rfl (sg_6 hs)) (H.imp ?_)
    intro rv h9 H
    obtain ⟨x10, rfl, H⟩ := H
    obtain ⟨y11, hs, H⟩ := H
    show Ex d [] tb_X6_step (49, [some (.ref 1), some (.int a), some (.int b), some (.int c), some (.int x8)], [.int x10, .int a, .ref 1]) h9 _
    refine Ex.cal (rest := []) (j := m_X6_keepOrdinal) (as := [.ref 1, .int a, .int x10]) (vst (a := 102) (b := 3) (c := 5) (rest := []) (vs := [.int a, .int x10]) rfl ⟨Nat.le_of_ble_eq_true rfl, Nat.le_of_ble_eq_true rfl⟩ rfl rfl (sg_1 hs)) (H.imp ?_)
    intro rv h12 H
    obtain ⟨rfl, H⟩ := H
    obtain ⟨hs, H⟩ := H
    show Ex d [] tb_X6_step (52, [some (.ref 1), some (.int a), some (.int b), some (.int c), some (.int x8)], []) h12 _
    exact Ex.vret rfl H
  · replace H := H.2 (hb)
    exact Ex.thr rfl (by decide) H
theorem w_X6_descent {d : Nat} {h : XH} {y : Nat → Nat} {K : XK} {E : XE} {a : Int32} {b : Int32} {c : Int32} (hd : 20 ≤ d) (hs : Sg h.1 y) (H : (Ca d m_X6_needPlace [.int a] h (fun rv h1 => rv = none ∧ Sg h1.1 y ∧ (Ca d m_X6_needRange [.int b, .int 1, .int 99] h1 (fun rv h3 => rv = none ∧ Sg h3.1 y ∧ (Ca d m_X6_needRange [.int c, .int 0, .int 2000] h3 (fun rv h5 => rv = none ∧ Sg h5.1 y ∧ (Ca d m_X6_ordinalAt [.ref 1, .int a] h5 (fun rv h7 => ∃ x8, rv = some (.int x8) ∧ Sg h7.1 y ∧ (Ca d m_X2_stepsToZero [.ref 6, .int x8, .int b, .int c] h7 (fun rv h9 => ∃ x10, rv = some (.int x10) ∧ ∃ y11 : Nat → Nat, Sg h9.1 y11 ∧ K (some (.int x10)) h9) E)) E)) E)) E)) E)) : Ca (d + 1) m_X6_descent [.ref 1, .int a, .int b, .int c] h K E := by
  refine Ca.of ⟨by show 4 ≤ 4; omega, rfl⟩ ?_
  show Ex d [] tb_X6_descent (0, [some (.ref 1), some (.int a), some (.int b), some (.int c)], []) h _
  refine Ex.pure 1 (fr2 := (1, [some (.ref 1), some (.int a), some (.int b), some (.int c)], [.int a])) rfl ?_
  refine Ex.cal (rest := []) (j := m_X6_needPlace) (as := [.int a]) (fun c => rfl) (H.imp ?_)
  intro rv h1 H
  obtain ⟨rfl, H⟩ := H
  obtain ⟨hs, H⟩ := H
  show Ex d [] tb_X6_descent (4, [some (.ref 1), some (.int a), some (.int b), some (.int c)], []) h1 _
  refine Ex.pure 3 (fr2 := (8, [some (.ref 1), some (.int a), some (.int b), some (.int c)], [.int 99, .int 1, .int b])) rfl ?_
  refine Ex.cal (rest := []) (j := m_X6_needRange) (as := [.int b, .int 1, .int 99]) (fun c => rfl) (H.imp ?_)
  intro rv h3 H
  obtain ⟨rfl, H⟩ := H
  obtain ⟨hs, H⟩ := H
  show Ex d [] tb_X6_descent (11, [some (.ref 1), some (.int a), some (.int b), some (.int c)], []) h3 _
  refine Ex.pure 3 (fr2 := (16, [some (.ref 1), some (.int a), some (.int b), some (.int c)], [.int 2000, .int 0, .int c])) rfl ?_
  refine Ex.cal (rest := []) (j := m_X6_needRange) (as := [.int c, .int 0, .int 2000]) (fun c => rfl) (H.imp ?_)
  intro rv h5 H
  obtain ⟨rfl, H⟩ := H
  obtain ⟨hs, H⟩ := H
  show Ex d [] tb_X6_descent (19, [some (.ref 1), some (.int a), some (.int b), some (.int c)], []) h5 _
  refine Ex.pure 1 (fr2 := (20, [some (.ref 1), some (.int a), some (.int b), some (.int c)], [.ref 1])) rfl ?_
  refine Ex.getQ rfl (sg_1 hs) rfl ?_
  refine Ex.pure 2 (fr2 := (25, [some (.ref 1), some (.int a), some (.int b), some (.int c)], [.int a, .ref 1, .ref 6])) rfl ?_
  refine Ex.cal (rest := [.ref 6]) (j := m_X6_ordinalAt) (as := [.ref 1, .int a]) (vst (a := 97) (b := 2) (c := 5) (rest := [.ref 6]) (vs := [.int a]) rfl ⟨Nat.le_of_ble_eq_true rfl, Nat.le_of_ble_eq_true rfl⟩ rfl rfl (sg_1 hs)) (H.imp ?_)
  intro rv h7 H
  obtain ⟨x8, rfl, H⟩ := H
  obtain ⟨hs, H⟩ := H
  show Ex d [] tb_X6_descent (28, [some (.ref 1), some (.int a), some (.int b), some (.int c)], [.int x8, .ref 6]) h7 _
  refine Ex.pure 2 (fr2 := (30, [some (.ref 1), some (.int a), some (.int b), some (.int c)], [.int c, .int b, .int x8, .ref 6])) rfl ?_
  refine Ex.cal (rest := []) (j := m_X2_stepsToZero) (as := [.ref 6, .int x8, .int b, .int c]) (vst (a := 37) (b := 4) (c := 2) (rest := []) (vs := [.int x8, .int b, .int c]) rfl ⟨Nat.le_of_ble_eq_true rfl, Nat.le_of_ble_eq_true rfl⟩ rfl rfl (sg_6 hs)) (H.imp ?_)
  intro rv h9 H
  obtain ⟨x10, rfl, H⟩ := H
  obtain ⟨y11, hs, H⟩ := H
  show Ex d [] tb_X6_descent (33, [some (.ref 1), some (.int a), some (.int b), some (.int c)], [.int x10]) h9 _
  exact Ex.iret rfl (Or.inl rfl) H
theorem w_X6_powers {d : Nat} {h : XH} {y : Nat → Nat} {K : XK} {E : XE} {a : Int32} (hd : 20 ≤ d) (hs : Sg h.1 y) (H : (Ca d m_X6_needPlace [.int a] h (fun rv h1 => rv = none ∧ Sg h1.1 y ∧ (Ca d m_X6_ordinalAt [.ref 1, .int a] h1 (fun rv h3 => ∃ x4, rv = some (.int x4) ∧ Sg h3.1 y ∧ K (some (.int (pw h3 y x4))) h3) E)) E)) : Ca (d + 1) m_X6_powers [.ref 1, .int a] h K E := by
  refine Ca.of ⟨by show 2 ≤ 2; omega, rfl⟩ ?_
  show Ex d [] tb_X6_powers (0, [some (.ref 1), some (.int a)], []) h _
  refine Ex.pure 1 (fr2 := (1, [some (.ref 1), some (.int a)], [.int a])) rfl ?_
  refine Ex.cal (rest := []) (j := m_X6_needPlace) (as := [.int a]) (fun c => rfl) (H.imp ?_)
  intro rv h1 H
  obtain ⟨rfl, H⟩ := H
  obtain ⟨hs, H⟩ := H
  show Ex d [] tb_X6_powers (4, [some (.ref 1), some (.int a)], []) h1 _
  refine Ex.pure 1 (fr2 := (5, [some (.ref 1), some (.int a)], [.ref 1])) rfl ?_
  refine Ex.getQ rfl (sg_1 hs) rfl ?_
  refine Ex.pure 2 (fr2 := (10, [some (.ref 1), some (.int a)], [.int a, .ref 1, .ref 6])) rfl ?_
  refine Ex.cal (rest := [.ref 6]) (j := m_X6_ordinalAt) (as := [.ref 1, .int a]) (vst (a := 97) (b := 2) (c := 5) (rest := [.ref 6]) (vs := [.int a]) rfl ⟨Nat.le_of_ble_eq_true rfl, Nat.le_of_ble_eq_true rfl⟩ rfl rfl (sg_1 hs)) (H.imp ?_)
  intro rv h3 H
  obtain ⟨x4, rfl, H⟩ := H
  obtain ⟨hs, H⟩ := H
  show Ex d [] tb_X6_powers (13, [some (.ref 1), some (.int a)], [.int x4, .ref 6]) h3 _
  refine Ex.ask (rest := []) (j := m_X2_powersOf) (as := [.ref 6, .int x4]) (vst (a := 22) (b := 2) (c := 2) (rest := []) (vs := [.int x4]) rfl ⟨Nat.le_of_ble_eq_true rfl, Nat.le_of_ble_eq_true rfl⟩ rfl rfl (sg_6 hs)) ((t_X2_powersOf (d := 0) (sg_6 hs) rfl (sg_y0 hs) (sg_l0 hs)).mono (by omega) (fun _ _ z => z)) ?_
  rintro _ h0 ⟨rfl, e0⟩
  rw [e0]
  show Ex d [] tb_X6_powers (16, [some (.ref 1), some (.int a)], [.int (pw h3 y x4)]) h3 _
  exact Ex.iret rfl (Or.inl rfl) H
theorem w_X6_times {d : Nat} {h : XH} {y : Nat → Nat} {K : XK} {E : XE} {a : Int32} {b : Int32} (hd : 20 ≤ d) (hs : Sg h.1 y) (H : (Ca d m_X6_needPlace [.int a] h (fun rv h1 => rv = none ∧ Sg h1.1 y ∧ (Ca d m_X6_needRow [.int b] h1 (fun rv h3 => rv = none ∧ Sg h3.1 y ∧ (Ca d m_X6_ordinalWithPower [.ref 1, .int a, .int b] h3 (fun rv h5 => ∃ x6, rv = some (.int x6) ∧ Sg h5.1 y ∧ K (some (.long (((tm h5 y x6 b) : Int32).toInt64))) h5) E)) E)) E)) : Ca (d + 1) m_X6_times [.ref 1, .int a, .int b] h K E := by
  refine Ca.of ⟨by show 3 ≤ 3; omega, rfl⟩ ?_
  show Ex d [] tb_X6_times (0, [some (.ref 1), some (.int a), some (.int b)], []) h _
  refine Ex.pure 1 (fr2 := (1, [some (.ref 1), some (.int a), some (.int b)], [.int a])) rfl ?_
  refine Ex.cal (rest := []) (j := m_X6_needPlace) (as := [.int a]) (fun c => rfl) (H.imp ?_)
  intro rv h1 H
  obtain ⟨rfl, H⟩ := H
  obtain ⟨hs, H⟩ := H
  show Ex d [] tb_X6_times (4, [some (.ref 1), some (.int a), some (.int b)], []) h1 _
  refine Ex.pure 1 (fr2 := (5, [some (.ref 1), some (.int a), some (.int b)], [.int b])) rfl ?_
  refine Ex.cal (rest := []) (j := m_X6_needRow) (as := [.int b]) (fun c => rfl) (H.imp ?_)
  intro rv h3 H
  obtain ⟨rfl, H⟩ := H
  obtain ⟨hs, H⟩ := H
  show Ex d [] tb_X6_times (8, [some (.ref 1), some (.int a), some (.int b)], []) h3 _
  refine Ex.pure 1 (fr2 := (9, [some (.ref 1), some (.int a), some (.int b)], [.ref 1])) rfl ?_
  refine Ex.getQ rfl (sg_1 hs) rfl ?_
  refine Ex.pure 3 (fr2 := (15, [some (.ref 1), some (.int a), some (.int b)], [.int b, .int a, .ref 1, .ref 6])) rfl ?_
  refine Ex.cal (rest := [.ref 6]) (j := m_X6_ordinalWithPower) (as := [.ref 1, .int a, .int b]) (vst (a := 98) (b := 3) (c := 5) (rest := [.ref 6]) (vs := [.int a, .int b]) rfl ⟨Nat.le_of_ble_eq_true rfl, Nat.le_of_ble_eq_true rfl⟩ rfl rfl (sg_1 hs)) (H.imp ?_)
  intro rv h5 H
  obtain ⟨x6, rfl, H⟩ := H
  obtain ⟨hs, H⟩ := H
  show Ex d [] tb_X6_times (18, [some (.ref 1), some (.int a), some (.int b)], [.int x6, .ref 6]) h5 _
  refine Ex.pure 1 (fr2 := (19, [some (.ref 1), some (.int a), some (.int b)], [.int b, .int x6, .ref 6])) rfl ?_
  refine Ex.ask (rest := []) (j := m_X2_timesOf) (as := [.ref 6, .int x6, .int b]) (vst (a := 23) (b := 3) (c := 2) (rest := []) (vs := [.int x6, .int b]) rfl ⟨Nat.le_of_ble_eq_true rfl, Nat.le_of_ble_eq_true rfl⟩ rfl rfl (sg_6 hs)) ((t_X2_timesOf (d := 0) (sg_6 hs) rfl rfl (sg_y0 hs) (sg_l0 hs) (sg_y2 hs) (sg_l2 hs)).mono (by omega) (fun _ _ z => z)) ?_
  rintro _ h0 ⟨rfl, e0⟩
  rw [e0]
  show Ex d [] tb_X6_times (22, [some (.ref 1), some (.int a), some (.int b)], [.int (tm h5 y x6 b)]) h5 _
  refine Ex.pure 1 (fr2 := (23, [some (.ref 1), some (.int a), some (.int b)], [.long (((tm h5 y x6 b) : Int32).toInt64)])) rfl ?_
  exact Ex.lret rfl H
theorem w_X6_exponent {d : Nat} {h : XH} {y : Nat → Nat} {K : XK} {E : XE} {a : Int32} {b : Int32} {c : Int32} (hd : 20 ≤ d) (hs : Sg h.1 y) (H : (Ca d m_X6_needPlace [.int a] h (fun rv h1 => rv = none ∧ Sg h1.1 y ∧ (Ca d m_X6_needPlace [.int b] h1 (fun rv h3 => rv = none ∧ Sg h3.1 y ∧ (Ca d m_X6_needRow [.int c] h3 (fun rv h5 => rv = none ∧ Sg h5.1 y ∧ (Ca d m_X6_ordinalWithPower [.ref 1, .int b, .int c] h5 (fun rv h7 => ∃ x8, rv = some (.int x8) ∧ Sg h7.1 y ∧ (Ca d m_X6_keepOrdinal [.ref 1, .int a, .int (xp h7 y x8 c)] h7 (fun rv h10 => rv = none ∧ Sg h10.1 y ∧ K none h10) E)) E)) E)) E)) E)) : Ca (d + 1) m_X6_exponent [.ref 1, .int a, .int b, .int c] h K E := by
  refine Ca.of ⟨by show 4 ≤ 4; omega, rfl⟩ ?_
  show Ex d [] tb_X6_exponent (0, [some (.ref 1), some (.int a), some (.int b), some (.int c)], []) h _
  refine Ex.pure 1 (fr2 := (1, [some (.ref 1), some (.int a), some (.int b), some (.int c)], [.int a])) rfl ?_
  refine Ex.cal (rest := []) (j := m_X6_needPlace) (as := [.int a]) (fun c => rfl) (H.imp ?_)
  intro rv h1 H
  obtain ⟨rfl, H⟩ := H
  obtain ⟨hs, H⟩ := H
  show Ex d [] tb_X6_exponent (4, [some (.ref 1), some (.int a), some (.int b), some (.int c)], []) h1 _
  refine Ex.pure 1 (fr2 := (5, [some (.ref 1), some (.int a), some (.int b), some (.int c)], [.int b])) rfl ?_
  refine Ex.cal (rest := []) (j := m_X6_needPlace) (as := [.int b]) (fun c => rfl) (H.imp ?_)
  intro rv h3 H
  obtain ⟨rfl, H⟩ := H
  obtain ⟨hs, H⟩ := H
  show Ex d [] tb_X6_exponent (8, [some (.ref 1), some (.int a), some (.int b), some (.int c)], []) h3 _
  refine Ex.pure 1 (fr2 := (9, [some (.ref 1), some (.int a), some (.int b), some (.int c)], [.int c])) rfl ?_
  refine Ex.cal (rest := []) (j := m_X6_needRow) (as := [.int c]) (fun c => rfl) (H.imp ?_)
  intro rv h5 H
  obtain ⟨rfl, H⟩ := H
  obtain ⟨hs, H⟩ := H
  show Ex d [] tb_X6_exponent (12, [some (.ref 1), some (.int a), some (.int b), some (.int c)], []) h5 _
  refine Ex.pure 3 (fr2 := (15, [some (.ref 1), some (.int a), some (.int b), some (.int c)], [.ref 1, .int a, .ref 1])) rfl ?_
  refine Ex.getQ rfl (sg_1 hs) rfl ?_
  refine Ex.pure 3 (fr2 := (21, [some (.ref 1), some (.int a), some (.int b), some (.int c)], [.int c, .int b, .ref 1, .ref 6, .int a, .ref 1])) rfl ?_
  refine Ex.cal (rest := [.ref 6, .int a, .ref 1]) (j := m_X6_ordinalWithPower) (as := [.ref 1, .int b, .int c]) (vst (a := 98) (b := 3) (c := 5) (rest := [.ref 6, .int a, .ref 1]) (vs := [.int b, .int c]) rfl ⟨Nat.le_of_ble_eq_true rfl, Nat.le_of_ble_eq_true rfl⟩ rfl rfl (sg_1 hs)) (H.imp ?_)
  intro rv h7 H
  obtain ⟨x8, rfl, H⟩ := H
  obtain ⟨hs, H⟩ := H
  show Ex d [] tb_X6_exponent (24, [some (.ref 1), some (.int a), some (.int b), some (.int c)], [.int x8, .ref 6, .int a, .ref 1]) h7 _
  refine Ex.pure 1 (fr2 := (25, [some (.ref 1), some (.int a), some (.int b), some (.int c)], [.int c, .int x8, .ref 6, .int a, .ref 1])) rfl ?_
  refine Ex.ask (rest := [.int a, .ref 1]) (j := m_X2_exponentOf) (as := [.ref 6, .int x8, .int c]) (vst (a := 24) (b := 3) (c := 2) (rest := [.int a, .ref 1]) (vs := [.int x8, .int c]) rfl ⟨Nat.le_of_ble_eq_true rfl, Nat.le_of_ble_eq_true rfl⟩ rfl rfl (sg_6 hs)) ((t_X2_exponentOf (d := 0) (sg_6 hs) rfl rfl (sg_y0 hs) (sg_l0 hs) (sg_y3 hs) (sg_l3 hs)).mono (by omega) (fun _ _ z => z)) ?_
  rintro _ h0 ⟨rfl, e0⟩
  rw [e0]
  show Ex d [] tb_X6_exponent (28, [some (.ref 1), some (.int a), some (.int b), some (.int c)], [.int (xp h7 y x8 c), .int a, .ref 1]) h7 _
  refine Ex.cal (rest := []) (j := m_X6_keepOrdinal) (as := [.ref 1, .int a, .int (xp h7 y x8 c)]) (vst (a := 102) (b := 3) (c := 5) (rest := []) (vs := [.int a, .int (xp h7 y x8 c)]) rfl ⟨Nat.le_of_ble_eq_true rfl, Nat.le_of_ble_eq_true rfl⟩ rfl rfl (sg_1 hs)) (H.imp ?_)
  intro rv h10 H
  obtain ⟨rfl, H⟩ := H
  obtain ⟨hs, H⟩ := H
  show Ex d [] tb_X6_exponent (31, [some (.ref 1), some (.int a), some (.int b), some (.int c)], []) h10 _
  exact Ex.vret rfl H
theorem w_X6_cut {d : Nat} {h : XH} {y : Nat → Nat} {K : XK} {E : XE} {a : Int32} {b : Int32} {c : Int32} (hd : 20 ≤ d) (hs : Sg h.1 y) (H : (Ca d m_X6_needPlace [.int a] h (fun rv h1 => rv = none ∧ Sg h1.1 y ∧ (Ca d m_X6_needRange [.int b, .int 0, .int 65535] h1 (fun rv h3 => rv = none ∧ Sg h3.1 y ∧ (Ca d m_X6_needRange [.int c, .int 0, .int 65535] h3 (fun rv h5 => rv = none ∧ Sg h5.1 y ∧ (Ca d m_X6_greatestOf [.ref 1, .int b] h5 (fun rv h7 => ∃ x8, rv = some (.long x8) ∧ Sg h7.1 y ∧ (Ca d m_X6_leastOf [.ref 1, .int c] h7 (fun rv h9 => ∃ x10, rv = some (.long x10) ∧ Sg h9.1 y ∧ (x10 ≤ x8 → E 3 (x_new h9 (4, 3, []) 6)) ∧ (¬ (x10 ≤ x8) → (Ca d m_X5_between [.ref 18, .long x8, .long x10] h9 (fun rv h11 => ∃ x12, rv = some (.int x12) ∧ Sg h11.1 y ∧ (¬ x12 = 0 → (Ca d m_X6_keepNumber [.ref 1, .int a, .long (h11.2.2.1 18 0)] h11 (fun rv h14 => rv = none ∧ Sg h14.1 y ∧ K (some (.int (h14.2.1 18 3))) h14) E)) ∧ (¬ (¬ x12 = 0) → E 3 (x_new h11 (4, 3, []) 6))) E))) E)) E)) E)) E)) E)) : Ca (d + 1) m_X6_cut [.ref 1, .int a, .int b, .int c] h K E := by
  refine Ca.of ⟨by show 4 ≤ 8; omega, rfl⟩ ?_
  show Ex d [] tb_X6_cut (0, [some (.ref 1), some (.int a), some (.int b), some (.int c), none, none, none, none], []) h _
  refine Ex.pure 1 (fr2 := (1, [some (.ref 1), some (.int a), some (.int b), some (.int c), none, none, none, none], [.int a])) rfl ?_
  refine Ex.cal (rest := []) (j := m_X6_needPlace) (as := [.int a]) (fun c => rfl) (H.imp ?_)
  intro rv h1 H
  obtain ⟨rfl, H⟩ := H
  obtain ⟨hs, H⟩ := H
  show Ex d [] tb_X6_cut (4, [some (.ref 1), some (.int a), some (.int b), some (.int c), none, none, none, none], []) h1 _
  refine Ex.pure 3 (fr2 := (8, [some (.ref 1), some (.int a), some (.int b), some (.int c), none, none, none, none], [.int 65535, .int 0, .int b])) rfl ?_
  refine Ex.cal (rest := []) (j := m_X6_needRange) (as := [.int b, .int 0, .int 65535]) (fun c => rfl) (H.imp ?_)
  intro rv h3 H
  obtain ⟨rfl, H⟩ := H
  obtain ⟨hs, H⟩ := H
  show Ex d [] tb_X6_cut (11, [some (.ref 1), some (.int a), some (.int b), some (.int c), none, none, none, none], []) h3 _
  refine Ex.pure 3 (fr2 := (15, [some (.ref 1), some (.int a), some (.int b), some (.int c), none, none, none, none], [.int 65535, .int 0, .int c])) rfl ?_
  refine Ex.cal (rest := []) (j := m_X6_needRange) (as := [.int c, .int 0, .int 65535]) (fun c => rfl) (H.imp ?_)
  intro rv h5 H
  obtain ⟨rfl, H⟩ := H
  obtain ⟨hs, H⟩ := H
  show Ex d [] tb_X6_cut (18, [some (.ref 1), some (.int a), some (.int b), some (.int c), none, none, none, none], []) h5 _
  refine Ex.pure 2 (fr2 := (20, [some (.ref 1), some (.int a), some (.int b), some (.int c), none, none, none, none], [.int b, .ref 1])) rfl ?_
  refine Ex.cal (rest := []) (j := m_X6_greatestOf) (as := [.ref 1, .int b]) (vst (a := 107) (b := 2) (c := 5) (rest := []) (vs := [.int b]) rfl ⟨Nat.le_of_ble_eq_true rfl, Nat.le_of_ble_eq_true rfl⟩ rfl rfl (sg_1 hs)) (H.imp ?_)
  intro rv h7 H
  obtain ⟨x8, rfl, H⟩ := H
  obtain ⟨hs, H⟩ := H
  show Ex d [] tb_X6_cut (23, [some (.ref 1), some (.int a), some (.int b), some (.int c), none, none, none, none], [.long x8]) h7 _
  refine Ex.pure 3 (fr2 := (27, [some (.ref 1), some (.int a), some (.int b), some (.int c), some (.long x8), none, none, none], [.int c, .ref 1])) rfl ?_
  refine Ex.cal (rest := []) (j := m_X6_leastOf) (as := [.ref 1, .int c]) (vst (a := 108) (b := 2) (c := 5) (rest := []) (vs := [.int c]) rfl ⟨Nat.le_of_ble_eq_true rfl, Nat.le_of_ble_eq_true rfl⟩ rfl rfl (sg_1 hs)) (H.imp ?_)
  intro rv h9 H
  obtain ⟨x10, rfl, H⟩ := H
  obtain ⟨hs, H⟩ := H
  show Ex d [] tb_X6_cut (30, [some (.ref 1), some (.int a), some (.int b), some (.int c), some (.long x8), none, none, none], [.long x10]) h9 _
  refine Ex.pure 4 (fr2 := (37, [some (.ref 1), some (.int a), some (.int b), some (.int c), some (.long x8), none, some (.long x10), none], [.int (lg_cmp x8 x10)])) rfl ?_
  refine Ex.br (x := (54, [some (.ref 1), some (.int a), some (.int b), some (.int c), some (.long x8), none, some (.long x10), none], [])) (y := (40, [some (.ref 1), some (.int a), some (.int b), some (.int c), some (.long x8), none, some (.long x10), none], [])) (b := 0 ≤ (lg_cmp x8 x10)) rfl (fun hb => ?_) (fun hb => ?_)
  · replace H := H.1 ((lg_cmp_ge _ _).mp hb)
    exact Ex.thr rfl (by decide) H
  · replace H := H.2 (fun z => hb ((lg_cmp_ge _ _).mpr z))
    refine Ex.pure 1 (fr2 := (41, [some (.ref 1), some (.int a), some (.int b), some (.int c), some (.long x8), none, some (.long x10), none], [.ref 1])) rfl ?_
    refine Ex.getQ rfl (sg_1 hs) rfl ?_
    refine Ex.pure 2 (fr2 := (48, [some (.ref 1), some (.int a), some (.int b), some (.int c), some (.long x8), none, some (.long x10), none], [.long x10, .long x8, .ref 18])) rfl ?_
    refine Ex.cal (rest := []) (j := m_X5_between) (as := [.ref 18, .long x8, .long x10]) (vst (a := 65) (b := 3) (c := 4) (rest := []) (vs := [.long x8, .long x10]) rfl ⟨Nat.le_of_ble_eq_true rfl, Nat.le_of_ble_eq_true rfl⟩ rfl rfl (sg_18 hs)) (H.imp ?_)
    intro rv h11 H
    obtain ⟨x12, rfl, H⟩ := H
    obtain ⟨hs, H⟩ := H
    show Ex d [] tb_X6_cut (51, [some (.ref 1), some (.int a), some (.int b), some (.int c), some (.long x8), none, some (.long x10), none], [.int x12]) h11 _
    refine Ex.br (x := (64, [some (.ref 1), some (.int a), some (.int b), some (.int c), some (.long x8), none, some (.long x10), none], [])) (y := (54, [some (.ref 1), some (.int a), some (.int b), some (.int c), some (.long x8), none, some (.long x10), none], [])) (b := ¬ x12 = 0) rfl (fun hb => ?_) (fun hb => ?_)
    · replace H := H.1 (hb)
      refine Ex.pure 3 (fr2 := (67, [some (.ref 1), some (.int a), some (.int b), some (.int c), some (.long x8), none, some (.long x10), none], [.ref 1, .int a, .ref 1])) rfl ?_
      refine Ex.getQ rfl (sg_1 hs) rfl ?_
      refine Ex.ask (rest := [.int a, .ref 1]) (j := m_X5_value) (as := [.ref 18]) (vst (a := 60) (b := 1) (c := 4) (rest := [.int a, .ref 1]) (vs := []) rfl ⟨Nat.le_of_ble_eq_true rfl, Nat.le_of_ble_eq_true rfl⟩ rfl rfl (sg_18 hs)) ((t_X5_value hs).mono (by omega) (fun _ _ z => z)) ?_
      rintro _ h0 ⟨rfl, e0⟩
      rw [e0]
      show Ex d [] tb_X6_cut (73, [some (.ref 1), some (.int a), some (.int b), some (.int c), some (.long x8), none, some (.long x10), none], [.long (h11.2.2.1 18 0), .int a, .ref 1]) h11 _
      refine Ex.cal (rest := []) (j := m_X6_keepNumber) (as := [.ref 1, .int a, .long (h11.2.2.1 18 0)]) (vst (a := 103) (b := 3) (c := 5) (rest := []) (vs := [.int a, .long (h11.2.2.1 18 0)]) rfl ⟨Nat.le_of_ble_eq_true rfl, Nat.le_of_ble_eq_true rfl⟩ rfl rfl (sg_1 hs)) (H.imp ?_)
      intro rv h14 H
      obtain ⟨rfl, H⟩ := H
      obtain ⟨hs, H⟩ := H
      show Ex d [] tb_X6_cut (76, [some (.ref 1), some (.int a), some (.int b), some (.int c), some (.long x8), none, some (.long x10), none], []) h14 _
      refine Ex.pure 1 (fr2 := (77, [some (.ref 1), some (.int a), some (.int b), some (.int c), some (.long x8), none, some (.long x10), none], [.ref 1])) rfl ?_
      refine Ex.getQ rfl (sg_1 hs) rfl ?_
      refine Ex.ask (rest := []) (j := m_X5_length) (as := [.ref 18]) (vst (a := 61) (b := 1) (c := 4) (rest := []) (vs := []) rfl ⟨Nat.le_of_ble_eq_true rfl, Nat.le_of_ble_eq_true rfl⟩ rfl rfl (sg_18 hs)) ((t_X5_length hs).mono (by omega) (fun _ _ z => z)) ?_
      rintro _ h0 ⟨rfl, e0⟩
      rw [e0]
      show Ex d [] tb_X6_cut (83, [some (.ref 1), some (.int a), some (.int b), some (.int c), some (.long x8), none, some (.long x10), none], [.int (h14.2.1 18 3)]) h14 _
      exact Ex.iret rfl (Or.inl rfl) H
    · replace H := H.2 (hb)
      exact Ex.thr rfl (by decide) H
theorem w_X6_birthday {d : Nat} {h : XH} {y : Nat → Nat} {K : XK} {E : XE} {a : Int32} (hd : 20 ≤ d) (hs : Sg h.1 y) (H : (Ca d m_X6_needPlace [.int a] h (fun rv h1 => rv = none ∧ Sg h1.1 y ∧ (Ca d m_X6_numberAt [.ref 1, .int a] h1 (fun rv h3 => ∃ x4, rv = some (.long x4) ∧ Sg h3.1 y ∧ (Ca d m_X5_toward [.ref 18, .long x4, .int 300] h3 (fun rv h5 => rv = none ∧ Sg h5.1 y ∧ K (some (.int (h5.2.1 18 3))) h5) E)) E)) E)) : Ca (d + 1) m_X6_birthday [.ref 1, .int a] h K E := by
  refine Ca.of ⟨by show 2 ≤ 2; omega, rfl⟩ ?_
  show Ex d [] tb_X6_birthday (0, [some (.ref 1), some (.int a)], []) h _
  refine Ex.pure 1 (fr2 := (1, [some (.ref 1), some (.int a)], [.int a])) rfl ?_
  refine Ex.cal (rest := []) (j := m_X6_needPlace) (as := [.int a]) (fun c => rfl) (H.imp ?_)
  intro rv h1 H
  obtain ⟨rfl, H⟩ := H
  obtain ⟨hs, H⟩ := H
  show Ex d [] tb_X6_birthday (4, [some (.ref 1), some (.int a)], []) h1 _
  refine Ex.pure 1 (fr2 := (5, [some (.ref 1), some (.int a)], [.ref 1])) rfl ?_
  refine Ex.getQ rfl (sg_1 hs) rfl ?_
  refine Ex.pure 2 (fr2 := (10, [some (.ref 1), some (.int a)], [.int a, .ref 1, .ref 18])) rfl ?_
  refine Ex.cal (rest := [.ref 18]) (j := m_X6_numberAt) (as := [.ref 1, .int a]) (vst (a := 99) (b := 2) (c := 5) (rest := [.ref 18]) (vs := [.int a]) rfl ⟨Nat.le_of_ble_eq_true rfl, Nat.le_of_ble_eq_true rfl⟩ rfl rfl (sg_1 hs)) (H.imp ?_)
  intro rv h3 H
  obtain ⟨x4, rfl, H⟩ := H
  obtain ⟨hs, H⟩ := H
  show Ex d [] tb_X6_birthday (13, [some (.ref 1), some (.int a)], [.long x4, .ref 18]) h3 _
  refine Ex.pure 1 (fr2 := (16, [some (.ref 1), some (.int a)], [.int 300, .long x4, .ref 18])) rfl ?_
  refine Ex.cal (rest := []) (j := m_X5_toward) (as := [.ref 18, .long x4, .int 300]) (vst (a := 64) (b := 3) (c := 4) (rest := []) (vs := [.long x4, .int 300]) rfl ⟨Nat.le_of_ble_eq_true rfl, Nat.le_of_ble_eq_true rfl⟩ rfl rfl (sg_18 hs)) (H.imp ?_)
  intro rv h5 H
  obtain ⟨rfl, H⟩ := H
  obtain ⟨hs, H⟩ := H
  show Ex d [] tb_X6_birthday (19, [some (.ref 1), some (.int a)], []) h5 _
  refine Ex.pure 1 (fr2 := (20, [some (.ref 1), some (.int a)], [.ref 1])) rfl ?_
  refine Ex.getQ rfl (sg_1 hs) rfl ?_
  refine Ex.ask (rest := []) (j := m_X5_length) (as := [.ref 18]) (vst (a := 61) (b := 1) (c := 4) (rest := []) (vs := []) rfl ⟨Nat.le_of_ble_eq_true rfl, Nat.le_of_ble_eq_true rfl⟩ rfl rfl (sg_18 hs)) ((t_X5_length hs).mono (by omega) (fun _ _ z => z)) ?_
  rintro _ h0 ⟨rfl, e0⟩
  rw [e0]
  show Ex d [] tb_X6_birthday (26, [some (.ref 1), some (.int a)], [.int (h5.2.1 18 3)]) h5 _
  exact Ex.iret rfl (Or.inl rfl) H
theorem w_X6_signOf {d : Nat} {h : XH} {y : Nat → Nat} {K : XK} {E : XE} {a : Int32} {b : Int32} (hd : 20 ≤ d) (hs : Sg h.1 y) (H : (Ca d m_X6_needPlace [.int a] h (fun rv h1 => rv = none ∧ Sg h1.1 y ∧ (Ca d m_X6_needRow [.int b] h1 (fun rv h3 => rv = none ∧ Sg h3.1 y ∧ (Ca d m_X6_numberAt [.ref 1, .int a] h3 (fun rv h5 => ∃ x6, rv = some (.long x6) ∧ Sg h5.1 y ∧ (Ca d m_X5_toward [.ref 18, .long x6, .int b] h5 (fun rv h7 => rv = none ∧ Sg h7.1 y ∧ K (some (.int (c_J x6 (h7.2.2.1 18 0)))) h7) E)) E)) E)) E)) : Ca (d + 1) m_X6_signOf [.ref 1, .int a, .int b] h K E := by
  refine Ca.of ⟨by show 3 ≤ 5; omega, rfl⟩ ?_
  show Ex d [] tb_X6_signOf (0, [some (.ref 1), some (.int a), some (.int b), none, none], []) h _
  refine Ex.pure 1 (fr2 := (1, [some (.ref 1), some (.int a), some (.int b), none, none], [.int a])) rfl ?_
  refine Ex.cal (rest := []) (j := m_X6_needPlace) (as := [.int a]) (fun c => rfl) (H.imp ?_)
  intro rv h1 H
  obtain ⟨rfl, H⟩ := H
  obtain ⟨hs, H⟩ := H
  show Ex d [] tb_X6_signOf (4, [some (.ref 1), some (.int a), some (.int b), none, none], []) h1 _
  refine Ex.pure 1 (fr2 := (5, [some (.ref 1), some (.int a), some (.int b), none, none], [.int b])) rfl ?_
  refine Ex.cal (rest := []) (j := m_X6_needRow) (as := [.int b]) (fun c => rfl) (H.imp ?_)
  intro rv h3 H
  obtain ⟨rfl, H⟩ := H
  obtain ⟨hs, H⟩ := H
  show Ex d [] tb_X6_signOf (8, [some (.ref 1), some (.int a), some (.int b), none, none], []) h3 _
  refine Ex.pure 2 (fr2 := (10, [some (.ref 1), some (.int a), some (.int b), none, none], [.int a, .ref 1])) rfl ?_
  refine Ex.cal (rest := []) (j := m_X6_numberAt) (as := [.ref 1, .int a]) (vst (a := 99) (b := 2) (c := 5) (rest := []) (vs := [.int a]) rfl ⟨Nat.le_of_ble_eq_true rfl, Nat.le_of_ble_eq_true rfl⟩ rfl rfl (sg_1 hs)) (H.imp ?_)
  intro rv h5 H
  obtain ⟨x6, rfl, H⟩ := H
  obtain ⟨hs, H⟩ := H
  show Ex d [] tb_X6_signOf (13, [some (.ref 1), some (.int a), some (.int b), none, none], [.long x6]) h5 _
  refine Ex.pure 2 (fr2 := (15, [some (.ref 1), some (.int a), some (.int b), some (.long x6), none], [.ref 1])) rfl ?_
  refine Ex.getQ rfl (sg_1 hs) rfl ?_
  refine Ex.pure 2 (fr2 := (20, [some (.ref 1), some (.int a), some (.int b), some (.long x6), none], [.int b, .long x6, .ref 18])) rfl ?_
  refine Ex.cal (rest := []) (j := m_X5_toward) (as := [.ref 18, .long x6, .int b]) (vst (a := 64) (b := 3) (c := 4) (rest := []) (vs := [.long x6, .int b]) rfl ⟨Nat.le_of_ble_eq_true rfl, Nat.le_of_ble_eq_true rfl⟩ rfl rfl (sg_18 hs)) (H.imp ?_)
  intro rv h7 H
  obtain ⟨rfl, H⟩ := H
  obtain ⟨hs, H⟩ := H
  show Ex d [] tb_X6_signOf (23, [some (.ref 1), some (.int a), some (.int b), some (.long x6), none], []) h7 _
  refine Ex.pure 2 (fr2 := (25, [some (.ref 1), some (.int a), some (.int b), some (.long x6), none], [.ref 1, .long x6])) rfl ?_
  refine Ex.getQ rfl (sg_1 hs) rfl ?_
  refine Ex.ask (rest := [.long x6]) (j := m_X5_value) (as := [.ref 18]) (vst (a := 60) (b := 1) (c := 4) (rest := [.long x6]) (vs := []) rfl ⟨Nat.le_of_ble_eq_true rfl, Nat.le_of_ble_eq_true rfl⟩ rfl rfl (sg_18 hs)) ((t_X5_value hs).mono (by omega) (fun _ _ z => z)) ?_
  rintro _ h0 ⟨rfl, e0⟩
  rw [e0]
  show Ex d [] tb_X6_signOf (31, [some (.ref 1), some (.int a), some (.int b), some (.long x6), none], [.long (h7.2.2.1 18 0), .long x6]) h7 _
  refine Ex.ask (rest := []) (j := m_J13_compare_74951) (as := [.long x6, .long (h7.2.2.1 18 0)]) (fun c => rfl) ((t_J13_compare_74951 hs).mono (by omega) (fun _ _ z => z)) ?_
  rintro _ h0 ⟨rfl, e0⟩
  rw [e0]
  show Ex d [] tb_X6_signOf (34, [some (.ref 1), some (.int a), some (.int b), some (.long x6), none], [.int (c_J x6 (h7.2.2.1 18 0))]) h7 _
  exact Ex.iret rfl (Or.inl rfl) H
theorem w_X6_parts {d : Nat} {h : XH} {y : Nat → Nat} {K : XK} {E : XE} {a : Int32} (hd : 20 ≤ d) (hs : Sg h.1 y) (H : (Ca d m_X6_needPlace [.int a] h (fun rv h1 => rv = none ∧ Sg h1.1 y ∧ (Ca d m_X6_numberAt [.ref 1, .int a] h1 (fun rv h3 => ∃ x4, rv = some (.long x4) ∧ Sg h3.1 y ∧ K (some (.long x4)) h3) E)) E)) : Ca (d + 1) m_X6_parts [.ref 1, .int a] h K E := by
  refine Ca.of ⟨by show 2 ≤ 2; omega, rfl⟩ ?_
  show Ex d [] tb_X6_parts (0, [some (.ref 1), some (.int a)], []) h _
  refine Ex.pure 1 (fr2 := (1, [some (.ref 1), some (.int a)], [.int a])) rfl ?_
  refine Ex.cal (rest := []) (j := m_X6_needPlace) (as := [.int a]) (fun c => rfl) (H.imp ?_)
  intro rv h1 H
  obtain ⟨rfl, H⟩ := H
  obtain ⟨hs, H⟩ := H
  show Ex d [] tb_X6_parts (4, [some (.ref 1), some (.int a)], []) h1 _
  refine Ex.pure 2 (fr2 := (6, [some (.ref 1), some (.int a)], [.int a, .ref 1])) rfl ?_
  refine Ex.cal (rest := []) (j := m_X6_numberAt) (as := [.ref 1, .int a]) (vst (a := 99) (b := 2) (c := 5) (rest := []) (vs := [.int a]) rfl ⟨Nat.le_of_ble_eq_true rfl, Nat.le_of_ble_eq_true rfl⟩ rfl rfl (sg_1 hs)) (H.imp ?_)
  intro rv h3 H
  obtain ⟨x4, rfl, H⟩ := H
  obtain ⟨hs, H⟩ := H
  show Ex d [] tb_X6_parts (9, [some (.ref 1), some (.int a)], [.long x4]) h3 _
  exact Ex.lret rfl H
theorem w_X6_tends {d : Nat} {h : XH} {y : Nat → Nat} {K : XK} {E : XE} {a : Int32} (hd : 20 ≤ d) (hs : Sg h.1 y) (H : (Ca d m_X6_needPlace [.int a] h (fun rv h1 => rv = none ∧ Sg h1.1 y ∧ (Ca d m_X6_growthAt [.ref 1, .int a] h1 (fun rv h3 => ∃ x4, rv = some (.ref x4) ∧ Sg h3.1 y ∧ ∃ n_x4, Gq h3.1 x4 n_x4 ∧ n_x4 < 2 ^ 31 ∧ (Ca d m_X1_limit [.ref x4] h3 (fun rv h5 => ∃ x6, rv = some (.int x6) ∧ Sg h5.1 y ∧ Gq h5.1 x4 n_x4 ∧ K (some (.int x6)) h5) E)) E)) E)) : Ca (d + 1) m_X6_tends [.ref 1, .int a] h K E := by
  refine Ca.of ⟨by show 2 ≤ 2; omega, rfl⟩ ?_
  show Ex d [] tb_X6_tends (0, [some (.ref 1), some (.int a)], []) h _
  refine Ex.pure 1 (fr2 := (1, [some (.ref 1), some (.int a)], [.int a])) rfl ?_
  refine Ex.cal (rest := []) (j := m_X6_needPlace) (as := [.int a]) (fun c => rfl) (H.imp ?_)
  intro rv h1 H
  obtain ⟨rfl, H⟩ := H
  obtain ⟨hs, H⟩ := H
  show Ex d [] tb_X6_tends (4, [some (.ref 1), some (.int a)], []) h1 _
  refine Ex.pure 2 (fr2 := (6, [some (.ref 1), some (.int a)], [.int a, .ref 1])) rfl ?_
  refine Ex.cal (rest := []) (j := m_X6_growthAt) (as := [.ref 1, .int a]) (vst (a := 100) (b := 2) (c := 5) (rest := []) (vs := [.int a]) rfl ⟨Nat.le_of_ble_eq_true rfl, Nat.le_of_ble_eq_true rfl⟩ rfl rfl (sg_1 hs)) (H.imp ?_)
  intro rv h3 H
  obtain ⟨x4, rfl, H⟩ := H
  obtain ⟨hs, H⟩ := H
  obtain ⟨n_x4, ho_x4, hn_x4, H⟩ := H
  show Ex d [] tb_X6_tends (9, [some (.ref 1), some (.int a)], [.ref x4]) h3 _
  refine Ex.cal (rest := []) (j := m_X1_limit) (as := [.ref x4]) (vst (a := 20) (b := 1) (c := 1) (rest := []) (vs := []) rfl ⟨Nat.le_of_ble_eq_true rfl, Nat.le_of_ble_eq_true rfl⟩ rfl rfl ho_x4.1) (H.imp ?_)
  intro rv h5 H
  obtain ⟨x6, rfl, H⟩ := H
  obtain ⟨hs, H⟩ := H
  obtain ⟨ho_x4, H⟩ := H
  show Ex d [] tb_X6_tends (12, [some (.ref 1), some (.int a)], [.int x6]) h5 _
  exact Ex.iret rfl (Or.inl rfl) H
theorem w_X6_terms {d : Nat} {h : XH} {y : Nat → Nat} {K : XK} {E : XE} {a : Int32} (hd : 20 ≤ d) (hs : Sg h.1 y) (H : (Ca d m_X6_needPlace [.int a] h (fun rv h1 => rv = none ∧ Sg h1.1 y ∧ (Ca d m_X6_growthAt [.ref 1, .int a] h1 (fun rv h3 => ∃ x4, rv = some (.ref x4) ∧ Sg h3.1 y ∧ ∃ n_x4, Gq h3.1 x4 n_x4 ∧ n_x4 < 2 ^ 31 ∧ K (some (.int (h3.2.1 x4 2))) h3) E)) E)) : Ca (d + 1) m_X6_terms [.ref 1, .int a] h K E := by
  refine Ca.of ⟨by show 2 ≤ 2; omega, rfl⟩ ?_
  show Ex d [] tb_X6_terms (0, [some (.ref 1), some (.int a)], []) h _
  refine Ex.pure 1 (fr2 := (1, [some (.ref 1), some (.int a)], [.int a])) rfl ?_
  refine Ex.cal (rest := []) (j := m_X6_needPlace) (as := [.int a]) (fun c => rfl) (H.imp ?_)
  intro rv h1 H
  obtain ⟨rfl, H⟩ := H
  obtain ⟨hs, H⟩ := H
  show Ex d [] tb_X6_terms (4, [some (.ref 1), some (.int a)], []) h1 _
  refine Ex.pure 2 (fr2 := (6, [some (.ref 1), some (.int a)], [.int a, .ref 1])) rfl ?_
  refine Ex.cal (rest := []) (j := m_X6_growthAt) (as := [.ref 1, .int a]) (vst (a := 100) (b := 2) (c := 5) (rest := []) (vs := [.int a]) rfl ⟨Nat.le_of_ble_eq_true rfl, Nat.le_of_ble_eq_true rfl⟩ rfl rfl (sg_1 hs)) (H.imp ?_)
  intro rv h3 H
  obtain ⟨x4, rfl, H⟩ := H
  obtain ⟨hs, H⟩ := H
  obtain ⟨n_x4, ho_x4, hn_x4, H⟩ := H
  show Ex d [] tb_X6_terms (9, [some (.ref 1), some (.int a)], [.ref x4]) h3 _
  refine Ex.ask (rest := []) (j := m_X1_count) (as := [.ref x4]) (vst (a := 11) (b := 1) (c := 1) (rest := []) (vs := []) rfl ⟨Nat.le_of_ble_eq_true rfl, Nat.le_of_ble_eq_true rfl⟩ rfl rfl ho_x4.1) ((t_X1_count (d := 0) ho_x4.1).mono (by omega) (fun _ _ z => z)) ?_
  rintro _ h0 ⟨rfl, e0⟩
  rw [e0]
  show Ex d [] tb_X6_terms (12, [some (.ref 1), some (.int a)], [.int (h3.2.1 x4 2)]) h3 _
  exact Ex.iret rfl (Or.inl rfl) H
theorem w_X6_part {d : Nat} {h : XH} {y : Nat → Nat} {K : XK} {E : XE} {a : Int32} {b : Int32} {c : Int32} (hd : 20 ≤ d) (hs : Sg h.1 y) (H : (Ca d m_X6_needPlace [.int a] h (fun rv h1 => rv = none ∧ Sg h1.1 y ∧ (Ca d m_X6_needRow [.int b] h1 (fun rv h3 => rv = none ∧ Sg h3.1 y ∧ (Ca d m_X6_needRange [.int c, .int 0, .int 4] h3 (fun rv h5 => rv = none ∧ Sg h5.1 y ∧ (Ca d m_X6_growthAt [.ref 1, .int a] h5 (fun rv h7 => ∃ x8, rv = some (.ref x8) ∧ Sg h7.1 y ∧ ∃ n_x8, Gq h7.1 x8 n_x8 ∧ n_x8 < 2 ^ 31 ∧ (b < (h7.2.1 x8 2) → (¬ c = 0 → K (some (.long (((xpin (g_J h7 (x8 + 2) n_x8 b) c) : Int32).toInt64))) h7) ∧ (¬ (¬ c = 0) → K (some (.long (g_J h7 (x8 + 1) n_x8 b))) h7)) ∧ (¬ (b < (h7.2.1 x8 2)) → E 3 (x_new h7 (4, 3, []) 6))) E)) E)) E)) E)) : Ca (d + 1) m_X6_part [.ref 1, .int a, .int b, .int c] h K E := by
  refine Ca.of ⟨by show 4 ≤ 5; omega, rfl⟩ ?_
  show Ex d [] tb_X6_part (0, [some (.ref 1), some (.int a), some (.int b), some (.int c), none], []) h _
  refine Ex.pure 1 (fr2 := (1, [some (.ref 1), some (.int a), some (.int b), some (.int c), none], [.int a])) rfl ?_
  refine Ex.cal (rest := []) (j := m_X6_needPlace) (as := [.int a]) (fun c => rfl) (H.imp ?_)
  intro rv h1 H
  obtain ⟨rfl, H⟩ := H
  obtain ⟨hs, H⟩ := H
  show Ex d [] tb_X6_part (4, [some (.ref 1), some (.int a), some (.int b), some (.int c), none], []) h1 _
  refine Ex.pure 1 (fr2 := (5, [some (.ref 1), some (.int a), some (.int b), some (.int c), none], [.int b])) rfl ?_
  refine Ex.cal (rest := []) (j := m_X6_needRow) (as := [.int b]) (fun c => rfl) (H.imp ?_)
  intro rv h3 H
  obtain ⟨rfl, H⟩ := H
  obtain ⟨hs, H⟩ := H
  show Ex d [] tb_X6_part (8, [some (.ref 1), some (.int a), some (.int b), some (.int c), none], []) h3 _
  refine Ex.pure 3 (fr2 := (11, [some (.ref 1), some (.int a), some (.int b), some (.int c), none], [.int 4, .int 0, .int c])) rfl ?_
  refine Ex.cal (rest := []) (j := m_X6_needRange) (as := [.int c, .int 0, .int 4]) (fun c => rfl) (H.imp ?_)
  intro rv h5 H
  obtain ⟨rfl, H⟩ := H
  obtain ⟨hs, H⟩ := H
  show Ex d [] tb_X6_part (14, [some (.ref 1), some (.int a), some (.int b), some (.int c), none], []) h5 _
  refine Ex.pure 2 (fr2 := (16, [some (.ref 1), some (.int a), some (.int b), some (.int c), none], [.int a, .ref 1])) rfl ?_
  refine Ex.cal (rest := []) (j := m_X6_growthAt) (as := [.ref 1, .int a]) (vst (a := 100) (b := 2) (c := 5) (rest := []) (vs := [.int a]) rfl ⟨Nat.le_of_ble_eq_true rfl, Nat.le_of_ble_eq_true rfl⟩ rfl rfl (sg_1 hs)) (H.imp ?_)
  intro rv h7 H
  obtain ⟨x8, rfl, H⟩ := H
  obtain ⟨hs, H⟩ := H
  obtain ⟨n_x8, ho_x8, hn_x8, H⟩ := H
  show Ex d [] tb_X6_part (19, [some (.ref 1), some (.int a), some (.int b), some (.int c), none], [.ref x8]) h7 _
  refine Ex.pure 3 (fr2 := (24, [some (.ref 1), some (.int a), some (.int b), some (.int c), some (.ref x8)], [.ref x8, .int b])) rfl ?_
  refine Ex.ask (rest := [.int b]) (j := m_X1_count) (as := [.ref x8]) (vst (a := 11) (b := 1) (c := 1) (rest := [.int b]) (vs := []) rfl ⟨Nat.le_of_ble_eq_true rfl, Nat.le_of_ble_eq_true rfl⟩ rfl rfl ho_x8.1) ((t_X1_count (d := 0) ho_x8.1).mono (by omega) (fun _ _ z => z)) ?_
  rintro _ h0 ⟨rfl, e0⟩
  rw [e0]
  show Ex d [] tb_X6_part (27, [some (.ref 1), some (.int a), some (.int b), some (.int c), some (.ref x8)], [.int (h7.2.1 x8 2), .int b]) h7 _
  refine Ex.br (x := (40, [some (.ref 1), some (.int a), some (.int b), some (.int c), some (.ref x8)], [])) (y := (30, [some (.ref 1), some (.int a), some (.int b), some (.int c), some (.ref x8)], [])) (b := b < (h7.2.1 x8 2)) rfl (fun hb => ?_) (fun hb => ?_)
  · replace H := H.1 (hb)
    refine Ex.pure 1 (fr2 := (41, [some (.ref 1), some (.int a), some (.int b), some (.int c), some (.ref x8)], [.int c])) rfl ?_
    refine Ex.br (x := (53, [some (.ref 1), some (.int a), some (.int b), some (.int c), some (.ref x8)], [])) (y := (44, [some (.ref 1), some (.int a), some (.int b), some (.int c), some (.ref x8)], [])) (b := ¬ c = 0) rfl (fun hb => ?_) (fun hb => ?_)
    · replace H := H.1 (hb)
      refine Ex.pure 2 (fr2 := (56, [some (.ref 1), some (.int a), some (.int b), some (.int c), some (.ref x8)], [.int b, .ref x8])) rfl ?_
      refine Ex.ask (rest := []) (j := m_X1_keyAt) (as := [.ref x8, .int b]) (vst (a := 13) (b := 2) (c := 1) (rest := []) (vs := [.int b]) rfl ⟨Nat.le_of_ble_eq_true rfl, Nat.le_of_ble_eq_true rfl⟩ rfl rfl ho_x8.1) ((t_X1_keyAt (d := 0) ho_x8.1 rfl ho_x8.2.2 hn_x8).mono (by omega) (fun _ _ z => z)) ?_
      rintro _ h0 ⟨rfl, e0⟩
      rw [e0]
      show Ex d [] tb_X6_part (59, [some (.ref 1), some (.int a), some (.int b), some (.int c), some (.ref x8)], [.long (g_J h7 (x8 + 2) n_x8 b)]) h7 _
      refine Ex.pure 1 (fr2 := (60, [some (.ref 1), some (.int a), some (.int b), some (.int c), some (.ref x8)], [.int c, .long (g_J h7 (x8 + 2) n_x8 b)])) rfl ?_
      refine Ex.ask (rest := []) (j := m_X1_exponentIn) (as := [.long (g_J h7 (x8 + 2) n_x8 b), .int c]) (fun c => rfl) ((t_X1_exponentIn hs).mono (by omega) (fun _ _ z => z)) ?_
      rintro _ h0 ⟨rfl, e0⟩
      rw [e0]
      show Ex d [] tb_X6_part (63, [some (.ref 1), some (.int a), some (.int b), some (.int c), some (.ref x8)], [.int (xpin (g_J h7 (x8 + 2) n_x8 b) c)]) h7 _
      refine Ex.pure 1 (fr2 := (64, [some (.ref 1), some (.int a), some (.int b), some (.int c), some (.ref x8)], [.long (((xpin (g_J h7 (x8 + 2) n_x8 b) c) : Int32).toInt64)])) rfl ?_
      exact Ex.lret rfl H
    · replace H := H.2 (hb)
      refine Ex.pure 2 (fr2 := (47, [some (.ref 1), some (.int a), some (.int b), some (.int c), some (.ref x8)], [.int b, .ref x8])) rfl ?_
      refine Ex.ask (rest := []) (j := m_X1_timesAt) (as := [.ref x8, .int b]) (vst (a := 12) (b := 2) (c := 1) (rest := []) (vs := [.int b]) rfl ⟨Nat.le_of_ble_eq_true rfl, Nat.le_of_ble_eq_true rfl⟩ rfl rfl ho_x8.1) ((t_X1_timesAt (d := 0) ho_x8.1 rfl ho_x8.2.1 hn_x8).mono (by omega) (fun _ _ z => z)) ?_
      rintro _ h0 ⟨rfl, e0⟩
      rw [e0]
      show Ex d [] tb_X6_part (50, [some (.ref 1), some (.int a), some (.int b), some (.int c), some (.ref x8)], [.long (g_J h7 (x8 + 1) n_x8 b)]) h7 _
      refine Ex.pure 1 (fr2 := (64, [some (.ref 1), some (.int a), some (.int b), some (.int c), some (.ref x8)], [.long (g_J h7 (x8 + 1) n_x8 b)])) rfl ?_
      exact Ex.lret rfl H
  · replace H := H.2 (hb)
    exact Ex.thr rfl (by decide) H
theorem w_X6_needPlace {d : Nat} {h : XH} {y : Nat → Nat} {K : XK} {E : XE} {a : Int32} (hd : 20 ≤ d) (hs : Sg h.1 y) (H : (a < 0 → E 1 (x_new h (4, 1, []) 6)) ∧ (¬ (a < 0) → (a < 16 → K none h) ∧ (¬ (a < 16) → E 1 (x_new h (4, 1, []) 6)))) : Ca (d + 1) m_X6_needPlace [.int a] h K E := by
  refine Ca.of ⟨by show 1 ≤ 1; omega, rfl⟩ ?_
  show Ex d [] tb_X6_needPlace (0, [some (.int a)], []) h _
  refine Ex.pure 1 (fr2 := (1, [some (.int a)], [.int a])) rfl ?_
  refine Ex.br (x := (10, [some (.int a)], [])) (y := (4, [some (.int a)], [])) (b := a < 0) rfl (fun hb => ?_) (fun hb => ?_)
  · replace H := H.1 (hb)
    exact Ex.thr rfl (by decide) H
  · replace H := H.2 (hb)
    refine Ex.pure 2 (fr2 := (7, [some (.int a)], [.int 16, .int a])) rfl ?_
    refine Ex.br (x := (20, [some (.int a)], [])) (y := (10, [some (.int a)], [])) (b := a < 16) rfl (fun hb => ?_) (fun hb => ?_)
    · replace H := H.1 (hb)
      exact Ex.vret rfl H
    · replace H := H.2 (hb)
      exact Ex.thr rfl (by decide) H
theorem w_X6_needThree {d : Nat} {h : XH} {y : Nat → Nat} {K : XK} {E : XE} {a : Int32} {b : Int32} {c : Int32} (hd : 20 ≤ d) (hs : Sg h.1 y) (H : (Ca d m_X6_needPlace [.int a] h (fun rv h1 => rv = none ∧ Sg h1.1 y ∧ (Ca d m_X6_needPlace [.int b] h1 (fun rv h3 => rv = none ∧ Sg h3.1 y ∧ (Ca d m_X6_needPlace [.int c] h3 (fun rv h5 => rv = none ∧ Sg h5.1 y ∧ K none h5) E)) E)) E)) : Ca (d + 1) m_X6_needThree [.int a, .int b, .int c] h K E := by
  refine Ca.of ⟨by show 3 ≤ 3; omega, rfl⟩ ?_
  show Ex d [] tb_X6_needThree (0, [some (.int a), some (.int b), some (.int c)], []) h _
  refine Ex.pure 1 (fr2 := (1, [some (.int a), some (.int b), some (.int c)], [.int a])) rfl ?_
  refine Ex.cal (rest := []) (j := m_X6_needPlace) (as := [.int a]) (fun c => rfl) (H.imp ?_)
  intro rv h1 H
  obtain ⟨rfl, H⟩ := H
  obtain ⟨hs, H⟩ := H
  show Ex d [] tb_X6_needThree (4, [some (.int a), some (.int b), some (.int c)], []) h1 _
  refine Ex.pure 1 (fr2 := (5, [some (.int a), some (.int b), some (.int c)], [.int b])) rfl ?_
  refine Ex.cal (rest := []) (j := m_X6_needPlace) (as := [.int b]) (fun c => rfl) (H.imp ?_)
  intro rv h3 H
  obtain ⟨rfl, H⟩ := H
  obtain ⟨hs, H⟩ := H
  show Ex d [] tb_X6_needThree (8, [some (.int a), some (.int b), some (.int c)], []) h3 _
  refine Ex.pure 1 (fr2 := (9, [some (.int a), some (.int b), some (.int c)], [.int c])) rfl ?_
  refine Ex.cal (rest := []) (j := m_X6_needPlace) (as := [.int c]) (fun c => rfl) (H.imp ?_)
  intro rv h5 H
  obtain ⟨rfl, H⟩ := H
  obtain ⟨hs, H⟩ := H
  show Ex d [] tb_X6_needThree (12, [some (.int a), some (.int b), some (.int c)], []) h5 _
  exact Ex.vret rfl H
theorem w_X6_needRow {d : Nat} {h : XH} {y : Nat → Nat} {K : XK} {E : XE} {a : Int32} (hd : 20 ≤ d) (hs : Sg h.1 y) (H : (0 ≤ a → K none h) ∧ (¬ (0 ≤ a) → E 1 (x_new h (4, 1, []) 6))) : Ca (d + 1) m_X6_needRow [.int a] h K E := by
  refine Ca.of ⟨by show 1 ≤ 1; omega, rfl⟩ ?_
  show Ex d [] tb_X6_needRow (0, [some (.int a)], []) h _
  refine Ex.pure 1 (fr2 := (1, [some (.int a)], [.int a])) rfl ?_
  refine Ex.br (x := (14, [some (.int a)], [])) (y := (4, [some (.int a)], [])) (b := 0 ≤ a) rfl (fun hb => ?_) (fun hb => ?_)
  · replace H := H.1 (hb)
    exact Ex.vret rfl H
  · replace H := H.2 (hb)
    exact Ex.thr rfl (by decide) H
theorem w_X6_needRange {d : Nat} {h : XH} {y : Nat → Nat} {K : XK} {E : XE} {a : Int32} {b : Int32} {c : Int32} (hd : 20 ≤ d) (hs : Sg h.1 y) (H : (a < b → E 2 (x_new h (4, 2, []) 6)) ∧ (¬ (a < b) → (a ≤ c → K none h) ∧ (¬ (a ≤ c) → E 2 (x_new h (4, 2, []) 6)))) : Ca (d + 1) m_X6_needRange [.int a, .int b, .int c] h K E := by
  refine Ca.of ⟨by show 3 ≤ 3; omega, rfl⟩ ?_
  show Ex d [] tb_X6_needRange (0, [some (.int a), some (.int b), some (.int c)], []) h _
  refine Ex.pure 2 (fr2 := (2, [some (.int a), some (.int b), some (.int c)], [.int b, .int a])) rfl ?_
  refine Ex.br (x := (10, [some (.int a), some (.int b), some (.int c)], [])) (y := (5, [some (.int a), some (.int b), some (.int c)], [])) (b := a < b) rfl (fun hb => ?_) (fun hb => ?_)
  · replace H := H.1 (hb)
    exact Ex.thr rfl (by decide) H
  · replace H := H.2 (hb)
    refine Ex.pure 2 (fr2 := (7, [some (.int a), some (.int b), some (.int c)], [.int c, .int a])) rfl ?_
    refine Ex.br (x := (20, [some (.int a), some (.int b), some (.int c)], [])) (y := (10, [some (.int a), some (.int b), some (.int c)], [])) (b := a ≤ c) rfl (fun hb => ?_) (fun hb => ?_)
    · replace H := H.1 (hb)
      exact Ex.vret rfl H
    · replace H := H.2 (hb)
      exact Ex.thr rfl (by decide) H
theorem w_X6_commonKind {d : Nat} {h : XH} {y : Nat → Nat} {K : XK} {E : XE} {a : Int32} {b : Int32} (hd : 20 ≤ d) (hs : Sg h.1 y) (H : ((g_I h 2 16 a) = 0 → E 3 (x_new h (4, 3, []) 6)) ∧ (¬ ((g_I h 2 16 a) = 0) → ((g_I h 2 16 a) = (g_I h 2 16 b) → K (some (.int (g_I h 2 16 a))) h) ∧ (¬ ((g_I h 2 16 a) = (g_I h 2 16 b)) → E 3 (x_new h (4, 3, []) 6)))) : Ca (d + 1) m_X6_commonKind [.ref 1, .int a, .int b] h K E := by
  refine Ca.of ⟨by show 3 ≤ 4; omega, rfl⟩ ?_
  show Ex d [] tb_X6_commonKind (0, [some (.ref 1), some (.int a), some (.int b), none], []) h _
  refine Ex.pure 1 (fr2 := (1, [some (.ref 1), some (.int a), some (.int b), none], [.ref 1])) rfl ?_
  refine Ex.getQ rfl (sg_1 hs) rfl ?_
  refine Ex.pure 1 (fr2 := (5, [some (.ref 1), some (.int a), some (.int b), none], [.int a, .ref 2])) rfl ?_
  refine Ex.ask (rest := []) (j := m_X3_at) (as := [.ref 2, .int a]) (fun c => rfl) ((t_X3_at (d := 0) (sg_2 hs) (by omega)).mono (by omega) (fun _ _ z => z)) ?_
  rintro _ h0 ⟨rfl, e0⟩
  rw [e0]
  show Ex d [] tb_X6_commonKind (8, [some (.ref 1), some (.int a), some (.int b), none], [.int (g_I h 2 16 a)]) h _
  refine Ex.pure 2 (fr2 := (10, [some (.ref 1), some (.int a), some (.int b), some (.int (g_I h 2 16 a))], [.int (g_I h 2 16 a)])) rfl ?_
  refine Ex.br (x := (25, [some (.ref 1), some (.int a), some (.int b), some (.int (g_I h 2 16 a))], [])) (y := (13, [some (.ref 1), some (.int a), some (.int b), some (.int (g_I h 2 16 a))], [])) (b := (g_I h 2 16 a) = 0) rfl (fun hb => ?_) (fun hb => ?_)
  · replace H := H.1 (hb)
    exact Ex.thr rfl (by decide) H
  · replace H := H.2 (hb)
    refine Ex.pure 2 (fr2 := (15, [some (.ref 1), some (.int a), some (.int b), some (.int (g_I h 2 16 a))], [.ref 1, .int (g_I h 2 16 a)])) rfl ?_
    refine Ex.getQ rfl (sg_1 hs) rfl ?_
    refine Ex.pure 1 (fr2 := (19, [some (.ref 1), some (.int a), some (.int b), some (.int (g_I h 2 16 a))], [.int b, .ref 2, .int (g_I h 2 16 a)])) rfl ?_
    refine Ex.ask (rest := [.int (g_I h 2 16 a)]) (j := m_X3_at) (as := [.ref 2, .int b]) (fun c => rfl) ((t_X3_at (d := 0) (sg_2 hs) (by omega)).mono (by omega) (fun _ _ z => z)) ?_
    rintro _ h0 ⟨rfl, e0⟩
    rw [e0]
    show Ex d [] tb_X6_commonKind (22, [some (.ref 1), some (.int a), some (.int b), some (.int (g_I h 2 16 a))], [.int (g_I h 2 16 b), .int (g_I h 2 16 a)]) h _
    refine Ex.br (x := (35, [some (.ref 1), some (.int a), some (.int b), some (.int (g_I h 2 16 a))], [])) (y := (25, [some (.ref 1), some (.int a), some (.int b), some (.int (g_I h 2 16 a))], [])) (b := (g_I h 2 16 a) = (g_I h 2 16 b)) rfl (fun hb => ?_) (fun hb => ?_)
    · replace H := H.1 (hb)
      refine Ex.pure 1 (fr2 := (36, [some (.ref 1), some (.int a), some (.int b), some (.int (g_I h 2 16 a))], [.int (g_I h 2 16 a)])) rfl ?_
      exact Ex.iret rfl (Or.inl rfl) H
    · replace H := H.2 (hb)
      exact Ex.thr rfl (by decide) H
theorem w_X6_ordinalAt {d : Nat} {h : XH} {y : Nat → Nat} {K : XK} {E : XE} {a : Int32} (hd : 20 ≤ d) (hs : Sg h.1 y) (H : ((g_I h 2 16 a) = 1 → K (some (.int (g_I h 3 16 a))) h) ∧ (¬ ((g_I h 2 16 a) = 1) → E 3 (x_new h (4, 3, []) 6))) : Ca (d + 1) m_X6_ordinalAt [.ref 1, .int a] h K E := by
  refine Ca.of ⟨by show 2 ≤ 2; omega, rfl⟩ ?_
  show Ex d [] tb_X6_ordinalAt (0, [some (.ref 1), some (.int a)], []) h _
  refine Ex.pure 1 (fr2 := (1, [some (.ref 1), some (.int a)], [.ref 1])) rfl ?_
  refine Ex.getQ rfl (sg_1 hs) rfl ?_
  refine Ex.pure 1 (fr2 := (5, [some (.ref 1), some (.int a)], [.int a, .ref 2])) rfl ?_
  refine Ex.ask (rest := []) (j := m_X3_at) (as := [.ref 2, .int a]) (fun c => rfl) ((t_X3_at (d := 0) (sg_2 hs) (by omega)).mono (by omega) (fun _ _ z => z)) ?_
  rintro _ h0 ⟨rfl, e0⟩
  rw [e0]
  show Ex d [] tb_X6_ordinalAt (8, [some (.ref 1), some (.int a)], [.int (g_I h 2 16 a)]) h _
  refine Ex.pure 1 (fr2 := (9, [some (.ref 1), some (.int a)], [.int 1, .int (g_I h 2 16 a)])) rfl ?_
  refine Ex.br (x := (22, [some (.ref 1), some (.int a)], [])) (y := (12, [some (.ref 1), some (.int a)], [])) (b := (g_I h 2 16 a) = 1) rfl (fun hb => ?_) (fun hb => ?_)
  · replace H := H.1 (hb)
    refine Ex.pure 1 (fr2 := (23, [some (.ref 1), some (.int a)], [.ref 1])) rfl ?_
    refine Ex.getQ rfl (sg_1 hs) rfl ?_
    refine Ex.pure 1 (fr2 := (27, [some (.ref 1), some (.int a)], [.int a, .ref 3])) rfl ?_
    refine Ex.ask (rest := []) (j := m_X3_at) (as := [.ref 3, .int a]) (fun c => rfl) ((t_X3_at (d := 0) (sg_3 hs) (by omega)).mono (by omega) (fun _ _ z => z)) ?_
    rintro _ h0 ⟨rfl, e0⟩
    rw [e0]
    show Ex d [] tb_X6_ordinalAt (30, [some (.ref 1), some (.int a)], [.int (g_I h 3 16 a)]) h _
    exact Ex.iret rfl (Or.inl rfl) H
  · replace H := H.2 (hb)
    exact Ex.thr rfl (by decide) H
theorem w_X6_ordinalWithPower {d : Nat} {h : XH} {y : Nat → Nat} {K : XK} {E : XE} {a : Int32} {b : Int32} (hd : 20 ≤ d) (hs : Sg h.1 y) (H : (Ca d m_X6_ordinalAt [.ref 1, .int a] h (fun rv h1 => ∃ x2, rv = some (.int x2) ∧ Sg h1.1 y ∧ (b < (pw h1 y x2) → K (some (.int x2)) h1) ∧ (¬ (b < (pw h1 y x2)) → E 3 (x_new h1 (4, 3, []) 6))) E)) : Ca (d + 1) m_X6_ordinalWithPower [.ref 1, .int a, .int b] h K E := by
  refine Ca.of ⟨by show 3 ≤ 4; omega, rfl⟩ ?_
  show Ex d [] tb_X6_ordinalWithPower (0, [some (.ref 1), some (.int a), some (.int b), none], []) h _
  refine Ex.pure 2 (fr2 := (2, [some (.ref 1), some (.int a), some (.int b), none], [.int a, .ref 1])) rfl ?_
  refine Ex.cal (rest := []) (j := m_X6_ordinalAt) (as := [.ref 1, .int a]) (vst (a := 97) (b := 2) (c := 5) (rest := []) (vs := [.int a]) rfl ⟨Nat.le_of_ble_eq_true rfl, Nat.le_of_ble_eq_true rfl⟩ rfl rfl (sg_1 hs)) (H.imp ?_)
  intro rv h1 H
  obtain ⟨x2, rfl, H⟩ := H
  obtain ⟨hs, H⟩ := H
  show Ex d [] tb_X6_ordinalWithPower (5, [some (.ref 1), some (.int a), some (.int b), none], [.int x2]) h1 _
  refine Ex.pure 3 (fr2 := (8, [some (.ref 1), some (.int a), some (.int b), some (.int x2)], [.ref 1, .int b])) rfl ?_
  refine Ex.getQ rfl (sg_1 hs) rfl ?_
  refine Ex.pure 1 (fr2 := (12, [some (.ref 1), some (.int a), some (.int b), some (.int x2)], [.int x2, .ref 6, .int b])) rfl ?_
  refine Ex.ask (rest := [.int b]) (j := m_X2_powersOf) (as := [.ref 6, .int x2]) (vst (a := 22) (b := 2) (c := 2) (rest := [.int b]) (vs := [.int x2]) rfl ⟨Nat.le_of_ble_eq_true rfl, Nat.le_of_ble_eq_true rfl⟩ rfl rfl (sg_6 hs)) ((t_X2_powersOf (d := 0) (sg_6 hs) rfl (sg_y0 hs) (sg_l0 hs)).mono (by omega) (fun _ _ z => z)) ?_
  rintro _ h0 ⟨rfl, e0⟩
  rw [e0]
  show Ex d [] tb_X6_ordinalWithPower (15, [some (.ref 1), some (.int a), some (.int b), some (.int x2)], [.int (pw h1 y x2), .int b]) h1 _
  refine Ex.br (x := (28, [some (.ref 1), some (.int a), some (.int b), some (.int x2)], [])) (y := (18, [some (.ref 1), some (.int a), some (.int b), some (.int x2)], [])) (b := b < (pw h1 y x2)) rfl (fun hb => ?_) (fun hb => ?_)
  · replace H := H.1 (hb)
    refine Ex.pure 1 (fr2 := (29, [some (.ref 1), some (.int a), some (.int b), some (.int x2)], [.int x2])) rfl ?_
    exact Ex.iret rfl (Or.inl rfl) H
  · replace H := H.2 (hb)
    exact Ex.thr rfl (by decide) H
theorem w_X6_numberAt {d : Nat} {h : XH} {y : Nat → Nat} {K : XK} {E : XE} {a : Int32} (hd : 20 ≤ d) (hs : Sg h.1 y) (H : ((g_I h 2 16 a) = 2 → K (some (.long (g_J h 4 16 a))) h) ∧ (¬ ((g_I h 2 16 a) = 2) → E 3 (x_new h (4, 3, []) 6))) : Ca (d + 1) m_X6_numberAt [.ref 1, .int a] h K E := by
  refine Ca.of ⟨by show 2 ≤ 2; omega, rfl⟩ ?_
  show Ex d [] tb_X6_numberAt (0, [some (.ref 1), some (.int a)], []) h _
  refine Ex.pure 1 (fr2 := (1, [some (.ref 1), some (.int a)], [.ref 1])) rfl ?_
  refine Ex.getQ rfl (sg_1 hs) rfl ?_
  refine Ex.pure 1 (fr2 := (5, [some (.ref 1), some (.int a)], [.int a, .ref 2])) rfl ?_
  refine Ex.ask (rest := []) (j := m_X3_at) (as := [.ref 2, .int a]) (fun c => rfl) ((t_X3_at (d := 0) (sg_2 hs) (by omega)).mono (by omega) (fun _ _ z => z)) ?_
  rintro _ h0 ⟨rfl, e0⟩
  rw [e0]
  show Ex d [] tb_X6_numberAt (8, [some (.ref 1), some (.int a)], [.int (g_I h 2 16 a)]) h _
  refine Ex.pure 1 (fr2 := (9, [some (.ref 1), some (.int a)], [.int 2, .int (g_I h 2 16 a)])) rfl ?_
  refine Ex.br (x := (22, [some (.ref 1), some (.int a)], [])) (y := (12, [some (.ref 1), some (.int a)], [])) (b := (g_I h 2 16 a) = 2) rfl (fun hb => ?_) (fun hb => ?_)
  · replace H := H.1 (hb)
    refine Ex.pure 1 (fr2 := (23, [some (.ref 1), some (.int a)], [.ref 1])) rfl ?_
    refine Ex.getQ rfl (sg_1 hs) rfl ?_
    refine Ex.pure 1 (fr2 := (27, [some (.ref 1), some (.int a)], [.int a, .ref 4])) rfl ?_
    refine Ex.ask (rest := []) (j := m_X3_at_) (as := [.ref 4, .int a]) (fun c => rfl) ((t_X3_at_ (d := 0) (sg_4 hs) (by omega)).mono (by omega) (fun _ _ z => z)) ?_
    rintro _ h0 ⟨rfl, e0⟩
    rw [e0]
    show Ex d [] tb_X6_numberAt (30, [some (.ref 1), some (.int a)], [.long (g_J h 4 16 a)]) h _
    exact Ex.lret rfl H
  · replace H := H.2 (hb)
    exact Ex.thr rfl (by decide) H
theorem w_X6_keepOrdinal {d : Nat} {h : XH} {y : Nat → Nat} {K : XK} {E : XE} {a : Int32} {b : Int32} (hd : 20 ≤ d) (hs : Sg h.1 y) (H : (∀ h1 : XH, h1 = (x_setI h 6 5 (h.2.1 6 4)) → (∀ h2 : XH, h2 = (p_I h1 3 16 a b) → (∀ h3 : XH, h3 = (p_I h2 2 16 a 1) → K none h3)))) : Ca (d + 1) m_X6_keepOrdinal [.ref 1, .int a, .int b] h K E := by
  refine Ca.of ⟨by show 3 ≤ 3; omega, rfl⟩ ?_
  show Ex d [] tb_X6_keepOrdinal (0, [some (.ref 1), some (.int a), some (.int b)], []) h _
  refine Ex.pure 1 (fr2 := (1, [some (.ref 1), some (.int a), some (.int b)], [.ref 1])) rfl ?_
  refine Ex.getQ rfl (sg_1 hs) rfl ?_
  refine Ex.ask (rest := []) (j := m_X2_keep) (as := [.ref 6]) (vst (a := 25) (b := 1) (c := 2) (rest := []) (vs := []) rfl ⟨Nat.le_of_ble_eq_true rfl, Nat.le_of_ble_eq_true rfl⟩ rfl rfl (sg_6 hs)) ((t_X2_keep (d := 0) (sg_6 hs)).mono (by omega) (fun _ _ z => z)) ?_
  rintro _ h1 ⟨rfl, e1⟩
  replace H := H h1 e1
  replace hs : Sg h1.1 y := by rw [e1]; exact hs
  show Ex d [] tb_X6_keepOrdinal (7, [some (.ref 1), some (.int a), some (.int b)], []) h1 _
  refine Ex.pure 1 (fr2 := (8, [some (.ref 1), some (.int a), some (.int b)], [.ref 1])) rfl ?_
  refine Ex.getQ rfl (sg_1 hs) rfl ?_
  refine Ex.pure 2 (fr2 := (13, [some (.ref 1), some (.int a), some (.int b)], [.int b, .int a, .ref 3])) rfl ?_
  refine Ex.ask (rest := []) (j := m_X3_put) (as := [.ref 3, .int a, .int b]) (fun c => rfl) ((t_X3_put (d := 0) (sg_3 hs) (by omega)).mono (by omega) (fun _ _ z => z)) ?_
  rintro _ h2 ⟨rfl, e2⟩
  replace H := H h2 e2
  replace hs : Sg h2.1 y := by rw [e2, p_I_sh]; exact hs
  show Ex d [] tb_X6_keepOrdinal (16, [some (.ref 1), some (.int a), some (.int b)], []) h2 _
  refine Ex.pure 1 (fr2 := (17, [some (.ref 1), some (.int a), some (.int b)], [.ref 1])) rfl ?_
  refine Ex.getQ rfl (sg_1 hs) rfl ?_
  refine Ex.pure 2 (fr2 := (22, [some (.ref 1), some (.int a), some (.int b)], [.int 1, .int a, .ref 2])) rfl ?_
  refine Ex.ask (rest := []) (j := m_X3_put) (as := [.ref 2, .int a, .int 1]) (fun c => rfl) ((t_X3_put (d := 0) (sg_2 hs) (by omega)).mono (by omega) (fun _ _ z => z)) ?_
  rintro _ h3 ⟨rfl, e3⟩
  replace H := H h3 e3
  replace hs : Sg h3.1 y := by rw [e3, p_I_sh]; exact hs
  show Ex d [] tb_X6_keepOrdinal (25, [some (.ref 1), some (.int a), some (.int b)], []) h3 _
  exact Ex.vret rfl H
theorem w_X6_keepNumber {d : Nat} {h : XH} {y : Nat → Nat} {K : XK} {E : XE} {a : Int32} {b : Int64} (hd : 20 ≤ d) (hs : Sg h.1 y) (H : ((-268435456 ≤ b ∧ b ≤ 268435456) → (∀ h2 : XH, h2 = (p_J h 4 16 a b) → (∀ h3 : XH, h3 = (p_I h2 2 16 a 2) → K none h3))) ∧ (¬ (-268435456 ≤ b ∧ b ≤ 268435456) → E 3 (x_new h (4, 3, []) 6))) : Ca (d + 1) m_X6_keepNumber [.ref 1, .int a, .long b] h K E := by
  refine Ca.of ⟨by show 4 ≤ 4; omega, rfl⟩ ?_
  show Ex d [] tb_X6_keepNumber (0, [some (.ref 1), some (.int a), some (.long b), none], []) h _
  refine Ex.pure 1 (fr2 := (1, [some (.ref 1), some (.int a), some (.long b), none], [.long b])) rfl ?_
  refine Ex.ask (rest := []) (j := m_X6_numberFits) (as := [.long b]) (fun c => rfl) ((t_X6_numberFits hs).mono (by omega) (fun _ _ z => z)) ?_
  rintro _ h0 ⟨rfl, e0⟩
  rw [e0]
  show Ex d [] tb_X6_keepNumber (4, [some (.ref 1), some (.int a), some (.long b), none], [.int (bi (-268435456 ≤ b ∧ b ≤ 268435456))]) h _
  refine Ex.br (x := (18, [some (.ref 1), some (.int a), some (.long b), none], [])) (y := (7, [some (.ref 1), some (.int a), some (.long b), none], [])) (b := ¬ (bi (-268435456 ≤ b ∧ b ≤ 268435456)) = 0) rfl (fun hb => ?_) (fun hb => ?_)
  · replace H := H.1 (bi_ne.mp hb)
    refine Ex.pure 1 (fr2 := (19, [some (.ref 1), some (.int a), some (.long b), none], [.ref 1])) rfl ?_
    refine Ex.getQ rfl (sg_1 hs) rfl ?_
    refine Ex.pure 2 (fr2 := (24, [some (.ref 1), some (.int a), some (.long b), none], [.long b, .int a, .ref 4])) rfl ?_
    refine Ex.ask (rest := []) (j := m_X3_put_) (as := [.ref 4, .int a, .long b]) (fun c => rfl) ((t_X3_put_ (d := 0) (sg_4 hs) (by omega)).mono (by omega) (fun _ _ z => z)) ?_
    rintro _ h2 ⟨rfl, e2⟩
    replace H := H h2 e2
    replace hs : Sg h2.1 y := by rw [e2, p_J_sh]; exact hs
    show Ex d [] tb_X6_keepNumber (27, [some (.ref 1), some (.int a), some (.long b), none], []) h2 _
    refine Ex.pure 1 (fr2 := (28, [some (.ref 1), some (.int a), some (.long b), none], [.ref 1])) rfl ?_
    refine Ex.getQ rfl (sg_1 hs) rfl ?_
    refine Ex.pure 2 (fr2 := (33, [some (.ref 1), some (.int a), some (.long b), none], [.int 2, .int a, .ref 2])) rfl ?_
    refine Ex.ask (rest := []) (j := m_X3_put) (as := [.ref 2, .int a, .int 2]) (fun c => rfl) ((t_X3_put (d := 0) (sg_2 hs) (by omega)).mono (by omega) (fun _ _ z => z)) ?_
    rintro _ h3 ⟨rfl, e3⟩
    replace H := H h3 e3
    replace hs : Sg h3.1 y := by rw [e3, p_I_sh]; exact hs
    show Ex d [] tb_X6_keepNumber (36, [some (.ref 1), some (.int a), some (.long b), none], []) h3 _
    exact Ex.vret rfl H
  · replace H := H.2 (bi_nne.mp hb)
    exact Ex.thr rfl (by decide) H
theorem w_X6_multipliedNumbers {d : Nat} {h : XH} {y : Nat → Nat} {K : XK} {E : XE} {a : Int64} {b : Int64} (hd : 20 ≤ d) (hs : Sg h.1 y) (H : (((a * b) &&& 1048575) = 0 → K (some (.long ((a * b) >>> ((20 : Int32).toInt64 &&& 63)))) h) ∧ (¬ (((a * b) &&& 1048575) = 0) → E 3 (x_new h (4, 3, []) 6))) : Ca (d + 1) m_X6_multipliedNumbers [.long a, .long b] h K E := by
  refine Ca.of ⟨by show 4 ≤ 6; omega, rfl⟩ ?_
  show Ex d [] tb_X6_multipliedNumbers (0, [some (.long a), none, some (.long b), none, none, none], []) h _
  refine Ex.pure 9 (fr2 := (13, [some (.long a), none, some (.long b), none, some (.long (a * b)), none], [.int (lg_cmp ((a * b) &&& 1048575) 0)])) rfl ?_
  refine Ex.br (x := (27, [some (.long a), none, some (.long b), none, some (.long (a * b)), none], [])) (y := (16, [some (.long a), none, some (.long b), none, some (.long (a * b)), none], [])) (b := (lg_cmp ((a * b) &&& 1048575) 0) = 0) rfl (fun hb => ?_) (fun hb => ?_)
  · replace H := H.1 ((lg_cmp_eq _ _).mp hb)
    refine Ex.pure 3 (fr2 := (32, [some (.long a), none, some (.long b), none, some (.long (a * b)), none], [.long ((a * b) >>> ((20 : Int32).toInt64 &&& 63))])) rfl ?_
    exact Ex.lret rfl H
  · replace H := H.2 (fun z => hb ((lg_cmp_eq _ _).mpr z))
    exact Ex.thr rfl (by decide) H
def b_X6_greatestOf_7 (d : Nat) (r_0 : Nat) (l1 : Int32) (l2 : Int64) (l4 : Int32) (h : XH) (K : XK) (E : XE) : Prop := Ex d [] tb_X6_greatestOf (7, [some (.ref r_0), some (.int l1), some (.long l2), none, some (.int l4)], []) h (Po K E)
def b_X6_greatestOf_34 (d : Nat) (r_0 : Nat) (l1 : Int32) (l2 : Int64) (l4 : Int32) (h : XH) (K : XK) (E : XE) : Prop := Ex d [] tb_X6_greatestOf (34, [some (.ref r_0), some (.int l1), some (.long l2), none, some (.int l4)], []) h (Po K E)
theorem w_X6_greatestOf {d : Nat} {h : XH} {y : Nat → Nat} {K : XK} {E : XE} {a : Int32} (hd : 20 ≤ d) (hs : Sg h.1 y) (H : b_X6_greatestOf_7 d 1 a (-1099511627776) 0 h K E) : Ca (d + 1) m_X6_greatestOf [.ref 1, .int a] h K E := by
  refine Ca.of ⟨by show 2 ≤ 5; omega, rfl⟩ ?_
  show Ex d [] tb_X6_greatestOf (0, [some (.ref 1), some (.int a), none, none, none], []) h _
  refine Ex.pure 4 (fr2 := (7, [some (.ref 1), some (.int a), some (.long (-1099511627776)), none, some (.int 0)], [])) rfl ?_
  exact H
theorem w_X6_greatestOf_7 {d : Nat} {h : XH} {y : Nat → Nat} {K : XK} {E : XE} {l1 : Int32} {l2 : Int64} {l4 : Int32} (hd : 20 ≤ d) (hs : Sg h.1 y) (H : (16 ≤ l4 → K (some (.long l2)) h) ∧ (¬ (16 ≤ l4) → (((l1 >>> (l4 &&& 31)) &&& 1) = 0 → b_X6_greatestOf_34 d 1 l1 l2 l4 h K E) ∧ (¬ (((l1 >>> (l4 &&& 31)) &&& 1) = 0) → (Ca d m_X6_numberAt [.ref 1, .int l4] h (fun rv h1 => ∃ x2, rv = some (.long x2) ∧ Sg h1.1 y ∧ b_X6_greatestOf_34 d 1 l1 (mxJ l2 x2) l4 h1 K E) E)))) : b_X6_greatestOf_7 d 1 l1 l2 l4 h K E := by
  show Ex d [] tb_X6_greatestOf (7, [some (.ref 1), some (.int l1), some (.long l2), none, some (.int l4)], []) h _
  refine Ex.pure 2 (fr2 := (11, [some (.ref 1), some (.int l1), some (.long l2), none, some (.int l4)], [.int 16, .int l4])) rfl ?_
  refine Ex.br (x := (40, [some (.ref 1), some (.int l1), some (.long l2), none, some (.int l4)], [])) (y := (14, [some (.ref 1), some (.int l1), some (.long l2), none, some (.int l4)], [])) (b := 16 ≤ l4) rfl (fun hb => ?_) (fun hb => ?_)
  · replace H := H.1 (hb)
    refine Ex.pure 1 (fr2 := (41, [some (.ref 1), some (.int l1), some (.long l2), none, some (.int l4)], [.long l2])) rfl ?_
    exact Ex.lret rfl H
  · replace H := H.2 (hb)
    refine Ex.pure 5 (fr2 := (20, [some (.ref 1), some (.int l1), some (.long l2), none, some (.int l4)], [.int ((l1 >>> (l4 &&& 31)) &&& 1)])) rfl ?_
    refine Ex.br (x := (34, [some (.ref 1), some (.int l1), some (.long l2), none, some (.int l4)], [])) (y := (23, [some (.ref 1), some (.int l1), some (.long l2), none, some (.int l4)], [])) (b := ((l1 >>> (l4 &&& 31)) &&& 1) = 0) rfl (fun hb => ?_) (fun hb => ?_)
    · replace H := H.1 (hb)
      exact H
    · replace H := H.2 (hb)
      refine Ex.pure 3 (fr2 := (27, [some (.ref 1), some (.int l1), some (.long l2), none, some (.int l4)], [.int l4, .ref 1, .long l2])) rfl ?_
      refine Ex.cal (rest := [.long l2]) (j := m_X6_numberAt) (as := [.ref 1, .int l4]) (vst (a := 99) (b := 2) (c := 5) (rest := [.long l2]) (vs := [.int l4]) rfl ⟨Nat.le_of_ble_eq_true rfl, Nat.le_of_ble_eq_true rfl⟩ rfl rfl (sg_1 hs)) (H.imp ?_)
      intro rv h1 H
      obtain ⟨x2, rfl, H⟩ := H
      obtain ⟨hs, H⟩ := H
      show Ex d [] tb_X6_greatestOf (30, [some (.ref 1), some (.int l1), some (.long l2), none, some (.int l4)], [.long x2, .long l2]) h1 _
      refine Ex.st (r := some (.inl ((33, [some (.ref 1), some (.int l1), some (.long l2), none, some (.int l4)], [.long (mxJ l2 x2)]), h1))) (fun c => rfl) ?_
      show Ex d [] tb_X6_greatestOf (33, [some (.ref 1), some (.int l1), some (.long l2), none, some (.int l4)], [.long (mxJ l2 x2)]) h1 _
      refine Ex.pure 1 (fr2 := (34, [some (.ref 1), some (.int l1), some (.long (mxJ l2 x2)), none, some (.int l4)], [])) rfl ?_
      exact H
theorem w_X6_greatestOf_34 {d : Nat} {h : XH} {y : Nat → Nat} {K : XK} {E : XE} {l1 : Int32} {l2 : Int64} {l4 : Int32} (hd : 20 ≤ d) (hs : Sg h.1 y) (H : b_X6_greatestOf_7 d 1 l1 l2 (l4 + 1) h K E) : b_X6_greatestOf_34 d 1 l1 l2 l4 h K E := by
  show Ex d [] tb_X6_greatestOf (34, [some (.ref 1), some (.int l1), some (.long l2), none, some (.int l4)], []) h _
  refine Ex.pure 2 (fr2 := (7, [some (.ref 1), some (.int l1), some (.long l2), none, some (.int (l4 + 1))], [])) rfl ?_
  exact H
def b_X6_leastOf_7 (d : Nat) (r_0 : Nat) (l1 : Int32) (l2 : Int64) (l4 : Int32) (h : XH) (K : XK) (E : XE) : Prop := Ex d [] tb_X6_leastOf (7, [some (.ref r_0), some (.int l1), some (.long l2), none, some (.int l4)], []) h (Po K E)
def b_X6_leastOf_34 (d : Nat) (r_0 : Nat) (l1 : Int32) (l2 : Int64) (l4 : Int32) (h : XH) (K : XK) (E : XE) : Prop := Ex d [] tb_X6_leastOf (34, [some (.ref r_0), some (.int l1), some (.long l2), none, some (.int l4)], []) h (Po K E)
theorem w_X6_leastOf {d : Nat} {h : XH} {y : Nat → Nat} {K : XK} {E : XE} {a : Int32} (hd : 20 ≤ d) (hs : Sg h.1 y) (H : b_X6_leastOf_7 d 1 a 1099511627776 0 h K E) : Ca (d + 1) m_X6_leastOf [.ref 1, .int a] h K E := by
  refine Ca.of ⟨by show 2 ≤ 5; omega, rfl⟩ ?_
  show Ex d [] tb_X6_leastOf (0, [some (.ref 1), some (.int a), none, none, none], []) h _
  refine Ex.pure 4 (fr2 := (7, [some (.ref 1), some (.int a), some (.long 1099511627776), none, some (.int 0)], [])) rfl ?_
  exact H
theorem w_X6_leastOf_7 {d : Nat} {h : XH} {y : Nat → Nat} {K : XK} {E : XE} {l1 : Int32} {l2 : Int64} {l4 : Int32} (hd : 20 ≤ d) (hs : Sg h.1 y) (H : (16 ≤ l4 → K (some (.long l2)) h) ∧ (¬ (16 ≤ l4) → (((l1 >>> (l4 &&& 31)) &&& 1) = 0 → b_X6_leastOf_34 d 1 l1 l2 l4 h K E) ∧ (¬ (((l1 >>> (l4 &&& 31)) &&& 1) = 0) → (Ca d m_X6_numberAt [.ref 1, .int l4] h (fun rv h1 => ∃ x2, rv = some (.long x2) ∧ Sg h1.1 y ∧ b_X6_leastOf_34 d 1 l1 (mnJ l2 x2) l4 h1 K E) E)))) : b_X6_leastOf_7 d 1 l1 l2 l4 h K E := by
  show Ex d [] tb_X6_leastOf (7, [some (.ref 1), some (.int l1), some (.long l2), none, some (.int l4)], []) h _
  refine Ex.pure 2 (fr2 := (11, [some (.ref 1), some (.int l1), some (.long l2), none, some (.int l4)], [.int 16, .int l4])) rfl ?_
  refine Ex.br (x := (40, [some (.ref 1), some (.int l1), some (.long l2), none, some (.int l4)], [])) (y := (14, [some (.ref 1), some (.int l1), some (.long l2), none, some (.int l4)], [])) (b := 16 ≤ l4) rfl (fun hb => ?_) (fun hb => ?_)
  · replace H := H.1 (hb)
    refine Ex.pure 1 (fr2 := (41, [some (.ref 1), some (.int l1), some (.long l2), none, some (.int l4)], [.long l2])) rfl ?_
    exact Ex.lret rfl H
  · replace H := H.2 (hb)
    refine Ex.pure 5 (fr2 := (20, [some (.ref 1), some (.int l1), some (.long l2), none, some (.int l4)], [.int ((l1 >>> (l4 &&& 31)) &&& 1)])) rfl ?_
    refine Ex.br (x := (34, [some (.ref 1), some (.int l1), some (.long l2), none, some (.int l4)], [])) (y := (23, [some (.ref 1), some (.int l1), some (.long l2), none, some (.int l4)], [])) (b := ((l1 >>> (l4 &&& 31)) &&& 1) = 0) rfl (fun hb => ?_) (fun hb => ?_)
    · replace H := H.1 (hb)
      exact H
    · replace H := H.2 (hb)
      refine Ex.pure 3 (fr2 := (27, [some (.ref 1), some (.int l1), some (.long l2), none, some (.int l4)], [.int l4, .ref 1, .long l2])) rfl ?_
      refine Ex.cal (rest := [.long l2]) (j := m_X6_numberAt) (as := [.ref 1, .int l4]) (vst (a := 99) (b := 2) (c := 5) (rest := [.long l2]) (vs := [.int l4]) rfl ⟨Nat.le_of_ble_eq_true rfl, Nat.le_of_ble_eq_true rfl⟩ rfl rfl (sg_1 hs)) (H.imp ?_)
      intro rv h1 H
      obtain ⟨x2, rfl, H⟩ := H
      obtain ⟨hs, H⟩ := H
      show Ex d [] tb_X6_leastOf (30, [some (.ref 1), some (.int l1), some (.long l2), none, some (.int l4)], [.long x2, .long l2]) h1 _
      refine Ex.st (r := some (.inl ((33, [some (.ref 1), some (.int l1), some (.long l2), none, some (.int l4)], [.long (mnJ l2 x2)]), h1))) (fun c => rfl) ?_
      show Ex d [] tb_X6_leastOf (33, [some (.ref 1), some (.int l1), some (.long l2), none, some (.int l4)], [.long (mnJ l2 x2)]) h1 _
      refine Ex.pure 1 (fr2 := (34, [some (.ref 1), some (.int l1), some (.long (mnJ l2 x2)), none, some (.int l4)], [])) rfl ?_
      exact H
theorem w_X6_leastOf_34 {d : Nat} {h : XH} {y : Nat → Nat} {K : XK} {E : XE} {l1 : Int32} {l2 : Int64} {l4 : Int32} (hd : 20 ≤ d) (hs : Sg h.1 y) (H : b_X6_leastOf_7 d 1 l1 l2 (l4 + 1) h K E) : b_X6_leastOf_34 d 1 l1 l2 l4 h K E := by
  show Ex d [] tb_X6_leastOf (34, [some (.ref 1), some (.int l1), some (.long l2), none, some (.int l4)], []) h _
  refine Ex.pure 2 (fr2 := (7, [some (.ref 1), some (.int l1), some (.long l2), none, some (.int (l4 + 1))], [])) rfl ?_
  exact H
theorem w_X6_addGrowths {d : Nat} {h : XH} {y : Nat → Nat} {K : XK} {E : XE} {o : Nat} {n_o : Nat} {p : Nat} {n_p : Nat} {c : Int32} (hd : 20 ≤ d) (hs : Sg h.1 y) (ho_o : Gq h.1 o n_o) (hn_o : n_o < 2 ^ 31) (ho_p : Gq h.1 p n_p) (hn_p : n_p < 2 ^ 31) (H : (Ca d m_X4_restart [.ref 19] h (fun rv h1 => rv = none ∧ Sg h1.1 y ∧ Gq h1.1 o n_o ∧ Gq h1.1 p n_p ∧ (Ca d m_X4_addMultiple [.ref 19, .ref o, .long 1, .long 550293209600] h1 (fun rv h3 => rv = none ∧ ∃ y5 : Nat → Nat, Sg h3.1 y5 ∧ Gq h3.1 o n_o ∧ Gq h3.1 p n_p ∧ (Ca d m_X4_addMultiple [.ref 19, .ref p, .long ((c : Int32).toInt64), .long 550293209600] h3 (fun rv h6 => rv = none ∧ ∃ y8 : Nat → Nat, Sg h6.1 y8 ∧ Gq h6.1 o n_o ∧ Gq h6.1 p n_p ∧ K none h6) E)) E)) E)) : Ca (d + 1) m_X6_addGrowths [.ref 1, .ref o, .ref p, .int c] h K E := by
  refine Ca.of ⟨by show 4 ≤ 4; omega, rfl⟩ ?_
  show Ex d [] tb_X6_addGrowths (0, [some (.ref 1), some (.ref o), some (.ref p), some (.int c)], []) h _
  refine Ex.pure 1 (fr2 := (1, [some (.ref 1), some (.ref o), some (.ref p), some (.int c)], [.ref 1])) rfl ?_
  refine Ex.getQ rfl (sg_1 hs) rfl ?_
  refine Ex.cal (rest := []) (j := m_X4_restart) (as := [.ref 19]) (vst (a := 54) (b := 1) (c := 3) (rest := []) (vs := []) rfl ⟨Nat.le_of_ble_eq_true rfl, Nat.le_of_ble_eq_true rfl⟩ rfl rfl (sg_19 hs)) (H.imp ?_)
  intro rv h1 H
  obtain ⟨rfl, H⟩ := H
  obtain ⟨hs, H⟩ := H
  obtain ⟨ho_o, H⟩ := H
  obtain ⟨ho_p, H⟩ := H
  show Ex d [] tb_X6_addGrowths (7, [some (.ref 1), some (.ref o), some (.ref p), some (.int c)], []) h1 _
  refine Ex.pure 1 (fr2 := (8, [some (.ref 1), some (.ref o), some (.ref p), some (.int c)], [.ref 1])) rfl ?_
  refine Ex.getQ rfl (sg_1 hs) rfl ?_
  refine Ex.pure 3 (fr2 := (16, [some (.ref 1), some (.ref o), some (.ref p), some (.int c)], [.long 550293209600, .long 1, .ref o, .ref 19])) rfl ?_
  refine Ex.cal (rest := []) (j := m_X4_addMultiple) (as := [.ref 19, .ref o, .long 1, .long 550293209600]) (vst (a := 56) (b := 4) (c := 3) (rest := []) (vs := [.ref o, .long 1, .long 550293209600]) rfl ⟨Nat.le_of_ble_eq_true rfl, Nat.le_of_ble_eq_true rfl⟩ rfl rfl (sg_19 hs)) (H.imp ?_)
  intro rv h3 H
  obtain ⟨rfl, H⟩ := H
  obtain ⟨y5, hs, H⟩ := H
  obtain ⟨ho_o, H⟩ := H
  obtain ⟨ho_p, H⟩ := H
  show Ex d [] tb_X6_addGrowths (19, [some (.ref 1), some (.ref o), some (.ref p), some (.int c)], []) h3 _
  refine Ex.pure 1 (fr2 := (20, [some (.ref 1), some (.ref o), some (.ref p), some (.int c)], [.ref 1])) rfl ?_
  refine Ex.getQ rfl (sg_1 hs) rfl ?_
  refine Ex.pure 4 (fr2 := (29, [some (.ref 1), some (.ref o), some (.ref p), some (.int c)], [.long 550293209600, .long ((c : Int32).toInt64), .ref p, .ref 19])) rfl ?_
  refine Ex.cal (rest := []) (j := m_X4_addMultiple) (as := [.ref 19, .ref p, .long ((c : Int32).toInt64), .long 550293209600]) (vst (a := 56) (b := 4) (c := 3) (rest := []) (vs := [.ref p, .long ((c : Int32).toInt64), .long 550293209600]) rfl ⟨Nat.le_of_ble_eq_true rfl, Nat.le_of_ble_eq_true rfl⟩ rfl rfl (sg_19 hs)) (H.imp ?_)
  intro rv h6 H
  obtain ⟨rfl, H⟩ := H
  obtain ⟨y8, hs, H⟩ := H
  obtain ⟨ho_o, H⟩ := H
  obtain ⟨ho_p, H⟩ := H
  show Ex d [] tb_X6_addGrowths (32, [some (.ref 1), some (.ref o), some (.ref p), some (.int c)], []) h6 _
  exact Ex.vret rfl H
def b_X6_multiplyGrowths_9 (d : Nat) (r_0 : Nat) (r_1 : Nat) (r_2 : Nat) (l3 : Int32) (h : XH) (K : XK) (E : XE) : Prop := Ex d [] tb_X6_multiplyGrowths (9, [some (.ref r_0), some (.ref r_1), some (.ref r_2), some (.int l3)], []) h (Po K E)
theorem w_X6_multiplyGrowths {d : Nat} {h : XH} {y : Nat → Nat} {K : XK} {E : XE} {o : Nat} {n_o : Nat} {p : Nat} {n_p : Nat} (hd : 20 ≤ d) (hs : Sg h.1 y) (ho_o : Gq h.1 o n_o) (hn_o : n_o < 2 ^ 31) (ho_p : Gq h.1 p n_p) (hn_p : n_p < 2 ^ 31) (H : (Ca d m_X4_restart [.ref 19] h (fun rv h1 => rv = none ∧ Sg h1.1 y ∧ Gq h1.1 o n_o ∧ Gq h1.1 p n_p ∧ b_X6_multiplyGrowths_9 d 1 o p 0 h1 K E) E)) : Ca (d + 1) m_X6_multiplyGrowths [.ref 1, .ref o, .ref p] h K E := by
  refine Ca.of ⟨by show 3 ≤ 4; omega, rfl⟩ ?_
  show Ex d [] tb_X6_multiplyGrowths (0, [some (.ref 1), some (.ref o), some (.ref p), none], []) h _
  refine Ex.pure 1 (fr2 := (1, [some (.ref 1), some (.ref o), some (.ref p), none], [.ref 1])) rfl ?_
  refine Ex.getQ rfl (sg_1 hs) rfl ?_
  refine Ex.cal (rest := []) (j := m_X4_restart) (as := [.ref 19]) (vst (a := 54) (b := 1) (c := 3) (rest := []) (vs := []) rfl ⟨Nat.le_of_ble_eq_true rfl, Nat.le_of_ble_eq_true rfl⟩ rfl rfl (sg_19 hs)) (H.imp ?_)
  intro rv h1 H
  obtain ⟨rfl, H⟩ := H
  obtain ⟨hs, H⟩ := H
  obtain ⟨ho_o, H⟩ := H
  obtain ⟨ho_p, H⟩ := H
  show Ex d [] tb_X6_multiplyGrowths (7, [some (.ref 1), some (.ref o), some (.ref p), none], []) h1 _
  refine Ex.pure 2 (fr2 := (9, [some (.ref 1), some (.ref o), some (.ref p), some (.int 0)], [])) rfl ?_
  exact H
theorem w_X6_multiplyGrowths_9 {d : Nat} {h : XH} {y : Nat → Nat} {K : XK} {E : XE} {o : Nat} {n_o : Nat} {p : Nat} {n_p : Nat} {l3 : Int32} (hd : 20 ≤ d) (hs : Sg h.1 y) (ho_o : Gq h.1 o n_o) (hn_o : n_o < 2 ^ 31) (ho_p : Gq h.1 p n_p) (hn_p : n_p < 2 ^ 31) (H : ((h.2.1 o 2) ≤ l3 → K none h) ∧ (¬ ((h.2.1 o 2) ≤ l3) → (Ca d m_X4_addMultiple [.ref 19, .ref p, .long (g_J h (o + 1) n_o l3), .long (g_J h (o + 2) n_o l3)] h (fun rv h4 => rv = none ∧ ∃ y6 : Nat → Nat, Sg h4.1 y6 ∧ Gq h4.1 o n_o ∧ Gq h4.1 p n_p ∧ b_X6_multiplyGrowths_9 d 1 o p (l3 + 1) h4 K E) E))) : b_X6_multiplyGrowths_9 d 1 o p l3 h K E := by
  show Ex d [] tb_X6_multiplyGrowths (9, [some (.ref 1), some (.ref o), some (.ref p), some (.int l3)], []) h _
  refine Ex.pure 2 (fr2 := (11, [some (.ref 1), some (.ref o), some (.ref p), some (.int l3)], [.ref o, .int l3])) rfl ?_
  refine Ex.ask (rest := [.int l3]) (j := m_X1_count) (as := [.ref o]) (vst (a := 11) (b := 1) (c := 1) (rest := [.int l3]) (vs := []) rfl ⟨Nat.le_of_ble_eq_true rfl, Nat.le_of_ble_eq_true rfl⟩ rfl rfl ho_o.1) ((t_X1_count (d := 0) ho_o.1).mono (by omega) (fun _ _ z => z)) ?_
  rintro _ h0 ⟨rfl, e0⟩
  rw [e0]
  show Ex d [] tb_X6_multiplyGrowths (14, [some (.ref 1), some (.ref o), some (.ref p), some (.int l3)], [.int (h.2.1 o 2), .int l3]) h _
  refine Ex.br (x := (41, [some (.ref 1), some (.ref o), some (.ref p), some (.int l3)], [])) (y := (17, [some (.ref 1), some (.ref o), some (.ref p), some (.int l3)], [])) (b := (h.2.1 o 2) ≤ l3) rfl (fun hb => ?_) (fun hb => ?_)
  · replace H := H.1 (hb)
    exact Ex.vret rfl H
  · replace H := H.2 (hb)
    refine Ex.pure 1 (fr2 := (18, [some (.ref 1), some (.ref o), some (.ref p), some (.int l3)], [.ref 1])) rfl ?_
    refine Ex.getQ rfl (sg_1 hs) rfl ?_
    refine Ex.pure 3 (fr2 := (24, [some (.ref 1), some (.ref o), some (.ref p), some (.int l3)], [.int l3, .ref o, .ref p, .ref 19])) rfl ?_
    refine Ex.ask (rest := [.ref p, .ref 19]) (j := m_X1_timesAt) (as := [.ref o, .int l3]) (vst (a := 12) (b := 2) (c := 1) (rest := [.ref p, .ref 19]) (vs := [.int l3]) rfl ⟨Nat.le_of_ble_eq_true rfl, Nat.le_of_ble_eq_true rfl⟩ rfl rfl ho_o.1) ((t_X1_timesAt (d := 0) ho_o.1 rfl ho_o.2.1 hn_o).mono (by omega) (fun _ _ z => z)) ?_
    rintro _ h0 ⟨rfl, e0⟩
    rw [e0]
    show Ex d [] tb_X6_multiplyGrowths (27, [some (.ref 1), some (.ref o), some (.ref p), some (.int l3)], [.long (g_J h (o + 1) n_o l3), .ref p, .ref 19]) h _
    refine Ex.pure 2 (fr2 := (29, [some (.ref 1), some (.ref o), some (.ref p), some (.int l3)], [.int l3, .ref o, .long (g_J h (o + 1) n_o l3), .ref p, .ref 19])) rfl ?_
    refine Ex.ask (rest := [.long (g_J h (o + 1) n_o l3), .ref p, .ref 19]) (j := m_X1_keyAt) (as := [.ref o, .int l3]) (vst (a := 13) (b := 2) (c := 1) (rest := [.long (g_J h (o + 1) n_o l3), .ref p, .ref 19]) (vs := [.int l3]) rfl ⟨Nat.le_of_ble_eq_true rfl, Nat.le_of_ble_eq_true rfl⟩ rfl rfl ho_o.1) ((t_X1_keyAt (d := 0) ho_o.1 rfl ho_o.2.2 hn_o).mono (by omega) (fun _ _ z => z)) ?_
    rintro _ h0 ⟨rfl, e0⟩
    rw [e0]
    show Ex d [] tb_X6_multiplyGrowths (32, [some (.ref 1), some (.ref o), some (.ref p), some (.int l3)], [.long (g_J h (o + 2) n_o l3), .long (g_J h (o + 1) n_o l3), .ref p, .ref 19]) h _
    refine Ex.cal (rest := []) (j := m_X4_addMultiple) (as := [.ref 19, .ref p, .long (g_J h (o + 1) n_o l3), .long (g_J h (o + 2) n_o l3)]) (vst (a := 56) (b := 4) (c := 3) (rest := []) (vs := [.ref p, .long (g_J h (o + 1) n_o l3), .long (g_J h (o + 2) n_o l3)]) rfl ⟨Nat.le_of_ble_eq_true rfl, Nat.le_of_ble_eq_true rfl⟩ rfl rfl (sg_19 hs)) (H.imp ?_)
    intro rv h4 H
    obtain ⟨rfl, H⟩ := H
    obtain ⟨y6, hs, H⟩ := H
    obtain ⟨ho_o, H⟩ := H
    obtain ⟨ho_p, H⟩ := H
    show Ex d [] tb_X6_multiplyGrowths (35, [some (.ref 1), some (.ref o), some (.ref p), some (.int l3)], []) h4 _
    refine Ex.pure 2 (fr2 := (9, [some (.ref 1), some (.ref o), some (.ref p), some (.int (l3 + 1))], [])) rfl ?_
    exact H
