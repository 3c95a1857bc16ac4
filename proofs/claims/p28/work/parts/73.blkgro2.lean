/-! ===== layer 2: growths by blocks, the rest, written by a program ===== -/
theorem gro_at : ∀ p, p < 16 → ([some 29, some 32, some 35, some 38, some 41, some 44, some 47, some 50, some 53, some 56, some 59, some 62, some 65, some 68, some 71, some 74] : List (Option Nat))[p]? = some (some (29 + 3 * p)) := by decide
theorem t_X6_growthRow {h : XH} {y : Nat → Nat} {a : Int32} (hs : Sg h.1 y) (hz : isp a) : Tr 1 m_X6_growthRow [.ref 1, .int a] h (fun o h2 => o = .inl (some (.ref (29 + 3 * pN a))) ∧ h2 = h) := by
  refine Tr.ca (Ca.of ⟨by show 2 ≤ 2; omega, rfl⟩ ?_)
  obtain ⟨z1, z2⟩ := isp_p hz
  have e16 : (Int32.ofNat 16).toInt = 16 := rfl
  show Ex 0 [] tb_X6_growthRow (0, [some (.ref 1), some (.int a)], []) h _
  refine Ex.pure 1 (fr2 := (1, [some (.ref 1), some (.int a)], [.int a])) rfl ?_
  refine Ex.br (x := (22, [some (.ref 1), some (.int a)], [])) (y := (4, [some (.ref 1), some (.int a)], [])) (b := a < 0) rfl (fun hb => absurd hb (by rw [i_lt, i_0]; omega)) (fun _ => ?_)
  refine Ex.pure 2 (fr2 := (6, [some (.ref 1), some (.int a)], [.ref 1, .int a])) rfl ?_
  refine Ex.getQ rfl (sg_1 hs) rfl ?_
  refine Ex.alen rfl (by decide) (sg_5 hs) ?_
  refine Ex.br (x := (22, [some (.ref 1), some (.int a)], [])) (y := (13, [some (.ref 1), some (.int a)], [])) (b := Int32.ofNat 16 ≤ a) rfl (fun hb => absurd hb (by rw [i_le, e16]; omega)) (fun _ => ?_)
  refine Ex.pure 1 (fr2 := (14, [some (.ref 1), some (.int a)], [.ref 1])) rfl ?_
  refine Ex.getQ rfl (sg_1 hs) rfl ?_
  refine Ex.pure 1 (fr2 := (18, [some (.ref 1), some (.int a)], [.int a, .ref 5])) rfl ?_
  refine Ex.aald (x := 29 + 3 * pN a) rfl (sg_5 hs) (i_Ix z1 z2) ?_ ?_
  · rw [show a.toNatClampNeg = pN a from i_ix z1]
    exact gro_at _ z2
  refine Ex.pure 1 (fr2 := (23, [some (.ref 1), some (.int a)], [.ref (29 + 3 * pN a)])) rfl ?_
  exact Ex.aret rfl ⟨rfl, rfl⟩
def b_X4_addRow_11 (d : Nat) (r_0 : Nat) (l1 : Int32) (l2 : Int32) (u3 : Option Value) (u4 : Option Value) (u5 : Option Value) (u6 : Option Value) (h : XH) (K : XK) (E : XE) : Prop := Ex d [] tb_X4_addRow (11, [some (.ref r_0), some (.int l1), some (.int l2), u3, u4, u5, u6], []) h (Po K E)
def b_X4_addRow_41 (d : Nat) (r_0 : Nat) (l1 : Int32) (l2 : Int32) (l3 : Int64) (l5 : Int64) (h : XH) (K : XK) (E : XE) : Prop := Ex d [] tb_X4_addRow (41, [some (.ref r_0), some (.int l1), some (.int l2), some (.long l3), none, some (.long l5), none], []) h (Po K E)
def b_X4_addRow_94 (d : Nat) (r_0 : Nat) (l1 : Int32) (l2 : Int32) (l3 : Int64) (l5 : Int64) (h : XH) (K : XK) (E : XE) : Prop := Ex d [] tb_X4_addRow (94, [some (.ref r_0), some (.int l1), some (.int l2), some (.long l3), none, some (.long l5), none], []) h (Po K E)
def b_X4_addRow_134 (d : Nat) (r_0 : Nat) (l1 : Int32) (l2 : Int32) (l3 : Int64) (l5 : Int64) (h : XH) (K : XK) (E : XE) : Prop := Ex d [] tb_X4_addRow (134, [some (.ref r_0), some (.int l1), some (.int l2), some (.long l3), none, some (.long l5), none], []) h (Po K E)
def b_X4_addRow_150 (d : Nat) (r_0 : Nat) (l1 : Int32) (u2 : Option Value) (u3 : Option Value) (u4 : Option Value) (u5 : Option Value) (u6 : Option Value) (h : XH) (K : XK) (E : XE) : Prop := Ex d [] tb_X4_addRow (150, [some (.ref r_0), some (.int l1), u2, u3, u4, u5, u6], []) h (Po K E)
def b_X4_addRow_190 (d : Nat) (r_0 : Nat) (u1 : Option Value) (u2 : Option Value) (u3 : Option Value) (u4 : Option Value) (u5 : Option Value) (u6 : Option Value) (h : XH) (K : XK) (E : XE) : Prop := Ex d [] tb_X4_addRow (190, [some (.ref r_0), u1, u2, u3, u4, u5, u6], []) h (Po K E)
theorem w_X4_addRow {d : Nat} {h : XH} {y : Nat → Nat} {K : XK} {E : XE} (hd : 20 ≤ d) (hs : Sg h.1 y) (H : (∀ h1 : XH, h1 = (x_setI h (y 9) 2 0) → b_X4_addRow_11 d 19 0 0 none none none none h1 K E)) : Ca (d + 1) m_X4_addRow [.ref 19] h K E := by
  refine Ca.of ⟨by show 1 ≤ 7; omega, rfl⟩ ?_
  show Ex d [] tb_X4_addRow (0, [some (.ref 19), none, none, none, none, none, none], []) h _
  refine Ex.pure 1 (fr2 := (1, [some (.ref 19), none, none, none, none, none, none], [.ref 19])) rfl ?_
  refine Ex.getQ rfl (sg_19 hs) rfl ?_
  refine Ex.ask (rest := []) (j := m_X1_restart) (as := [.ref (y 9)]) (vst (a := 14) (b := 1) (c := 1) (rest := []) (vs := []) rfl ⟨Nat.le_of_ble_eq_true rfl, Nat.le_of_ble_eq_true rfl⟩ rfl rfl (sg_y9 hs)) ((t_X1_restart (d := 0) (sg_y9 hs)).mono (by omega) (fun _ _ z => z)) ?_
  rintro _ h1 ⟨rfl, e1⟩
  replace H := H h1 e1
  replace hs : Sg h1.1 y := by rw [e1]; exact hs
  show Ex d [] tb_X4_addRow (7, [some (.ref 19), none, none, none, none, none, none], []) h1 _
  refine Ex.pure 4 (fr2 := (11, [some (.ref 19), some (.int 0), some (.int 0), none, none, none, none], [])) rfl ?_
  exact H
theorem w_X4_addRow_11 {d : Nat} {h : XH} {y : Nat → Nat} {K : XK} {E : XE} {l1 : Int32} {l2 : Int32} {u3 : Option Value} {u4 : Option Value} {u5 : Option Value} {u6 : Option Value} (hd : 20 ≤ d) (hs : Sg h.1 y) (H : ((h.2.1 26 2) ≤ l2 → b_X4_addRow_150 d 19 l1 (some (.int l2)) (u3) (u4) (u5) (u6) h K E) ∧ (¬ ((h.2.1 26 2) ≤ l2) → b_X4_addRow_41 d 19 l1 l2 (g_J h 28 20 l2) (g_J h 27 20 l2) h K E)) : b_X4_addRow_11 d 19 l1 l2 u3 u4 u5 u6 h K E := by
  show Ex d [] tb_X4_addRow (11, [some (.ref 19), some (.int l1), some (.int l2), u3, u4, u5, u6], []) h _
  refine Ex.pure 2 (fr2 := (13, [some (.ref 19), some (.int l1), some (.int l2), u3, u4, u5, u6], [.ref 19, .int l2])) rfl ?_
  refine Ex.getQ rfl (sg_19 hs) rfl ?_
  refine Ex.ask (rest := [.int l2]) (j := m_X1_count) (as := [.ref 26]) (vst (a := 11) (b := 1) (c := 1) (rest := [.int l2]) (vs := []) rfl ⟨Nat.le_of_ble_eq_true rfl, Nat.le_of_ble_eq_true rfl⟩ rfl rfl (sg_26 hs)) ((t_X1_count (d := 0) (sg_26 hs)).mono (by omega) (fun _ _ z => z)) ?_
  rintro _ h0 ⟨rfl, e0⟩
  rw [e0]
  show Ex d [] tb_X4_addRow (19, [some (.ref 19), some (.int l1), some (.int l2), u3, u4, u5, u6], [.int (h.2.1 26 2), .int l2]) h _
  refine Ex.br (x := (150, [some (.ref 19), some (.int l1), some (.int l2), u3, u4, u5, u6], [])) (y := (22, [some (.ref 19), some (.int l1), some (.int l2), u3, u4, u5, u6], [])) (b := (h.2.1 26 2) ≤ l2) rfl (fun hb => ?_) (fun hb => ?_)
  · replace H := H.1 (hb)
    exact H
  · replace H := H.2 (hb)
    refine Ex.pure 1 (fr2 := (23, [some (.ref 19), some (.int l1), some (.int l2), u3, u4, u5, u6], [.ref 19])) rfl ?_
    refine Ex.getQ rfl (sg_19 hs) rfl ?_
    refine Ex.pure 1 (fr2 := (27, [some (.ref 19), some (.int l1), some (.int l2), u3, u4, u5, u6], [.int l2, .ref 26])) rfl ?_
    refine Ex.ask (rest := []) (j := m_X1_keyAt) (as := [.ref 26, .int l2]) (vst (a := 13) (b := 2) (c := 1) (rest := []) (vs := [.int l2]) rfl ⟨Nat.le_of_ble_eq_true rfl, Nat.le_of_ble_eq_true rfl⟩ rfl rfl (sg_26 hs)) ((t_X1_keyAt (d := 0) (sg_26 hs) rfl (sg_28 hs) (by omega)).mono (by omega) (fun _ _ z => z)) ?_
    rintro _ h0 ⟨rfl, e0⟩
    rw [e0]
    show Ex d [] tb_X4_addRow (30, [some (.ref 19), some (.int l1), some (.int l2), u3, u4, u5, u6], [.long (g_J h 28 20 l2)]) h _
    refine Ex.pure 2 (fr2 := (32, [some (.ref 19), some (.int l1), some (.int l2), some (.long (g_J h 28 20 l2)), none, u5, u6], [.ref 19])) rfl ?_
    refine Ex.getQ rfl (sg_19 hs) rfl ?_
    refine Ex.pure 1 (fr2 := (36, [some (.ref 19), some (.int l1), some (.int l2), some (.long (g_J h 28 20 l2)), none, u5, u6], [.int l2, .ref 26])) rfl ?_
    refine Ex.ask (rest := []) (j := m_X1_timesAt) (as := [.ref 26, .int l2]) (vst (a := 12) (b := 2) (c := 1) (rest := []) (vs := [.int l2]) rfl ⟨Nat.le_of_ble_eq_true rfl, Nat.le_of_ble_eq_true rfl⟩ rfl rfl (sg_26 hs)) ((t_X1_timesAt (d := 0) (sg_26 hs) rfl (sg_27 hs) (by omega)).mono (by omega) (fun _ _ z => z)) ?_
    rintro _ h0 ⟨rfl, e0⟩
    rw [e0]
    show Ex d [] tb_X4_addRow (39, [some (.ref 19), some (.int l1), some (.int l2), some (.long (g_J h 28 20 l2)), none, u5, u6], [.long (g_J h 27 20 l2)]) h _
    refine Ex.pure 1 (fr2 := (41, [some (.ref 19), some (.int l1), some (.int l2), some (.long (g_J h 28 20 l2)), none, some (.long (g_J h 27 20 l2)), none], [])) rfl ?_
    exact H
theorem w_X4_addRow_41 {d : Nat} {h : XH} {y : Nat → Nat} {K : XK} {E : XE} {l1 : Int32} {l2 : Int32} {l3 : Int64} {l5 : Int64} (hd : 20 ≤ d) (hs : Sg h.1 y) (H : ((h.2.1 (y 8) 2) ≤ l1 → b_X4_addRow_94 d 19 l1 l2 l3 l5 h K E) ∧ (¬ ((h.2.1 (y 8) 2) ≤ l1) → ((g_J h (y 8 + 2) 400 l1) ≤ l3 → b_X4_addRow_94 d 19 l1 l2 l3 l5 h K E) ∧ (¬ ((g_J h (y 8 + 2) 400 l1) ≤ l3) → (Ca d m_X1_add [.ref (y 9), .long (g_J h (y 8 + 1) 400 l1), .long (g_J h (y 8 + 2) 400 l1)] h (fun rv h5 => rv = none ∧ Sg h5.1 y ∧ b_X4_addRow_41 d 19 (l1 + 1) l2 l3 l5 h5 K E) E)))) : b_X4_addRow_41 d 19 l1 l2 l3 l5 h K E := by
  show Ex d [] tb_X4_addRow (41, [some (.ref 19), some (.int l1), some (.int l2), some (.long l3), none, some (.long l5), none], []) h _
  refine Ex.pure 2 (fr2 := (43, [some (.ref 19), some (.int l1), some (.int l2), some (.long l3), none, some (.long l5), none], [.ref 19, .int l1])) rfl ?_
  refine Ex.getQ rfl (sg_19 hs) rfl ?_
  refine Ex.ask (rest := [.int l1]) (j := m_X1_count) (as := [.ref (y 8)]) (vst (a := 11) (b := 1) (c := 1) (rest := [.int l1]) (vs := []) rfl ⟨Nat.le_of_ble_eq_true rfl, Nat.le_of_ble_eq_true rfl⟩ rfl rfl (sg_y8 hs)) ((t_X1_count (d := 0) (sg_y8 hs)).mono (by omega) (fun _ _ z => z)) ?_
  rintro _ h0 ⟨rfl, e0⟩
  rw [e0]
  show Ex d [] tb_X4_addRow (49, [some (.ref 19), some (.int l1), some (.int l2), some (.long l3), none, some (.long l5), none], [.int (h.2.1 (y 8) 2), .int l1]) h _
  refine Ex.br (x := (94, [some (.ref 19), some (.int l1), some (.int l2), some (.long l3), none, some (.long l5), none], [])) (y := (52, [some (.ref 19), some (.int l1), some (.int l2), some (.long l3), none, some (.long l5), none], [])) (b := (h.2.1 (y 8) 2) ≤ l1) rfl (fun hb => ?_) (fun hb => ?_)
  · replace H := H.1 (hb)
    exact H
  · replace H := H.2 (hb)
    refine Ex.pure 1 (fr2 := (53, [some (.ref 19), some (.int l1), some (.int l2), some (.long l3), none, some (.long l5), none], [.ref 19])) rfl ?_
    refine Ex.getQ rfl (sg_19 hs) rfl ?_
    refine Ex.pure 1 (fr2 := (57, [some (.ref 19), some (.int l1), some (.int l2), some (.long l3), none, some (.long l5), none], [.int l1, .ref (y 8)])) rfl ?_
    refine Ex.ask (rest := []) (j := m_X1_keyAt) (as := [.ref (y 8), .int l1]) (vst (a := 13) (b := 2) (c := 1) (rest := []) (vs := [.int l1]) rfl ⟨Nat.le_of_ble_eq_true rfl, Nat.le_of_ble_eq_true rfl⟩ rfl rfl (sg_y8 hs)) ((t_X1_keyAt (d := 0) (sg_y8 hs) rfl (sg_Gn hs).1.2.2 (by omega)).mono (by omega) (fun _ _ z => z)) ?_
    rintro _ h0 ⟨rfl, e0⟩
    rw [e0]
    show Ex d [] tb_X4_addRow (60, [some (.ref 19), some (.int l1), some (.int l2), some (.long l3), none, some (.long l5), none], [.long (g_J h (y 8 + 2) 400 l1)]) h _
    refine Ex.pure 2 (fr2 := (62, [some (.ref 19), some (.int l1), some (.int l2), some (.long l3), none, some (.long l5), none], [.int (lg_cmp (g_J h (y 8 + 2) 400 l1) l3)])) rfl ?_
    refine Ex.br (x := (94, [some (.ref 19), some (.int l1), some (.int l2), some (.long l3), none, some (.long l5), none], [])) (y := (65, [some (.ref 19), some (.int l1), some (.int l2), some (.long l3), none, some (.long l5), none], [])) (b := (lg_cmp (g_J h (y 8 + 2) 400 l1) l3) ≤ 0) rfl (fun hb => ?_) (fun hb => ?_)
    · replace H := H.1 ((lg_cmp_le _ _).mp hb)
      exact H
    · replace H := H.2 (fun z => hb ((lg_cmp_le _ _).mpr z))
      refine Ex.pure 1 (fr2 := (66, [some (.ref 19), some (.int l1), some (.int l2), some (.long l3), none, some (.long l5), none], [.ref 19])) rfl ?_
      refine Ex.getQ rfl (sg_19 hs) rfl ?_
      refine Ex.pure 1 (fr2 := (70, [some (.ref 19), some (.int l1), some (.int l2), some (.long l3), none, some (.long l5), none], [.ref 19, .ref (y 9)])) rfl ?_
      refine Ex.getQ rfl (sg_19 hs) rfl ?_
      refine Ex.pure 1 (fr2 := (74, [some (.ref 19), some (.int l1), some (.int l2), some (.long l3), none, some (.long l5), none], [.int l1, .ref (y 8), .ref (y 9)])) rfl ?_
      refine Ex.ask (rest := [.ref (y 9)]) (j := m_X1_timesAt) (as := [.ref (y 8), .int l1]) (vst (a := 12) (b := 2) (c := 1) (rest := [.ref (y 9)]) (vs := [.int l1]) rfl ⟨Nat.le_of_ble_eq_true rfl, Nat.le_of_ble_eq_true rfl⟩ rfl rfl (sg_y8 hs)) ((t_X1_timesAt (d := 0) (sg_y8 hs) rfl (sg_Gn hs).1.2.1 (by omega)).mono (by omega) (fun _ _ z => z)) ?_
      rintro _ h0 ⟨rfl, e0⟩
      rw [e0]
      show Ex d [] tb_X4_addRow (77, [some (.ref 19), some (.int l1), some (.int l2), some (.long l3), none, some (.long l5), none], [.long (g_J h (y 8 + 1) 400 l1), .ref (y 9)]) h _
      refine Ex.pure 1 (fr2 := (78, [some (.ref 19), some (.int l1), some (.int l2), some (.long l3), none, some (.long l5), none], [.ref 19, .long (g_J h (y 8 + 1) 400 l1), .ref (y 9)])) rfl ?_
      refine Ex.getQ rfl (sg_19 hs) rfl ?_
      refine Ex.pure 1 (fr2 := (82, [some (.ref 19), some (.int l1), some (.int l2), some (.long l3), none, some (.long l5), none], [.int l1, .ref (y 8), .long (g_J h (y 8 + 1) 400 l1), .ref (y 9)])) rfl ?_
      refine Ex.ask (rest := [.long (g_J h (y 8 + 1) 400 l1), .ref (y 9)]) (j := m_X1_keyAt) (as := [.ref (y 8), .int l1]) (vst (a := 13) (b := 2) (c := 1) (rest := [.long (g_J h (y 8 + 1) 400 l1), .ref (y 9)]) (vs := [.int l1]) rfl ⟨Nat.le_of_ble_eq_true rfl, Nat.le_of_ble_eq_true rfl⟩ rfl rfl (sg_y8 hs)) ((t_X1_keyAt (d := 0) (sg_y8 hs) rfl (sg_Gn hs).1.2.2 (by omega)).mono (by omega) (fun _ _ z => z)) ?_
      rintro _ h0 ⟨rfl, e0⟩
      rw [e0]
      show Ex d [] tb_X4_addRow (85, [some (.ref 19), some (.int l1), some (.int l2), some (.long l3), none, some (.long l5), none], [.long (g_J h (y 8 + 2) 400 l1), .long (g_J h (y 8 + 1) 400 l1), .ref (y 9)]) h _
      refine Ex.cal (rest := []) (j := m_X1_add) (as := [.ref (y 9), .long (g_J h (y 8 + 1) 400 l1), .long (g_J h (y 8 + 2) 400 l1)]) (vst (a := 15) (b := 3) (c := 1) (rest := []) (vs := [.long (g_J h (y 8 + 1) 400 l1), .long (g_J h (y 8 + 2) 400 l1)]) rfl ⟨Nat.le_of_ble_eq_true rfl, Nat.le_of_ble_eq_true rfl⟩ rfl rfl (sg_y9 hs)) (H.imp ?_)
      intro rv h5 H
      obtain ⟨rfl, H⟩ := H
      obtain ⟨hs, H⟩ := H
      show Ex d [] tb_X4_addRow (88, [some (.ref 19), some (.int l1), some (.int l2), some (.long l3), none, some (.long l5), none], []) h5 _
      refine Ex.pure 2 (fr2 := (41, [some (.ref 19), some (.int (l1 + 1)), some (.int l2), some (.long l3), none, some (.long l5), none], [])) rfl ?_
      exact H
theorem w_X4_addRow_94 {d : Nat} {h : XH} {y : Nat → Nat} {K : XK} {E : XE} {l1 : Int32} {l2 : Int32} {l3 : Int64} {l5 : Int64} (hd : 20 ≤ d) (hs : Sg h.1 y) (H : ((h.2.1 (y 8) 2) ≤ l1 → b_X4_addRow_134 d 19 l1 l2 l3 l5 h K E) ∧ (¬ ((h.2.1 (y 8) 2) ≤ l1) → (¬ (g_J h (y 8 + 2) 400 l1) = l3 → b_X4_addRow_134 d 19 l1 l2 l3 l5 h K E) ∧ (¬ (¬ (g_J h (y 8 + 2) 400 l1) = l3) → b_X4_addRow_134 d 19 (l1 + 1) l2 l3 (l5 + (g_J h (y 8 + 1) 400 l1)) h K E))) : b_X4_addRow_94 d 19 l1 l2 l3 l5 h K E := by
  show Ex d [] tb_X4_addRow (94, [some (.ref 19), some (.int l1), some (.int l2), some (.long l3), none, some (.long l5), none], []) h _
  refine Ex.pure 2 (fr2 := (96, [some (.ref 19), some (.int l1), some (.int l2), some (.long l3), none, some (.long l5), none], [.ref 19, .int l1])) rfl ?_
  refine Ex.getQ rfl (sg_19 hs) rfl ?_
  refine Ex.ask (rest := [.int l1]) (j := m_X1_count) (as := [.ref (y 8)]) (vst (a := 11) (b := 1) (c := 1) (rest := [.int l1]) (vs := []) rfl ⟨Nat.le_of_ble_eq_true rfl, Nat.le_of_ble_eq_true rfl⟩ rfl rfl (sg_y8 hs)) ((t_X1_count (d := 0) (sg_y8 hs)).mono (by omega) (fun _ _ z => z)) ?_
  rintro _ h0 ⟨rfl, e0⟩
  rw [e0]
  show Ex d [] tb_X4_addRow (102, [some (.ref 19), some (.int l1), some (.int l2), some (.long l3), none, some (.long l5), none], [.int (h.2.1 (y 8) 2), .int l1]) h _
  refine Ex.br (x := (134, [some (.ref 19), some (.int l1), some (.int l2), some (.long l3), none, some (.long l5), none], [])) (y := (105, [some (.ref 19), some (.int l1), some (.int l2), some (.long l3), none, some (.long l5), none], [])) (b := (h.2.1 (y 8) 2) ≤ l1) rfl (fun hb => ?_) (fun hb => ?_)
  · replace H := H.1 (hb)
    exact H
  · replace H := H.2 (hb)
    refine Ex.pure 1 (fr2 := (106, [some (.ref 19), some (.int l1), some (.int l2), some (.long l3), none, some (.long l5), none], [.ref 19])) rfl ?_
    refine Ex.getQ rfl (sg_19 hs) rfl ?_
    refine Ex.pure 1 (fr2 := (110, [some (.ref 19), some (.int l1), some (.int l2), some (.long l3), none, some (.long l5), none], [.int l1, .ref (y 8)])) rfl ?_
    refine Ex.ask (rest := []) (j := m_X1_keyAt) (as := [.ref (y 8), .int l1]) (vst (a := 13) (b := 2) (c := 1) (rest := []) (vs := [.int l1]) rfl ⟨Nat.le_of_ble_eq_true rfl, Nat.le_of_ble_eq_true rfl⟩ rfl rfl (sg_y8 hs)) ((t_X1_keyAt (d := 0) (sg_y8 hs) rfl (sg_Gn hs).1.2.2 (by omega)).mono (by omega) (fun _ _ z => z)) ?_
    rintro _ h0 ⟨rfl, e0⟩
    rw [e0]
    show Ex d [] tb_X4_addRow (113, [some (.ref 19), some (.int l1), some (.int l2), some (.long l3), none, some (.long l5), none], [.long (g_J h (y 8 + 2) 400 l1)]) h _
    refine Ex.pure 2 (fr2 := (115, [some (.ref 19), some (.int l1), some (.int l2), some (.long l3), none, some (.long l5), none], [.int (lg_cmp (g_J h (y 8 + 2) 400 l1) l3)])) rfl ?_
    refine Ex.br (x := (134, [some (.ref 19), some (.int l1), some (.int l2), some (.long l3), none, some (.long l5), none], [])) (y := (118, [some (.ref 19), some (.int l1), some (.int l2), some (.long l3), none, some (.long l5), none], [])) (b := ¬ (lg_cmp (g_J h (y 8 + 2) 400 l1) l3) = 0) rfl (fun hb => ?_) (fun hb => ?_)
    · replace H := H.1 (fun z => hb ((lg_cmp_eq _ _).mpr z))
      exact H
    · replace H := H.2 (fun z => hb (fun w => z ((lg_cmp_eq _ _).mp w)))
      refine Ex.pure 2 (fr2 := (121, [some (.ref 19), some (.int l1), some (.int l2), some (.long l3), none, some (.long l5), none], [.ref 19, .long l5])) rfl ?_
      refine Ex.getQ rfl (sg_19 hs) rfl ?_
      refine Ex.pure 1 (fr2 := (125, [some (.ref 19), some (.int l1), some (.int l2), some (.long l3), none, some (.long l5), none], [.int l1, .ref (y 8), .long l5])) rfl ?_
      refine Ex.ask (rest := [.long l5]) (j := m_X1_timesAt) (as := [.ref (y 8), .int l1]) (vst (a := 12) (b := 2) (c := 1) (rest := [.long l5]) (vs := [.int l1]) rfl ⟨Nat.le_of_ble_eq_true rfl, Nat.le_of_ble_eq_true rfl⟩ rfl rfl (sg_y8 hs)) ((t_X1_timesAt (d := 0) (sg_y8 hs) rfl (sg_Gn hs).1.2.1 (by omega)).mono (by omega) (fun _ _ z => z)) ?_
      rintro _ h0 ⟨rfl, e0⟩
      rw [e0]
      show Ex d [] tb_X4_addRow (128, [some (.ref 19), some (.int l1), some (.int l2), some (.long l3), none, some (.long l5), none], [.long (g_J h (y 8 + 1) 400 l1), .long l5]) h _
      refine Ex.pure 3 (fr2 := (134, [some (.ref 19), some (.int (l1 + 1)), some (.int l2), some (.long l3), none, some (.long (l5 + (g_J h (y 8 + 1) 400 l1))), none], [])) rfl ?_
      exact H
theorem w_X4_addRow_134 {d : Nat} {h : XH} {y : Nat → Nat} {K : XK} {E : XE} {l1 : Int32} {l2 : Int32} {l3 : Int64} {l5 : Int64} (hd : 20 ≤ d) (hs : Sg h.1 y) (H : (Ca d m_X1_add [.ref (y 9), .long l5, .long l3] h (fun rv h1 => rv = none ∧ Sg h1.1 y ∧ b_X4_addRow_11 d 19 l1 (l2 + 1) (some (.long l3)) none (some (.long l5)) none h1 K E) E)) : b_X4_addRow_134 d 19 l1 l2 l3 l5 h K E := by
  show Ex d [] tb_X4_addRow (134, [some (.ref 19), some (.int l1), some (.int l2), some (.long l3), none, some (.long l5), none], []) h _
  refine Ex.pure 1 (fr2 := (135, [some (.ref 19), some (.int l1), some (.int l2), some (.long l3), none, some (.long l5), none], [.ref 19])) rfl ?_
  refine Ex.getQ rfl (sg_19 hs) rfl ?_
  refine Ex.pure 2 (fr2 := (141, [some (.ref 19), some (.int l1), some (.int l2), some (.long l3), none, some (.long l5), none], [.long l3, .long l5, .ref (y 9)])) rfl ?_
  refine Ex.cal (rest := []) (j := m_X1_add) (as := [.ref (y 9), .long l5, .long l3]) (vst (a := 15) (b := 3) (c := 1) (rest := []) (vs := [.long l5, .long l3]) rfl ⟨Nat.le_of_ble_eq_true rfl, Nat.le_of_ble_eq_true rfl⟩ rfl rfl (sg_y9 hs)) (H.imp ?_)
  intro rv h1 H
  obtain ⟨rfl, H⟩ := H
  obtain ⟨hs, H⟩ := H
  show Ex d [] tb_X4_addRow (144, [some (.ref 19), some (.int l1), some (.int l2), some (.long l3), none, some (.long l5), none], []) h1 _
  refine Ex.pure 2 (fr2 := (11, [some (.ref 19), some (.int l1), some (.int (l2 + 1)), some (.long l3), none, some (.long l5), none], [])) rfl ?_
  exact H
theorem w_X4_addRow_150 {d : Nat} {h : XH} {y : Nat → Nat} {K : XK} {E : XE} {l1 : Int32} {u2 : Option Value} {u3 : Option Value} {u4 : Option Value} {u5 : Option Value} {u6 : Option Value} (hd : 20 ≤ d) (hs : Sg h.1 y) (H : ((h.2.1 (y 8) 2) ≤ l1 → b_X4_addRow_190 d 19 (some (.int l1)) (u2) (u3) (u4) (u5) (u6) h K E) ∧ (¬ ((h.2.1 (y 8) 2) ≤ l1) → (Ca d m_X1_add [.ref (y 9), .long (g_J h (y 8 + 1) 400 l1), .long (g_J h (y 8 + 2) 400 l1)] h (fun rv h4 => rv = none ∧ Sg h4.1 y ∧ b_X4_addRow_150 d 19 (l1 + 1) (u2) (u3) (u4) (u5) (u6) h4 K E) E))) : b_X4_addRow_150 d 19 l1 u2 u3 u4 u5 u6 h K E := by
  show Ex d [] tb_X4_addRow (150, [some (.ref 19), some (.int l1), u2, u3, u4, u5, u6], []) h _
  refine Ex.pure 2 (fr2 := (152, [some (.ref 19), some (.int l1), u2, u3, u4, u5, u6], [.ref 19, .int l1])) rfl ?_
  refine Ex.getQ rfl (sg_19 hs) rfl ?_
  refine Ex.ask (rest := [.int l1]) (j := m_X1_count) (as := [.ref (y 8)]) (vst (a := 11) (b := 1) (c := 1) (rest := [.int l1]) (vs := []) rfl ⟨Nat.le_of_ble_eq_true rfl, Nat.le_of_ble_eq_true rfl⟩ rfl rfl (sg_y8 hs)) ((t_X1_count (d := 0) (sg_y8 hs)).mono (by omega) (fun _ _ z => z)) ?_
  rintro _ h0 ⟨rfl, e0⟩
  rw [e0]
  show Ex d [] tb_X4_addRow (158, [some (.ref 19), some (.int l1), u2, u3, u4, u5, u6], [.int (h.2.1 (y 8) 2), .int l1]) h _
  refine Ex.br (x := (190, [some (.ref 19), some (.int l1), u2, u3, u4, u5, u6], [])) (y := (161, [some (.ref 19), some (.int l1), u2, u3, u4, u5, u6], [])) (b := (h.2.1 (y 8) 2) ≤ l1) rfl (fun hb => ?_) (fun hb => ?_)
  · replace H := H.1 (hb)
    exact H
  · replace H := H.2 (hb)
    refine Ex.pure 1 (fr2 := (162, [some (.ref 19), some (.int l1), u2, u3, u4, u5, u6], [.ref 19])) rfl ?_
    refine Ex.getQ rfl (sg_19 hs) rfl ?_
    refine Ex.pure 1 (fr2 := (166, [some (.ref 19), some (.int l1), u2, u3, u4, u5, u6], [.ref 19, .ref (y 9)])) rfl ?_
    refine Ex.getQ rfl (sg_19 hs) rfl ?_
    refine Ex.pure 1 (fr2 := (170, [some (.ref 19), some (.int l1), u2, u3, u4, u5, u6], [.int l1, .ref (y 8), .ref (y 9)])) rfl ?_
    refine Ex.ask (rest := [.ref (y 9)]) (j := m_X1_timesAt) (as := [.ref (y 8), .int l1]) (vst (a := 12) (b := 2) (c := 1) (rest := [.ref (y 9)]) (vs := [.int l1]) rfl ⟨Nat.le_of_ble_eq_true rfl, Nat.le_of_ble_eq_true rfl⟩ rfl rfl (sg_y8 hs)) ((t_X1_timesAt (d := 0) (sg_y8 hs) rfl (sg_Gn hs).1.2.1 (by omega)).mono (by omega) (fun _ _ z => z)) ?_
    rintro _ h0 ⟨rfl, e0⟩
    rw [e0]
    show Ex d [] tb_X4_addRow (173, [some (.ref 19), some (.int l1), u2, u3, u4, u5, u6], [.long (g_J h (y 8 + 1) 400 l1), .ref (y 9)]) h _
    refine Ex.pure 1 (fr2 := (174, [some (.ref 19), some (.int l1), u2, u3, u4, u5, u6], [.ref 19, .long (g_J h (y 8 + 1) 400 l1), .ref (y 9)])) rfl ?_
    refine Ex.getQ rfl (sg_19 hs) rfl ?_
    refine Ex.pure 1 (fr2 := (178, [some (.ref 19), some (.int l1), u2, u3, u4, u5, u6], [.int l1, .ref (y 8), .long (g_J h (y 8 + 1) 400 l1), .ref (y 9)])) rfl ?_
    refine Ex.ask (rest := [.long (g_J h (y 8 + 1) 400 l1), .ref (y 9)]) (j := m_X1_keyAt) (as := [.ref (y 8), .int l1]) (vst (a := 13) (b := 2) (c := 1) (rest := [.long (g_J h (y 8 + 1) 400 l1), .ref (y 9)]) (vs := [.int l1]) rfl ⟨Nat.le_of_ble_eq_true rfl, Nat.le_of_ble_eq_true rfl⟩ rfl rfl (sg_y8 hs)) ((t_X1_keyAt (d := 0) (sg_y8 hs) rfl (sg_Gn hs).1.2.2 (by omega)).mono (by omega) (fun _ _ z => z)) ?_
    rintro _ h0 ⟨rfl, e0⟩
    rw [e0]
    show Ex d [] tb_X4_addRow (181, [some (.ref 19), some (.int l1), u2, u3, u4, u5, u6], [.long (g_J h (y 8 + 2) 400 l1), .long (g_J h (y 8 + 1) 400 l1), .ref (y 9)]) h _
    refine Ex.cal (rest := []) (j := m_X1_add) (as := [.ref (y 9), .long (g_J h (y 8 + 1) 400 l1), .long (g_J h (y 8 + 2) 400 l1)]) (vst (a := 15) (b := 3) (c := 1) (rest := []) (vs := [.long (g_J h (y 8 + 1) 400 l1), .long (g_J h (y 8 + 2) 400 l1)]) rfl ⟨Nat.le_of_ble_eq_true rfl, Nat.le_of_ble_eq_true rfl⟩ rfl rfl (sg_y9 hs)) (H.imp ?_)
    intro rv h4 H
    obtain ⟨rfl, H⟩ := H
    obtain ⟨hs, H⟩ := H
    show Ex d [] tb_X4_addRow (184, [some (.ref 19), some (.int l1), u2, u3, u4, u5, u6], []) h4 _
    refine Ex.pure 2 (fr2 := (150, [some (.ref 19), some (.int (l1 + 1)), u2, u3, u4, u5, u6], [])) rfl ?_
    exact H
/-- both rows of the tally changed for one another -/
def swp (h : XH) (y : Nat → Nat) : XH := x_setT h 19 (0, 3, [some (y 9), some (y 8), some 26])
theorem w_X4_addRow_190 {d : Nat} {h : XH} {y : Nat → Nat} {K : XK} {E : XE} {l1 : Int32} {u2 u3 u4 u5 u6 : Option Value} (hd : 20 ≤ d) (hs : Sg h.1 y) (H : K none (swp h y)) : b_X4_addRow_190 d 19 (some (.int l1)) u2 u3 u4 u5 u6 h K E := by
  show Ex d [] tb_X4_addRow (190, [some (.ref 19), some (.int l1), u2, u3, u4, u5, u6], []) h _
  refine Ex.pure 1 (fr2 := (191, [some (.ref 19), some (.int l1), u2, u3, u4, u5, u6], [.ref 19])) rfl ?_
  refine Ex.getQ rfl (sg_19 hs) rfl ?_
  refine Ex.pure 3 (fr2 := (197, [some (.ref 19), some (.int l1), some (.ref (y 8)), u3, u4, u5, u6], [.ref 19, .ref 19])) rfl ?_
  refine Ex.getQ rfl (sg_19 hs) rfl ?_
  refine Ex.putQ rfl (sg_19 hs) (by simp) ?_
  refine Ex.pure 2 (fr2 := (205, [some (.ref 19), some (.int l1), some (.ref (y 8)), u3, u4, u5, u6], [.ref (y 8), .ref 19])) rfl ?_
  have h19 : 19 < h.1.length := (List.getElem?_eq_some_iff.mp (sg_19 hs)).1
  refine Ex.putQ (q := 19) (rs := [some (y 9), some (y 9), some 26]) rfl ?_ (by simp) ?_
  · show (h.1.set 19 _)[19]? = _
    rw [List.getElem?_set_self h19]
    rfl
  · refine Ex.vret rfl ?_
    show K none ((h.1.set 19 _).set 19 _, h.2.1, h.2.2.1, h.2.2.2)
    rw [List.set_set]
    exact H
theorem w_X6_growthAt {d : Nat} {h : XH} {y : Nat → Nat} {K : XK} {E : XE} {a : Int32} (hd : 20 ≤ d) (hs : Sg h.1 y) (hz : isp a) (H : (¬ (g_I h 2 16 a) = 3 → E 3 (x_new h (4, 3, []) 6)) ∧ (¬ (¬ (g_I h 2 16 a) = 3) → K (some (.ref (29 + 3 * pN a))) h)) : Ca (d + 1) m_X6_growthAt [.ref 1, .int a] h K E := by
  refine Ca.of ⟨by show 2 ≤ 3; omega, rfl⟩ ?_
  show Ex d [] tb_X6_growthAt (0, [some (.ref 1), some (.int a), none], []) h _
  refine Ex.pure 2 (fr2 := (2, [some (.ref 1), some (.int a), none], [.int a, .ref 1])) rfl ?_
  refine Ex.ask (rest := []) (j := m_X6_growthRow) (as := [.ref 1, .int a]) (vst (a := 101) (b := 2) (c := 5) (rest := []) (vs := [.int a]) rfl ⟨Nat.le_of_ble_eq_true rfl, Nat.le_of_ble_eq_true rfl⟩ rfl rfl (sg_1 hs)) ((t_X6_growthRow hs hz).mono (by omega) (fun _ _ z => z)) ?_
  rintro _ h0 ⟨rfl, e0⟩
  rw [e0]
  show Ex d [] tb_X6_growthAt (5, [some (.ref 1), some (.int a), none], [.ref (29 + 3 * pN a)]) h _
  refine Ex.pure 2 (fr2 := (7, [some (.ref 1), some (.int a), some (.ref (29 + 3 * pN a))], [.ref 1])) rfl ?_
  refine Ex.getQ rfl (sg_1 hs) rfl ?_
  refine Ex.pure 1 (fr2 := (11, [some (.ref 1), some (.int a), some (.ref (29 + 3 * pN a))], [.int a, .ref 2])) rfl ?_
  refine Ex.ask (rest := []) (j := m_X3_at) (as := [.ref 2, .int a]) (fun c => rfl) ((t_X3_at (d := 0) (sg_2 hs) (by omega)).mono (by omega) (fun _ _ z => z)) ?_
  rintro _ h0 ⟨rfl, e0⟩
  rw [e0]
  show Ex d [] tb_X6_growthAt (14, [some (.ref 1), some (.int a), some (.ref (29 + 3 * pN a))], [.int (g_I h 2 16 a)]) h _
  refine Ex.pure 1 (fr2 := (15, [some (.ref 1), some (.int a), some (.ref (29 + 3 * pN a))], [.int 3, .int (g_I h 2 16 a)])) rfl ?_
  refine Ex.br (x := (22, [some (.ref 1), some (.int a), some (.ref (29 + 3 * pN a))], [])) (y := (18, [some (.ref 1), some (.int a), some (.ref (29 + 3 * pN a))], [])) (b := ¬ (g_I h 2 16 a) = 3) rfl (fun hb => ?_) (fun hb => ?_)
  · replace H := H.1 (hb)
    exact Ex.thr rfl (by decide) H
  · replace H := H.2 (hb)
    refine Ex.pure 3 (fr2 := (34, [some (.ref 1), some (.int a), some (.ref (29 + 3 * pN a))], [.ref (29 + 3 * pN a)])) rfl ?_
    exact Ex.aret rfl H
theorem w_X6_keepGrowth {d : Nat} {h : XH} {y : Nat → Nat} {K : XK} {E : XE} {a : Int32} (hd : 20 ≤ d) (hs : Sg h.1 y) (hz : isp a) (H : (Ca d m_X1_fits [.ref (y 8)] h (fun rv h3 => ∃ x4, rv = some (.int x4) ∧ Sg h3.1 y ∧ (¬ x4 = 0 → (Ca d m_X1_copy [.ref (29 + 3 * pN a), .ref (y 8)] h3 (fun rv h5 => rv = none ∧ Sg h5.1 y ∧ (∀ h7 : XH, h7 = (p_I h5 2 16 a 3) → K none h7)) E)) ∧ (¬ (¬ x4 = 0) → E 3 (x_new h3 (4, 3, []) 6))) E)) : Ca (d + 1) m_X6_keepGrowth [.ref 1, .int a] h K E := by
  refine Ca.of ⟨by show 2 ≤ 4; omega, rfl⟩ ?_
  show Ex d [] tb_X6_keepGrowth (0, [some (.ref 1), some (.int a), none, none], []) h _
  refine Ex.pure 1 (fr2 := (1, [some (.ref 1), some (.int a), none, none], [.ref 1])) rfl ?_
  refine Ex.getQ rfl (sg_1 hs) rfl ?_
  refine Ex.ask (rest := []) (j := m_X4_growth) (as := [.ref 19]) (vst (a := 53) (b := 1) (c := 3) (rest := []) (vs := []) rfl ⟨Nat.le_of_ble_eq_true rfl, Nat.le_of_ble_eq_true rfl⟩ rfl rfl (sg_19 hs)) ((t_X4_growth hs).mono (by omega) (fun _ _ z => z)) ?_
  rintro _ h0 ⟨rfl, e0⟩
  rw [e0]
  show Ex d [] tb_X6_keepGrowth (7, [some (.ref 1), some (.int a), none, none], [.ref (y 8)]) h _
  refine Ex.pure 3 (fr2 := (10, [some (.ref 1), some (.int a), some (.ref (y 8)), none], [.int a, .ref 1])) rfl ?_
  refine Ex.ask (rest := []) (j := m_X6_growthRow) (as := [.ref 1, .int a]) (vst (a := 101) (b := 2) (c := 5) (rest := []) (vs := [.int a]) rfl ⟨Nat.le_of_ble_eq_true rfl, Nat.le_of_ble_eq_true rfl⟩ rfl rfl (sg_1 hs)) ((t_X6_growthRow hs hz).mono (by omega) (fun _ _ z => z)) ?_
  rintro _ h0 ⟨rfl, e0⟩
  rw [e0]
  show Ex d [] tb_X6_keepGrowth (13, [some (.ref 1), some (.int a), some (.ref (y 8)), none], [.ref (29 + 3 * pN a)]) h _
  refine Ex.pure 4 (fr2 := (19, [some (.ref 1), some (.int a), some (.ref (y 8)), some (.ref (29 + 3 * pN a))], [.ref (y 8)])) rfl ?_
  refine Ex.cal (rest := []) (j := m_X1_fits) (as := [.ref (y 8)]) (vst (a := 17) (b := 1) (c := 1) (rest := []) (vs := []) rfl ⟨Nat.le_of_ble_eq_true rfl, Nat.le_of_ble_eq_true rfl⟩ rfl rfl (sg_y8 hs)) (H.imp ?_)
  intro rv h3 H
  obtain ⟨x4, rfl, H⟩ := H
  obtain ⟨hs, H⟩ := H
  show Ex d [] tb_X6_keepGrowth (22, [some (.ref 1), some (.int a), some (.ref (y 8)), some (.ref (29 + 3 * pN a))], [.int x4]) h3 _
  refine Ex.br (x := (36, [some (.ref 1), some (.int a), some (.ref (y 8)), some (.ref (29 + 3 * pN a))], [])) (y := (25, [some (.ref 1), some (.int a), some (.ref (y 8)), some (.ref (29 + 3 * pN a))], [])) (b := ¬ x4 = 0) rfl (fun hb => ?_) (fun hb => ?_)
  · replace H := H.1 (hb)
    refine Ex.pure 2 (fr2 := (38, [some (.ref 1), some (.int a), some (.ref (y 8)), some (.ref (29 + 3 * pN a))], [.ref (y 8), .ref (29 + 3 * pN a)])) rfl ?_
    refine Ex.cal (rest := []) (j := m_X1_copy) (as := [.ref (29 + 3 * pN a), .ref (y 8)]) (vst (a := 16) (b := 2) (c := 1) (rest := []) (vs := [.ref (y 8)]) rfl ⟨Nat.le_of_ble_eq_true rfl, Nat.le_of_ble_eq_true rfl⟩ rfl rfl (sg_Gr hs (isp_p hz).2).1) (H.imp ?_)
    intro rv h5 H
    obtain ⟨rfl, H⟩ := H
    obtain ⟨hs, H⟩ := H
    show Ex d [] tb_X6_keepGrowth (41, [some (.ref 1), some (.int a), some (.ref (y 8)), some (.ref (29 + 3 * pN a))], []) h5 _
    refine Ex.pure 1 (fr2 := (42, [some (.ref 1), some (.int a), some (.ref (y 8)), some (.ref (29 + 3 * pN a))], [.ref 1])) rfl ?_
    refine Ex.getQ rfl (sg_1 hs) rfl ?_
    refine Ex.pure 2 (fr2 := (47, [some (.ref 1), some (.int a), some (.ref (y 8)), some (.ref (29 + 3 * pN a))], [.int 3, .int a, .ref 2])) rfl ?_
    refine Ex.ask (rest := []) (j := m_X3_put) (as := [.ref 2, .int a, .int 3]) (fun c => rfl) ((t_X3_put (d := 0) (sg_2 hs) (by omega)).mono (by omega) (fun _ _ z => z)) ?_
    rintro _ h7 ⟨rfl, e7⟩
    replace H := H h7 e7
    replace hs : Sg h7.1 y := by rw [e7, p_I_sh]; exact hs
    show Ex d [] tb_X6_keepGrowth (50, [some (.ref 1), some (.int a), some (.ref (y 8)), some (.ref (29 + 3 * pN a))], []) h7 _
    exact Ex.vret rfl H
  · replace H := H.2 (hb)
    exact Ex.thr rfl (by decide) H
