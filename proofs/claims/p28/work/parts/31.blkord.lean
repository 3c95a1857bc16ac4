/-! ===== layer 2: the class's ordinals by blocks, written by a program ===== -/
def b_X0_insert_15 (d : Nat) (r_0 : Nat) (l1 : Int32) (l2 : Int64) (l4 : Int32) (l5 : Int32) (h : XH) (K : XK) (E : XE) : Prop := Ex d [] tb_X0_insert (15, [some (.ref r_0), some (.int l1), some (.long l2), none, some (.int l4), some (.int l5)], []) h (Po K E)
theorem w_X0_insert {d : Nat} {h : XH} {y : Nat → Nat} {K : XK} {E : XE} {q : Nat} {w : Int32} {v : Int64} {e : Int32} (hd : 20 ≤ d) (hs : Sg h.1 y) (ho_q : Dq h.1 q) (H : (∀ h1 : XH, h1 = (a_Dr h q (q + 1) (q + 2) 64 v e) → b_X0_insert_15 d q w v e ((h1.2.1 q 2) - 1) h1 K E)) : Ca (d + 1) m_X0_insert [.ref q, .int w, .long v, .int e] h K E := by
  refine Ca.of ⟨by show 5 ≤ 6; omega, rfl⟩ ?_
  show Ex d [] tb_X0_insert (0, [some (.ref q), some (.int w), some (.long v), none, some (.int e), none], []) h _
  refine Ex.pure 3 (fr2 := (4, [some (.ref q), some (.int w), some (.long v), none, some (.int e), none], [.int e, .long v, .ref q])) rfl ?_
  refine Ex.ask (rest := []) (j := m_X0_add) (as := [.ref q, .long v, .int e]) (vst (a := 5) (b := 3) (c := 0) (rest := []) (vs := [.long v, .int e]) rfl ⟨Nat.le_of_ble_eq_true rfl, Nat.le_of_ble_eq_true rfl⟩ rfl rfl ho_q.1) ((t_X0_add (d := 0) ho_q.1 rfl rfl ho_q.2.1 ho_q.2.2 (by omega) (by omega)).mono (by omega) (fun _ _ z => z)) ?_
  rintro _ h1 ⟨rfl, e1⟩
  replace H := H h1 e1
  replace hs : Sg h1.1 y := by rw [e1, a_Dr_sh]; exact hs
  replace ho_q : Dq h1.1 q := by rw [e1, a_Dr_sh]; exact ho_q
  show Ex d [] tb_X0_insert (7, [some (.ref q), some (.int w), some (.long v), none, some (.int e), none], []) h1 _
  refine Ex.pure 1 (fr2 := (8, [some (.ref q), some (.int w), some (.long v), none, some (.int e), none], [.ref q])) rfl ?_
  refine Ex.getI rfl (Or.inl rfl) ho_q.1 ?_
  refine Ex.pure 3 (fr2 := (15, [some (.ref q), some (.int w), some (.long v), none, some (.int e), some (.int ((h1.2.1 q 2) - 1))], [])) rfl ?_
  exact H
theorem w_X0_insert_15 {d : Nat} {h : XH} {y : Nat → Nat} {K : XK} {E : XE} {q : Nat} {l1 : Int32} {l2 : Int64} {l4 : Int32} {l5 : Int32} (hd : 20 ≤ d) (hs : Sg h.1 y) (ho_q : Dq h.1 q) (H : (l5 ≤ l1 → (∀ h1 : XH, h1 = (p_J h (q + 1) 64 l1 l2) → (∀ h2 : XH, h2 = (p_I h1 (q + 2) 64 l1 l4) → K none h2))) ∧ (¬ (l5 ≤ l1) → (∀ h4 : XH, h4 = (p_J h (q + 1) 64 l5 (g_J h (q + 1) 64 (l5 - 1))) → (∀ h6 : XH, h6 = (p_I h4 (q + 2) 64 l5 (g_I h4 (q + 2) 64 (l5 - 1))) → b_X0_insert_15 d q l1 l2 l4 (l5 + (-1)) h6 K E)))) : b_X0_insert_15 d q l1 l2 l4 l5 h K E := by
  show Ex d [] tb_X0_insert (15, [some (.ref q), some (.int l1), some (.long l2), none, some (.int l4), some (.int l5)], []) h _
  refine Ex.pure 2 (fr2 := (18, [some (.ref q), some (.int l1), some (.long l2), none, some (.int l4), some (.int l5)], [.int l1, .int l5])) rfl ?_
  refine Ex.br (x := (67, [some (.ref q), some (.int l1), some (.long l2), none, some (.int l4), some (.int l5)], [])) (y := (21, [some (.ref q), some (.int l1), some (.long l2), none, some (.int l4), some (.int l5)], [])) (b := l5 ≤ l1) rfl (fun hb => ?_) (fun hb => ?_)
  · replace H := H.1 (hb)
    refine Ex.pure 1 (fr2 := (68, [some (.ref q), some (.int l1), some (.long l2), none, some (.int l4), some (.int l5)], [.ref q])) rfl ?_
    refine Ex.getQ rfl ho_q.1 rfl ?_
    refine Ex.pure 2 (fr2 := (73, [some (.ref q), some (.int l1), some (.long l2), none, some (.int l4), some (.int l5)], [.long l2, .int l1, .ref (q + 1)])) rfl ?_
    refine Ex.ask (rest := []) (j := m_X3_put_) (as := [.ref (q + 1), .int l1, .long l2]) (fun c => rfl) ((t_X3_put_ (d := 0) ho_q.2.1 (by omega)).mono (by omega) (fun _ _ z => z)) ?_
    rintro _ h1 ⟨rfl, e1⟩
    replace H := H h1 e1
    replace hs : Sg h1.1 y := by rw [e1, p_J_sh]; exact hs
    replace ho_q : Dq h1.1 q := by rw [e1, p_J_sh]; exact ho_q
    show Ex d [] tb_X0_insert (76, [some (.ref q), some (.int l1), some (.long l2), none, some (.int l4), some (.int l5)], []) h1 _
    refine Ex.pure 1 (fr2 := (77, [some (.ref q), some (.int l1), some (.long l2), none, some (.int l4), some (.int l5)], [.ref q])) rfl ?_
    refine Ex.getQ rfl ho_q.1 rfl ?_
    refine Ex.pure 2 (fr2 := (83, [some (.ref q), some (.int l1), some (.long l2), none, some (.int l4), some (.int l5)], [.int l4, .int l1, .ref (q + 2)])) rfl ?_
    refine Ex.ask (rest := []) (j := m_X3_put) (as := [.ref (q + 2), .int l1, .int l4]) (fun c => rfl) ((t_X3_put (d := 0) ho_q.2.2 (by omega)).mono (by omega) (fun _ _ z => z)) ?_
    rintro _ h2 ⟨rfl, e2⟩
    replace H := H h2 e2
    replace hs : Sg h2.1 y := by rw [e2, p_I_sh]; exact hs
    replace ho_q : Dq h2.1 q := by rw [e2, p_I_sh]; exact ho_q
    show Ex d [] tb_X0_insert (86, [some (.ref q), some (.int l1), some (.long l2), none, some (.int l4), some (.int l5)], []) h2 _
    exact Ex.vret rfl H
  · replace H := H.2 (hb)
    refine Ex.pure 1 (fr2 := (22, [some (.ref q), some (.int l1), some (.long l2), none, some (.int l4), some (.int l5)], [.ref q])) rfl ?_
    refine Ex.getQ rfl ho_q.1 rfl ?_
    refine Ex.pure 2 (fr2 := (28, [some (.ref q), some (.int l1), some (.long l2), none, some (.int l4), some (.int l5)], [.ref q, .int l5, .ref (q + 1)])) rfl ?_
    refine Ex.getQ rfl ho_q.1 rfl ?_
    refine Ex.pure 3 (fr2 := (35, [some (.ref q), some (.int l1), some (.long l2), none, some (.int l4), some (.int l5)], [.int (l5 - 1), .ref (q + 1), .int l5, .ref (q + 1)])) rfl ?_
    refine Ex.ask (rest := [.int l5, .ref (q + 1)]) (j := m_X3_at_) (as := [.ref (q + 1), .int (l5 - 1)]) (fun c => rfl) ((t_X3_at_ (d := 0) ho_q.2.1 (by omega)).mono (by omega) (fun _ _ z => z)) ?_
    rintro _ h0 ⟨rfl, e0⟩
    rw [e0]
    show Ex d [] tb_X0_insert (38, [some (.ref q), some (.int l1), some (.long l2), none, some (.int l4), some (.int l5)], [.long (g_J h (q + 1) 64 (l5 - 1)), .int l5, .ref (q + 1)]) h _
    refine Ex.ask (rest := []) (j := m_X3_put_) (as := [.ref (q + 1), .int l5, .long (g_J h (q + 1) 64 (l5 - 1))]) (fun c => rfl) ((t_X3_put_ (d := 0) ho_q.2.1 (by omega)).mono (by omega) (fun _ _ z => z)) ?_
    rintro _ h4 ⟨rfl, e4⟩
    replace H := H h4 e4
    replace hs : Sg h4.1 y := by rw [e4, p_J_sh]; exact hs
    replace ho_q : Dq h4.1 q := by rw [e4, p_J_sh]; exact ho_q
    show Ex d [] tb_X0_insert (41, [some (.ref q), some (.int l1), some (.long l2), none, some (.int l4), some (.int l5)], []) h4 _
    refine Ex.pure 1 (fr2 := (42, [some (.ref q), some (.int l1), some (.long l2), none, some (.int l4), some (.int l5)], [.ref q])) rfl ?_
    refine Ex.getQ rfl ho_q.1 rfl ?_
    refine Ex.pure 2 (fr2 := (48, [some (.ref q), some (.int l1), some (.long l2), none, some (.int l4), some (.int l5)], [.ref q, .int l5, .ref (q + 2)])) rfl ?_
    refine Ex.getQ rfl ho_q.1 rfl ?_
    refine Ex.pure 3 (fr2 := (55, [some (.ref q), some (.int l1), some (.long l2), none, some (.int l4), some (.int l5)], [.int (l5 - 1), .ref (q + 2), .int l5, .ref (q + 2)])) rfl ?_
    refine Ex.ask (rest := [.int l5, .ref (q + 2)]) (j := m_X3_at) (as := [.ref (q + 2), .int (l5 - 1)]) (fun c => rfl) ((t_X3_at (d := 0) ho_q.2.2 (by omega)).mono (by omega) (fun _ _ z => z)) ?_
    rintro _ h0 ⟨rfl, e0⟩
    rw [e0]
    show Ex d [] tb_X0_insert (58, [some (.ref q), some (.int l1), some (.long l2), none, some (.int l4), some (.int l5)], [.int (g_I h4 (q + 2) 64 (l5 - 1)), .int l5, .ref (q + 2)]) h4 _
    refine Ex.ask (rest := []) (j := m_X3_put) (as := [.ref (q + 2), .int l5, .int (g_I h4 (q + 2) 64 (l5 - 1))]) (fun c => rfl) ((t_X3_put (d := 0) ho_q.2.2 (by omega)).mono (by omega) (fun _ _ z => z)) ?_
    rintro _ h6 ⟨rfl, e6⟩
    replace H := H h6 e6
    replace hs : Sg h6.1 y := by rw [e6, p_I_sh]; exact hs
    replace ho_q : Dq h6.1 q := by rw [e6, p_I_sh]; exact ho_q
    show Ex d [] tb_X0_insert (61, [some (.ref q), some (.int l1), some (.long l2), none, some (.int l4), some (.int l5)], []) h6 _
    refine Ex.pure 2 (fr2 := (15, [some (.ref q), some (.int l1), some (.long l2), none, some (.int l4), some (.int (l5 + (-1)))], [])) rfl ?_
    exact H
def b_X2_write_83 (d : Nat) (r_0 : Nat) (r_1 : Nat) (l2 : Int32) (l3 : Int32) (l4 : Int32) (l5 : Int32) (h : XH) (K : XK) (E : XE) : Prop := Ex d [] tb_X2_write (83, [some (.ref r_0), some (.ref r_1), some (.int l2), some (.int l3), some (.int l4), some (.int l5)], []) h (Po K E)
theorem w_X2_write {d : Nat} {h : XH} {y : Nat → Nat} {K : XK} {E : XE} {o : Nat} {b : Int32} (hd : 20 ≤ d) (hs : Sg h.1 y) (ho_o : Dq h.1 o) (H : (Ca d m_X3_withRoom [.ref (y 0), .int ((h.2.1 6 4) + 2)] h (fun rv h3 => ∃ x4, rv = some (.ref x4) ∧ Sg h3.1 y ∧ Dq h3.1 o ∧ (∀ h5 : XH, h5 = (x_setT h3 6 (0, 2, [some (y 0), some (y 1), some (y 2), some (y 3), none, none, some 11, some 14, some 17].set 0 (some x4))) → ∃ y6 : Nat → Nat, Sg h5.1 y6 ∧ (Dq h5.1 o ∧ (Ca d m_X3_withRoom [.ref (y6 1), .int ((h5.2.1 6 4) + 1)] h5 (fun rv h7 => ∃ x8, rv = some (.ref x8) ∧ Sg h7.1 y6 ∧ Dq h7.1 o ∧ (∀ h9 : XH, h9 = (x_setT h7 6 (0, 2, [some (y6 0), some (y6 1), some (y6 2), some (y6 3), none, none, some 11, some 14, some 17].set 1 (some x8))) → ∃ y10 : Nat → Nat, Sg h9.1 y10 ∧ (Dq h9.1 o ∧ (Ca d m_X3_withRoom [.ref (y10 2), .int ((g_I h (y 0) (y 4) (h.2.1 6 4)) + (h.2.1 o 2))] h9 (fun rv h11 => ∃ x12, rv = some (.ref x12) ∧ Sg h11.1 y10 ∧ Dq h11.1 o ∧ (∀ h13 : XH, h13 = (x_setT h11 6 (0, 2, [some (y10 0), some (y10 1), some (y10 2), some (y10 3), none, none, some 11, some 14, some 17].set 2 (some x12))) → ∃ y14 : Nat → Nat, Sg h13.1 y14 ∧ (Dq h13.1 o ∧ (Ca d m_X3_withRoom [.ref (y14 3), .int ((g_I h (y 0) (y 4) (h.2.1 6 4)) + (h.2.1 o 2))] h13 (fun rv h15 => ∃ x16, rv = some (.ref x16) ∧ Sg h15.1 y14 ∧ Dq h15.1 o ∧ (∀ h17 : XH, h17 = (x_setT h15 6 (0, 2, [some (y14 0), some (y14 1), some (y14 2), some (y14 3), none, none, some 11, some 14, some 17].set 3 (some x16))) → ∃ y18 : Nat → Nat, Sg h17.1 y18 ∧ (Dq h17.1 o ∧ b_X2_write_83 d 6 o b (g_I h (y 0) (y 4) (h.2.1 6 4)) ((g_I h (y 0) (y 4) (h.2.1 6 4)) + (h.2.1 o 2)) 0 h17 K E))) E)))) E)))) E)))) E)) : Ca (d + 1) m_X2_write [.ref 6, .ref o, .int b] h K E := by
  refine Ca.of ⟨by show 3 ≤ 6; omega, rfl⟩ ?_
  show Ex d [] tb_X2_write (0, [some (.ref 6), some (.ref o), some (.int b), none, none, none], []) h _
  refine Ex.pure 1 (fr2 := (1, [some (.ref 6), some (.ref o), some (.int b), none, none, none], [.ref 6])) rfl ?_
  refine Ex.getQ rfl (sg_6 hs) rfl ?_
  refine Ex.pure 1 (fr2 := (5, [some (.ref 6), some (.ref o), some (.int b), none, none, none], [.ref 6, .ref (y 0)])) rfl ?_
  refine Ex.getI rfl (Or.inl rfl) (sg_6 hs) ?_
  refine Ex.ask (rest := []) (j := m_X3_at) (as := [.ref (y 0), .int (h.2.1 6 4)]) (fun c => rfl) ((t_X3_at (d := 0) (sg_y0 hs) (sg_l0 hs)).mono (by omega) (fun _ _ z => z)) ?_
  rintro _ h0 ⟨rfl, e0⟩
  rw [e0]
  show Ex d [] tb_X2_write (11, [some (.ref 6), some (.ref o), some (.int b), none, none, none], [.int (g_I h (y 0) (y 4) (h.2.1 6 4))]) h _
  refine Ex.pure 3 (fr2 := (14, [some (.ref 6), some (.ref o), some (.int b), some (.int (g_I h (y 0) (y 4) (h.2.1 6 4))), none, none], [.ref o, .int (g_I h (y 0) (y 4) (h.2.1 6 4))])) rfl ?_
  refine Ex.ask (rest := [.int (g_I h (y 0) (y 4) (h.2.1 6 4))]) (j := m_X0_count) (as := [.ref o]) (vst (a := 1) (b := 1) (c := 0) (rest := [.int (g_I h (y 0) (y 4) (h.2.1 6 4))]) (vs := []) rfl ⟨Nat.le_of_ble_eq_true rfl, Nat.le_of_ble_eq_true rfl⟩ rfl rfl ho_o.1) ((t_X0_count (d := 0) ho_o.1).mono (by omega) (fun _ _ z => z)) ?_
  rintro _ h0 ⟨rfl, e0⟩
  rw [e0]
  show Ex d [] tb_X2_write (17, [some (.ref 6), some (.ref o), some (.int b), some (.int (g_I h (y 0) (y 4) (h.2.1 6 4))), none, none], [.int (h.2.1 o 2), .int (g_I h (y 0) (y 4) (h.2.1 6 4))]) h _
  refine Ex.pure 4 (fr2 := (22, [some (.ref 6), some (.ref o), some (.int b), some (.int (g_I h (y 0) (y 4) (h.2.1 6 4))), some (.int ((g_I h (y 0) (y 4) (h.2.1 6 4)) + (h.2.1 o 2))), none], [.ref 6, .ref 6])) rfl ?_
  refine Ex.getQ rfl (sg_6 hs) rfl ?_
  refine Ex.pure 1 (fr2 := (26, [some (.ref 6), some (.ref o), some (.int b), some (.int (g_I h (y 0) (y 4) (h.2.1 6 4))), some (.int ((g_I h (y 0) (y 4) (h.2.1 6 4)) + (h.2.1 o 2))), none], [.ref 6, .ref (y 0), .ref 6])) rfl ?_
  refine Ex.getI rfl (Or.inl rfl) (sg_6 hs) ?_
  refine Ex.pure 2 (fr2 := (31, [some (.ref 6), some (.ref o), some (.int b), some (.int (g_I h (y 0) (y 4) (h.2.1 6 4))), some (.int ((g_I h (y 0) (y 4) (h.2.1 6 4)) + (h.2.1 o 2))), none], [.int ((h.2.1 6 4) + 2), .ref (y 0), .ref 6])) rfl ?_
  refine Ex.cal (rest := [.ref 6]) (j := m_X3_withRoom) (as := [.ref (y 0), .int ((h.2.1 6 4) + 2)]) (fun c => rfl) (H.imp ?_)
  intro rv h3 H
  obtain ⟨x4, rfl, H⟩ := H
  obtain ⟨hs, H⟩ := H
  obtain ⟨ho_o, H⟩ := H
  show Ex d [] tb_X2_write (34, [some (.ref 6), some (.ref o), some (.int b), some (.int (g_I h (y 0) (y 4) (h.2.1 6 4))), some (.int ((g_I h (y 0) (y 4) (h.2.1 6 4)) + (h.2.1 o 2))), none], [.ref x4, .ref 6]) h3 _
  refine Ex.putQ rfl (sg_6 hs) (by simp) ?_
  obtain ⟨h5, e5⟩ : ∃ z : XH, z = (x_setT h3 6 (0, 2, [some (y 0), some (y 1), some (y 2), some (y 3), none, none, some 11, some 14, some 17].set 0 (some x4))) := ⟨_, rfl⟩
  rw [← e5]
  replace H := H h5 e5
  obtain ⟨y6, hs, H⟩ := H
  obtain ⟨ho_o, H⟩ := H
  refine Ex.pure 2 (fr2 := (39, [some (.ref 6), some (.ref o), some (.int b), some (.int (g_I h (y 0) (y 4) (h.2.1 6 4))), some (.int ((g_I h (y 0) (y 4) (h.2.1 6 4)) + (h.2.1 o 2))), none], [.ref 6, .ref 6])) rfl ?_
  refine Ex.getQ rfl (sg_6 hs) rfl ?_
  refine Ex.pure 1 (fr2 := (43, [some (.ref 6), some (.ref o), some (.int b), some (.int (g_I h (y 0) (y 4) (h.2.1 6 4))), some (.int ((g_I h (y 0) (y 4) (h.2.1 6 4)) + (h.2.1 o 2))), none], [.ref 6, .ref (y6 1), .ref 6])) rfl ?_
  refine Ex.getI rfl (Or.inl rfl) (sg_6 hs) ?_
  refine Ex.pure 2 (fr2 := (48, [some (.ref 6), some (.ref o), some (.int b), some (.int (g_I h (y 0) (y 4) (h.2.1 6 4))), some (.int ((g_I h (y 0) (y 4) (h.2.1 6 4)) + (h.2.1 o 2))), none], [.int ((h5.2.1 6 4) + 1), .ref (y6 1), .ref 6])) rfl ?_
  refine Ex.cal (rest := [.ref 6]) (j := m_X3_withRoom) (as := [.ref (y6 1), .int ((h5.2.1 6 4) + 1)]) (fun c => rfl) (H.imp ?_)
  intro rv h7 H
  obtain ⟨x8, rfl, H⟩ := H
  obtain ⟨hs, H⟩ := H
  obtain ⟨ho_o, H⟩ := H
  show Ex d [] tb_X2_write (51, [some (.ref 6), some (.ref o), some (.int b), some (.int (g_I h (y 0) (y 4) (h.2.1 6 4))), some (.int ((g_I h (y 0) (y 4) (h.2.1 6 4)) + (h.2.1 o 2))), none], [.ref x8, .ref 6]) h7 _
  refine Ex.putQ rfl (sg_6 hs) (by simp) ?_
  obtain ⟨h9, e9⟩ : ∃ z : XH, z = (x_setT h7 6 (0, 2, [some (y6 0), some (y6 1), some (y6 2), some (y6 3), none, none, some 11, some 14, some 17].set 1 (some x8))) := ⟨_, rfl⟩
  rw [← e9]
  replace H := H h9 e9
  obtain ⟨y10, hs, H⟩ := H
  obtain ⟨ho_o, H⟩ := H
  refine Ex.pure 2 (fr2 := (56, [some (.ref 6), some (.ref o), some (.int b), some (.int (g_I h (y 0) (y 4) (h.2.1 6 4))), some (.int ((g_I h (y 0) (y 4) (h.2.1 6 4)) + (h.2.1 o 2))), none], [.ref 6, .ref 6])) rfl ?_
  refine Ex.getQ rfl (sg_6 hs) rfl ?_
  refine Ex.pure 1 (fr2 := (61, [some (.ref 6), some (.ref o), some (.int b), some (.int (g_I h (y 0) (y 4) (h.2.1 6 4))), some (.int ((g_I h (y 0) (y 4) (h.2.1 6 4)) + (h.2.1 o 2))), none], [.int ((g_I h (y 0) (y 4) (h.2.1 6 4)) + (h.2.1 o 2)), .ref (y10 2), .ref 6])) rfl ?_
  refine Ex.cal (rest := [.ref 6]) (j := m_X3_withRoom) (as := [.ref (y10 2), .int ((g_I h (y 0) (y 4) (h.2.1 6 4)) + (h.2.1 o 2))]) (fun c => rfl) (H.imp ?_)
  intro rv h11 H
  obtain ⟨x12, rfl, H⟩ := H
  obtain ⟨hs, H⟩ := H
  obtain ⟨ho_o, H⟩ := H
  show Ex d [] tb_X2_write (64, [some (.ref 6), some (.ref o), some (.int b), some (.int (g_I h (y 0) (y 4) (h.2.1 6 4))), some (.int ((g_I h (y 0) (y 4) (h.2.1 6 4)) + (h.2.1 o 2))), none], [.ref x12, .ref 6]) h11 _
  refine Ex.putQ rfl (sg_6 hs) (by simp) ?_
  obtain ⟨h13, e13⟩ : ∃ z : XH, z = (x_setT h11 6 (0, 2, [some (y10 0), some (y10 1), some (y10 2), some (y10 3), none, none, some 11, some 14, some 17].set 2 (some x12))) := ⟨_, rfl⟩
  rw [← e13]
  replace H := H h13 e13
  obtain ⟨y14, hs, H⟩ := H
  obtain ⟨ho_o, H⟩ := H
  refine Ex.pure 2 (fr2 := (69, [some (.ref 6), some (.ref o), some (.int b), some (.int (g_I h (y 0) (y 4) (h.2.1 6 4))), some (.int ((g_I h (y 0) (y 4) (h.2.1 6 4)) + (h.2.1 o 2))), none], [.ref 6, .ref 6])) rfl ?_
  refine Ex.getQ rfl (sg_6 hs) rfl ?_
  refine Ex.pure 1 (fr2 := (74, [some (.ref 6), some (.ref o), some (.int b), some (.int (g_I h (y 0) (y 4) (h.2.1 6 4))), some (.int ((g_I h (y 0) (y 4) (h.2.1 6 4)) + (h.2.1 o 2))), none], [.int ((g_I h (y 0) (y 4) (h.2.1 6 4)) + (h.2.1 o 2)), .ref (y14 3), .ref 6])) rfl ?_
  refine Ex.cal (rest := [.ref 6]) (j := m_X3_withRoom) (as := [.ref (y14 3), .int ((g_I h (y 0) (y 4) (h.2.1 6 4)) + (h.2.1 o 2))]) (fun c => rfl) (H.imp ?_)
  intro rv h15 H
  obtain ⟨x16, rfl, H⟩ := H
  obtain ⟨hs, H⟩ := H
  obtain ⟨ho_o, H⟩ := H
  show Ex d [] tb_X2_write (77, [some (.ref 6), some (.ref o), some (.int b), some (.int (g_I h (y 0) (y 4) (h.2.1 6 4))), some (.int ((g_I h (y 0) (y 4) (h.2.1 6 4)) + (h.2.1 o 2))), none], [.ref x16, .ref 6]) h15 _
  refine Ex.putQ rfl (sg_6 hs) (by simp) ?_
  obtain ⟨h17, e17⟩ : ∃ z : XH, z = (x_setT h15 6 (0, 2, [some (y14 0), some (y14 1), some (y14 2), some (y14 3), none, none, some 11, some 14, some 17].set 3 (some x16))) := ⟨_, rfl⟩
  rw [← e17]
  replace H := H h17 e17
  obtain ⟨y18, hs, H⟩ := H
  obtain ⟨ho_o, H⟩ := H
  refine Ex.pure 2 (fr2 := (83, [some (.ref 6), some (.ref o), some (.int b), some (.int (g_I h (y 0) (y 4) (h.2.1 6 4))), some (.int ((g_I h (y 0) (y 4) (h.2.1 6 4)) + (h.2.1 o 2))), some (.int 0)], [])) rfl ?_
  exact H
theorem w_X2_write_83 {d : Nat} {h : XH} {y : Nat → Nat} {K : XK} {E : XE} {o : Nat} {l2 : Int32} {l3 : Int32} {l4 : Int32} {l5 : Int32} (hd : 20 ≤ d) (hs : Sg h.1 y) (ho_o : Dq h.1 o) (H : ((h.2.1 o 2) ≤ l5 → (∀ h2 : XH, h2 = (p_I h (y 1) (y 5) (h.2.1 6 4) l2) → (∀ h3 : XH, h3 = (p_I h2 (y 0) (y 4) ((h2.2.1 6 4) + 1) l4) → (∀ h4 : XH, h4 = (x_setI h3 6 4 ((h3.2.1 6 4) + 1)) → K none h4)))) ∧ (¬ ((h.2.1 o 2) ≤ l5) → (∀ h6 : XH, h6 = (p_I h (y 2) (y 6) (l3 + l5) (((g_J h (o + 1) 64 l5) : Int64).toInt32)) → (∀ h8 : XH, h8 = (p_I h6 (y 3) (y 7) (l3 + l5) (g_I h6 (o + 2) 64 l5)) → b_X2_write_83 d 6 o l2 l3 l4 (l5 + 1) h8 K E)))) : b_X2_write_83 d 6 o l2 l3 l4 l5 h K E := by
  show Ex d [] tb_X2_write (83, [some (.ref 6), some (.ref o), some (.int l2), some (.int l3), some (.int l4), some (.int l5)], []) h _
  refine Ex.pure 2 (fr2 := (86, [some (.ref 6), some (.ref o), some (.int l2), some (.int l3), some (.int l4), some (.int l5)], [.ref o, .int l5])) rfl ?_
  refine Ex.ask (rest := [.int l5]) (j := m_X0_count) (as := [.ref o]) (vst (a := 1) (b := 1) (c := 0) (rest := [.int l5]) (vs := []) rfl ⟨Nat.le_of_ble_eq_true rfl, Nat.le_of_ble_eq_true rfl⟩ rfl rfl ho_o.1) ((t_X0_count (d := 0) ho_o.1).mono (by omega) (fun _ _ z => z)) ?_
  rintro _ h0 ⟨rfl, e0⟩
  rw [e0]
  show Ex d [] tb_X2_write (89, [some (.ref 6), some (.ref o), some (.int l2), some (.int l3), some (.int l4), some (.int l5)], [.int (h.2.1 o 2), .int l5]) h _
  refine Ex.br (x := (133, [some (.ref 6), some (.ref o), some (.int l2), some (.int l3), some (.int l4), some (.int l5)], [])) (y := (92, [some (.ref 6), some (.ref o), some (.int l2), some (.int l3), some (.int l4), some (.int l5)], [])) (b := (h.2.1 o 2) ≤ l5) rfl (fun hb => ?_) (fun hb => ?_)
  · replace H := H.1 (hb)
    refine Ex.pure 1 (fr2 := (134, [some (.ref 6), some (.ref o), some (.int l2), some (.int l3), some (.int l4), some (.int l5)], [.ref 6])) rfl ?_
    refine Ex.getQ rfl (sg_6 hs) rfl ?_
    refine Ex.pure 1 (fr2 := (138, [some (.ref 6), some (.ref o), some (.int l2), some (.int l3), some (.int l4), some (.int l5)], [.ref 6, .ref (y 1)])) rfl ?_
    refine Ex.getI rfl (Or.inl rfl) (sg_6 hs) ?_
    refine Ex.pure 1 (fr2 := (142, [some (.ref 6), some (.ref o), some (.int l2), some (.int l3), some (.int l4), some (.int l5)], [.int l2, .int (h.2.1 6 4), .ref (y 1)])) rfl ?_
    refine Ex.ask (rest := []) (j := m_X3_put) (as := [.ref (y 1), .int (h.2.1 6 4), .int l2]) (fun c => rfl) ((t_X3_put (d := 0) (sg_y1 hs) (sg_l1 hs)).mono (by omega) (fun _ _ z => z)) ?_
    rintro _ h2 ⟨rfl, e2⟩
    replace H := H h2 e2
    replace hs : Sg h2.1 y := by rw [e2, p_I_sh]; exact hs
    replace ho_o : Dq h2.1 o := by rw [e2, p_I_sh]; exact ho_o
    show Ex d [] tb_X2_write (145, [some (.ref 6), some (.ref o), some (.int l2), some (.int l3), some (.int l4), some (.int l5)], []) h2 _
    refine Ex.pure 1 (fr2 := (146, [some (.ref 6), some (.ref o), some (.int l2), some (.int l3), some (.int l4), some (.int l5)], [.ref 6])) rfl ?_
    refine Ex.getQ rfl (sg_6 hs) rfl ?_
    refine Ex.pure 1 (fr2 := (150, [some (.ref 6), some (.ref o), some (.int l2), some (.int l3), some (.int l4), some (.int l5)], [.ref 6, .ref (y 0)])) rfl ?_
    refine Ex.getI rfl (Or.inl rfl) (sg_6 hs) ?_
    refine Ex.pure 3 (fr2 := (157, [some (.ref 6), some (.ref o), some (.int l2), some (.int l3), some (.int l4), some (.int l5)], [.int l4, .int ((h2.2.1 6 4) + 1), .ref (y 0)])) rfl ?_
    refine Ex.ask (rest := []) (j := m_X3_put) (as := [.ref (y 0), .int ((h2.2.1 6 4) + 1), .int l4]) (fun c => rfl) ((t_X3_put (d := 0) (sg_y0 hs) (sg_l0 hs)).mono (by omega) (fun _ _ z => z)) ?_
    rintro _ h3 ⟨rfl, e3⟩
    replace H := H h3 e3
    replace hs : Sg h3.1 y := by rw [e3, p_I_sh]; exact hs
    replace ho_o : Dq h3.1 o := by rw [e3, p_I_sh]; exact ho_o
    show Ex d [] tb_X2_write (160, [some (.ref 6), some (.ref o), some (.int l2), some (.int l3), some (.int l4), some (.int l5)], []) h3 _
    refine Ex.pure 2 (fr2 := (162, [some (.ref 6), some (.ref o), some (.int l2), some (.int l3), some (.int l4), some (.int l5)], [.ref 6, .ref 6])) rfl ?_
    refine Ex.getI rfl (Or.inl rfl) (sg_6 hs) ?_
    refine Ex.pure 2 (fr2 := (167, [some (.ref 6), some (.ref o), some (.int l2), some (.int l3), some (.int l4), some (.int l5)], [.int ((h3.2.1 6 4) + 1), .ref 6])) rfl ?_
    refine Ex.putI rfl (sg_6 hs) ?_
    obtain ⟨h4, e4⟩ : ∃ z : XH, z = (x_setI h3 6 4 ((h3.2.1 6 4) + 1)) := ⟨_, rfl⟩
    rw [← e4]
    replace H := H h4 e4
    replace hs : Sg h4.1 y := by rw [e4]; exact hs
    replace ho_o : Dq h4.1 o := by rw [e4]; exact ho_o
    exact Ex.vret rfl H
  · replace H := H.2 (hb)
    refine Ex.pure 1 (fr2 := (93, [some (.ref 6), some (.ref o), some (.int l2), some (.int l3), some (.int l4), some (.int l5)], [.ref 6])) rfl ?_
    refine Ex.getQ rfl (sg_6 hs) rfl ?_
    refine Ex.pure 5 (fr2 := (103, [some (.ref 6), some (.ref o), some (.int l2), some (.int l3), some (.int l4), some (.int l5)], [.int l5, .ref o, .int (l3 + l5), .ref (y 2)])) rfl ?_
    refine Ex.ask (rest := [.int (l3 + l5), .ref (y 2)]) (j := m_X0_timesAt) (as := [.ref o, .int l5]) (vst (a := 2) (b := 2) (c := 0) (rest := [.int (l3 + l5), .ref (y 2)]) (vs := [.int l5]) rfl ⟨Nat.le_of_ble_eq_true rfl, Nat.le_of_ble_eq_true rfl⟩ rfl rfl ho_o.1) ((t_X0_timesAt (d := 0) ho_o.1 rfl ho_o.2.1 (by omega)).mono (by omega) (fun _ _ z => z)) ?_
    rintro _ h0 ⟨rfl, e0⟩
    rw [e0]
    show Ex d [] tb_X2_write (106, [some (.ref 6), some (.ref o), some (.int l2), some (.int l3), some (.int l4), some (.int l5)], [.long (g_J h (o + 1) 64 l5), .int (l3 + l5), .ref (y 2)]) h _
    refine Ex.pure 1 (fr2 := (107, [some (.ref 6), some (.ref o), some (.int l2), some (.int l3), some (.int l4), some (.int l5)], [.int (((g_J h (o + 1) 64 l5) : Int64).toInt32), .int (l3 + l5), .ref (y 2)])) rfl ?_
    refine Ex.ask (rest := []) (j := m_X3_put) (as := [.ref (y 2), .int (l3 + l5), .int (((g_J h (o + 1) 64 l5) : Int64).toInt32)]) (fun c => rfl) ((t_X3_put (d := 0) (sg_y2 hs) (sg_l2 hs)).mono (by omega) (fun _ _ z => z)) ?_
    rintro _ h6 ⟨rfl, e6⟩
    replace H := H h6 e6
    replace hs : Sg h6.1 y := by rw [e6, p_I_sh]; exact hs
    replace ho_o : Dq h6.1 o := by rw [e6, p_I_sh]; exact ho_o
    show Ex d [] tb_X2_write (110, [some (.ref 6), some (.ref o), some (.int l2), some (.int l3), some (.int l4), some (.int l5)], []) h6 _
    refine Ex.pure 1 (fr2 := (111, [some (.ref 6), some (.ref o), some (.int l2), some (.int l3), some (.int l4), some (.int l5)], [.ref 6])) rfl ?_
    refine Ex.getQ rfl (sg_6 hs) rfl ?_
    refine Ex.pure 5 (fr2 := (121, [some (.ref 6), some (.ref o), some (.int l2), some (.int l3), some (.int l4), some (.int l5)], [.int l5, .ref o, .int (l3 + l5), .ref (y 3)])) rfl ?_
    refine Ex.ask (rest := [.int (l3 + l5), .ref (y 3)]) (j := m_X0_exponentAt) (as := [.ref o, .int l5]) (vst (a := 3) (b := 2) (c := 0) (rest := [.int (l3 + l5), .ref (y 3)]) (vs := [.int l5]) rfl ⟨Nat.le_of_ble_eq_true rfl, Nat.le_of_ble_eq_true rfl⟩ rfl rfl ho_o.1) ((t_X0_exponentAt (d := 0) ho_o.1 rfl ho_o.2.2 (by omega)).mono (by omega) (fun _ _ z => z)) ?_
    rintro _ h0 ⟨rfl, e0⟩
    rw [e0]
    show Ex d [] tb_X2_write (124, [some (.ref 6), some (.ref o), some (.int l2), some (.int l3), some (.int l4), some (.int l5)], [.int (g_I h6 (o + 2) 64 l5), .int (l3 + l5), .ref (y 3)]) h6 _
    refine Ex.ask (rest := []) (j := m_X3_put) (as := [.ref (y 3), .int (l3 + l5), .int (g_I h6 (o + 2) 64 l5)]) (fun c => rfl) ((t_X3_put (d := 0) (sg_y3 hs) (sg_l3 hs)).mono (by omega) (fun _ _ z => z)) ?_
    rintro _ h8 ⟨rfl, e8⟩
    replace H := H h8 e8
    replace hs : Sg h8.1 y := by rw [e8, p_I_sh]; exact hs
    replace ho_o : Dq h8.1 o := by rw [e8, p_I_sh]; exact ho_o
    show Ex d [] tb_X2_write (127, [some (.ref 6), some (.ref o), some (.int l2), some (.int l3), some (.int l4), some (.int l5)], []) h8 _
    refine Ex.pure 2 (fr2 := (83, [some (.ref 6), some (.ref o), some (.int l2), some (.int l3), some (.int l4), some (.int (l5 + 1))], [])) rfl ?_
    exact H
theorem w_X2_compared {d : Nat} {h : XH} {y : Nat → Nat} {K : XK} {E : XE} {a : Int32} {b : Int32} (hd : 20 ≤ d) (hs : Sg h.1 y) (H : (Ca d m_X2_order [.ref 6, .int a, .int b, .int 5] h (fun rv h1 => ∃ x2, rv = some (.int x2) ∧ Sg h1.1 y ∧ K (some (.int x2)) h1) E)) : Ca (d + 1) m_X2_compared [.ref 6, .int a, .int b] h K E := by
  refine Ca.of ⟨by show 3 ≤ 3; omega, rfl⟩ ?_
  show Ex d [] tb_X2_compared (0, [some (.ref 6), some (.int a), some (.int b)], []) h _
  refine Ex.pure 4 (fr2 := (4, [some (.ref 6), some (.int a), some (.int b)], [.int 5, .int b, .int a, .ref 6])) rfl ?_
  refine Ex.cal (rest := []) (j := m_X2_order) (as := [.ref 6, .int a, .int b, .int 5]) (vst (a := 34) (b := 4) (c := 2) (rest := []) (vs := [.int a, .int b, .int 5]) rfl ⟨Nat.le_of_ble_eq_true rfl, Nat.le_of_ble_eq_true rfl⟩ rfl rfl (sg_6 hs)) (H.imp ?_)
  intro rv h1 H
  obtain ⟨x2, rfl, H⟩ := H
  obtain ⟨hs, H⟩ := H
  show Ex d [] tb_X2_compared (7, [some (.ref 6), some (.int a), some (.int b)], [.int x2]) h1 _
  exact Ex.iret rfl (Or.inl rfl) H
def b_X2_order_29 (d : Nat) (r_0 : Nat) (l1 : Int32) (l2 : Int32) (l3 : Int32) (l4 : Int32) (l5 : Int32) (u6 : Option Value) (h : XH) (K : XK) (E : XE) : Prop := Ex d [] tb_X2_order (29, [some (.ref r_0), some (.int l1), some (.int l2), some (.int l3), some (.int l4), some (.int l5), u6], []) h (Po K E)
def b_X2_order_83 (d : Nat) (r_0 : Nat) (l1 : Int32) (l2 : Int32) (l3 : Int32) (l4 : Int32) (l5 : Int32) (l6 : Int32) (h : XH) (K : XK) (E : XE) : Prop := Ex d [] tb_X2_order (83, [some (.ref r_0), some (.int l1), some (.int l2), some (.int l3), some (.int l4), some (.int l5), some (.int l6)], []) h (Po K E)
theorem w_X2_order {d : Nat} {h : XH} {y : Nat → Nat} {K : XK} {E : XE} {a : Int32} {b : Int32} {n : Int32} (hd : 20 ≤ d) (hs : Sg h.1 y) (H : (a = b → K (some (.int 0)) h) ∧ (¬ (a = b) → (0 < n → b_X2_order_29 d 6 a b n (mnI (pw h y a) (pw h y b)) 0 none h K E) ∧ (¬ (0 < n) → K (some (.int 0)) h))) : Ca (d + 1) m_X2_order [.ref 6, .int a, .int b, .int n] h K E := by
  refine Ca.of ⟨by show 4 ≤ 7; omega, rfl⟩ ?_
  show Ex d [] tb_X2_order (0, [some (.ref 6), some (.int a), some (.int b), some (.int n), none, none, none], []) h _
  refine Ex.pure 2 (fr2 := (2, [some (.ref 6), some (.int a), some (.int b), some (.int n), none, none, none], [.int b, .int a])) rfl ?_
  refine Ex.br (x := (9, [some (.ref 6), some (.int a), some (.int b), some (.int n), none, none, none], [])) (y := (5, [some (.ref 6), some (.int a), some (.int b), some (.int n), none, none, none], [])) (b := a = b) rfl (fun hb => ?_) (fun hb => ?_)
  · replace H := H.1 (hb)
    refine Ex.pure 1 (fr2 := (10, [some (.ref 6), some (.int a), some (.int b), some (.int n), none, none, none], [.int 0])) rfl ?_
    exact Ex.iret rfl (Or.inl rfl) H
  · replace H := H.2 (hb)
    refine Ex.pure 1 (fr2 := (6, [some (.ref 6), some (.int a), some (.int b), some (.int n), none, none, none], [.int n])) rfl ?_
    refine Ex.br (x := (11, [some (.ref 6), some (.int a), some (.int b), some (.int n), none, none, none], [])) (y := (9, [some (.ref 6), some (.int a), some (.int b), some (.int n), none, none, none], [])) (b := 0 < n) rfl (fun hb => ?_) (fun hb => ?_)
    · replace H := H.1 (hb)
      refine Ex.pure 2 (fr2 := (13, [some (.ref 6), some (.int a), some (.int b), some (.int n), none, none, none], [.int a, .ref 6])) rfl ?_
      refine Ex.ask (rest := []) (j := m_X2_powersOf) (as := [.ref 6, .int a]) (vst (a := 22) (b := 2) (c := 2) (rest := []) (vs := [.int a]) rfl ⟨Nat.le_of_ble_eq_true rfl, Nat.le_of_ble_eq_true rfl⟩ rfl rfl (sg_6 hs)) ((t_X2_powersOf (d := 0) (sg_6 hs) rfl (sg_y0 hs) (sg_l0 hs)).mono (by omega) (fun _ _ z => z)) ?_
      rintro _ h0 ⟨rfl, e0⟩
      rw [e0]
      show Ex d [] tb_X2_order (16, [some (.ref 6), some (.int a), some (.int b), some (.int n), none, none, none], [.int (pw h y a)]) h _
      refine Ex.pure 2 (fr2 := (18, [some (.ref 6), some (.int a), some (.int b), some (.int n), none, none, none], [.int b, .ref 6, .int (pw h y a)])) rfl ?_
      refine Ex.ask (rest := [.int (pw h y a)]) (j := m_X2_powersOf) (as := [.ref 6, .int b]) (vst (a := 22) (b := 2) (c := 2) (rest := [.int (pw h y a)]) (vs := [.int b]) rfl ⟨Nat.le_of_ble_eq_true rfl, Nat.le_of_ble_eq_true rfl⟩ rfl rfl (sg_6 hs)) ((t_X2_powersOf (d := 0) (sg_6 hs) rfl (sg_y0 hs) (sg_l0 hs)).mono (by omega) (fun _ _ z => z)) ?_
      rintro _ h0 ⟨rfl, e0⟩
      rw [e0]
      show Ex d [] tb_X2_order (21, [some (.ref 6), some (.int a), some (.int b), some (.int n), none, none, none], [.int (pw h y b), .int (pw h y a)]) h _
      refine Ex.st (r := some (.inl ((24, [some (.ref 6), some (.int a), some (.int b), some (.int n), none, none, none], [.int (mnI (pw h y a) (pw h y b))]), h))) (fun c => rfl) ?_
      show Ex d [] tb_X2_order (24, [some (.ref 6), some (.int a), some (.int b), some (.int n), none, none, none], [.int (mnI (pw h y a) (pw h y b))]) h _
      refine Ex.pure 3 (fr2 := (29, [some (.ref 6), some (.int a), some (.int b), some (.int n), some (.int (mnI (pw h y a) (pw h y b))), some (.int 0), none], [])) rfl ?_
      exact H
    · replace H := H.2 (hb)
      refine Ex.pure 1 (fr2 := (10, [some (.ref 6), some (.int a), some (.int b), some (.int n), none, none, none], [.int 0])) rfl ?_
      exact Ex.iret rfl (Or.inl rfl) H
theorem w_X2_order_29 {d : Nat} {h : XH} {y : Nat → Nat} {K : XK} {E : XE} {l1 : Int32} {l2 : Int32} {l3 : Int32} {l4 : Int32} {l5 : Int32} {u6 : Option Value} (hd : 20 ≤ d) (hs : Sg h.1 y) (H : (l4 ≤ l5 → K (some (.int (c_I (pw h y l1) (pw h y l2)))) h) ∧ (¬ (l4 ≤ l5) → (Ca d m_X2_order [.ref 6, .int (xp h y l1 l5), .int (xp h y l2 l5), .int (l3 - 1)] h (fun rv h6 => ∃ x7, rv = some (.int x7) ∧ Sg h6.1 y ∧ (¬ x7 = 0 → b_X2_order_83 d 6 l1 l2 l3 l4 l5 x7 h6 K E) ∧ (¬ (¬ x7 = 0) → b_X2_order_83 d 6 l1 l2 l3 l4 l5 (c_I (tm h6 y l1 l5) (tm h6 y l2 l5)) h6 K E)) E))) : b_X2_order_29 d 6 l1 l2 l3 l4 l5 u6 h K E := by
  show Ex d [] tb_X2_order (29, [some (.ref 6), some (.int l1), some (.int l2), some (.int l3), some (.int l4), some (.int l5), u6], []) h _
  refine Ex.pure 2 (fr2 := (33, [some (.ref 6), some (.int l1), some (.int l2), some (.int l3), some (.int l4), some (.int l5), u6], [.int l4, .int l5])) rfl ?_
  refine Ex.br (x := (97, [some (.ref 6), some (.int l1), some (.int l2), some (.int l3), some (.int l4), some (.int l5), u6], [])) (y := (36, [some (.ref 6), some (.int l1), some (.int l2), some (.int l3), some (.int l4), some (.int l5), u6], [])) (b := l4 ≤ l5) rfl (fun hb => ?_) (fun hb => ?_)
  · replace H := H.1 (hb)
    refine Ex.pure 2 (fr2 := (99, [some (.ref 6), some (.int l1), some (.int l2), some (.int l3), some (.int l4), some (.int l5), u6], [.int l1, .ref 6])) rfl ?_
    refine Ex.ask (rest := []) (j := m_X2_powersOf) (as := [.ref 6, .int l1]) (vst (a := 22) (b := 2) (c := 2) (rest := []) (vs := [.int l1]) rfl ⟨Nat.le_of_ble_eq_true rfl, Nat.le_of_ble_eq_true rfl⟩ rfl rfl (sg_6 hs)) ((t_X2_powersOf (d := 0) (sg_6 hs) rfl (sg_y0 hs) (sg_l0 hs)).mono (by omega) (fun _ _ z => z)) ?_
    rintro _ h0 ⟨rfl, e0⟩
    rw [e0]
    show Ex d [] tb_X2_order (102, [some (.ref 6), some (.int l1), some (.int l2), some (.int l3), some (.int l4), some (.int l5), u6], [.int (pw h y l1)]) h _
    refine Ex.pure 2 (fr2 := (104, [some (.ref 6), some (.int l1), some (.int l2), some (.int l3), some (.int l4), some (.int l5), u6], [.int l2, .ref 6, .int (pw h y l1)])) rfl ?_
    refine Ex.ask (rest := [.int (pw h y l1)]) (j := m_X2_powersOf) (as := [.ref 6, .int l2]) (vst (a := 22) (b := 2) (c := 2) (rest := [.int (pw h y l1)]) (vs := [.int l2]) rfl ⟨Nat.le_of_ble_eq_true rfl, Nat.le_of_ble_eq_true rfl⟩ rfl rfl (sg_6 hs)) ((t_X2_powersOf (d := 0) (sg_6 hs) rfl (sg_y0 hs) (sg_l0 hs)).mono (by omega) (fun _ _ z => z)) ?_
    rintro _ h0 ⟨rfl, e0⟩
    rw [e0]
    show Ex d [] tb_X2_order (107, [some (.ref 6), some (.int l1), some (.int l2), some (.int l3), some (.int l4), some (.int l5), u6], [.int (pw h y l2), .int (pw h y l1)]) h _
    refine Ex.ask (rest := []) (j := m_J6_compare_7cf53) (as := [.int (pw h y l1), .int (pw h y l2)]) (fun c => rfl) ((t_J6_compare_7cf53 hs).mono (by omega) (fun _ _ z => z)) ?_
    rintro _ h0 ⟨rfl, e0⟩
    rw [e0]
    show Ex d [] tb_X2_order (110, [some (.ref 6), some (.int l1), some (.int l2), some (.int l3), some (.int l4), some (.int l5), u6], [.int (c_I (pw h y l1) (pw h y l2))]) h _
    exact Ex.iret rfl (Or.inl rfl) H
  · replace H := H.2 (hb)
    refine Ex.pure 4 (fr2 := (41, [some (.ref 6), some (.int l1), some (.int l2), some (.int l3), some (.int l4), some (.int l5), u6], [.int l5, .int l1, .ref 6, .ref 6])) rfl ?_
    refine Ex.ask (rest := [.ref 6]) (j := m_X2_exponentOf) (as := [.ref 6, .int l1, .int l5]) (vst (a := 24) (b := 3) (c := 2) (rest := [.ref 6]) (vs := [.int l1, .int l5]) rfl ⟨Nat.le_of_ble_eq_true rfl, Nat.le_of_ble_eq_true rfl⟩ rfl rfl (sg_6 hs)) ((t_X2_exponentOf (d := 0) (sg_6 hs) rfl rfl (sg_y0 hs) (sg_l0 hs) (sg_y3 hs) (sg_l3 hs)).mono (by omega) (fun _ _ z => z)) ?_
    rintro _ h0 ⟨rfl, e0⟩
    rw [e0]
    show Ex d [] tb_X2_order (44, [some (.ref 6), some (.int l1), some (.int l2), some (.int l3), some (.int l4), some (.int l5), u6], [.int (xp h y l1 l5), .ref 6]) h _
    refine Ex.pure 3 (fr2 := (48, [some (.ref 6), some (.int l1), some (.int l2), some (.int l3), some (.int l4), some (.int l5), u6], [.int l5, .int l2, .ref 6, .int (xp h y l1 l5), .ref 6])) rfl ?_
    refine Ex.ask (rest := [.int (xp h y l1 l5), .ref 6]) (j := m_X2_exponentOf) (as := [.ref 6, .int l2, .int l5]) (vst (a := 24) (b := 3) (c := 2) (rest := [.int (xp h y l1 l5), .ref 6]) (vs := [.int l2, .int l5]) rfl ⟨Nat.le_of_ble_eq_true rfl, Nat.le_of_ble_eq_true rfl⟩ rfl rfl (sg_6 hs)) ((t_X2_exponentOf (d := 0) (sg_6 hs) rfl rfl (sg_y0 hs) (sg_l0 hs) (sg_y3 hs) (sg_l3 hs)).mono (by omega) (fun _ _ z => z)) ?_
    rintro _ h0 ⟨rfl, e0⟩
    rw [e0]
    show Ex d [] tb_X2_order (51, [some (.ref 6), some (.int l1), some (.int l2), some (.int l3), some (.int l4), some (.int l5), u6], [.int (xp h y l2 l5), .int (xp h y l1 l5), .ref 6]) h _
    refine Ex.pure 3 (fr2 := (54, [some (.ref 6), some (.int l1), some (.int l2), some (.int l3), some (.int l4), some (.int l5), u6], [.int (l3 - 1), .int (xp h y l2 l5), .int (xp h y l1 l5), .ref 6])) rfl ?_
    refine Ex.cal (rest := []) (j := m_X2_order) (as := [.ref 6, .int (xp h y l1 l5), .int (xp h y l2 l5), .int (l3 - 1)]) (vst (a := 34) (b := 4) (c := 2) (rest := []) (vs := [.int (xp h y l1 l5), .int (xp h y l2 l5), .int (l3 - 1)]) rfl ⟨Nat.le_of_ble_eq_true rfl, Nat.le_of_ble_eq_true rfl⟩ rfl rfl (sg_6 hs)) (H.imp ?_)
    intro rv h6 H
    obtain ⟨x7, rfl, H⟩ := H
    obtain ⟨hs, H⟩ := H
    show Ex d [] tb_X2_order (57, [some (.ref 6), some (.int l1), some (.int l2), some (.int l3), some (.int l4), some (.int l5), u6], [.int x7]) h6 _
    refine Ex.pure 2 (fr2 := (61, [some (.ref 6), some (.int l1), some (.int l2), some (.int l3), some (.int l4), some (.int l5), some (.int x7)], [.int x7])) rfl ?_
    refine Ex.br (x := (83, [some (.ref 6), some (.int l1), some (.int l2), some (.int l3), some (.int l4), some (.int l5), some (.int x7)], [])) (y := (64, [some (.ref 6), some (.int l1), some (.int l2), some (.int l3), some (.int l4), some (.int l5), some (.int x7)], [])) (b := ¬ x7 = 0) rfl (fun hb => ?_) (fun hb => ?_)
    · replace H := H.1 (hb)
      exact H
    · replace H := H.2 (hb)
      refine Ex.pure 3 (fr2 := (68, [some (.ref 6), some (.int l1), some (.int l2), some (.int l3), some (.int l4), some (.int l5), some (.int x7)], [.int l5, .int l1, .ref 6])) rfl ?_
      refine Ex.ask (rest := []) (j := m_X2_timesOf) (as := [.ref 6, .int l1, .int l5]) (vst (a := 23) (b := 3) (c := 2) (rest := []) (vs := [.int l1, .int l5]) rfl ⟨Nat.le_of_ble_eq_true rfl, Nat.le_of_ble_eq_true rfl⟩ rfl rfl (sg_6 hs)) ((t_X2_timesOf (d := 0) (sg_6 hs) rfl rfl (sg_y0 hs) (sg_l0 hs) (sg_y2 hs) (sg_l2 hs)).mono (by omega) (fun _ _ z => z)) ?_
      rintro _ h0 ⟨rfl, e0⟩
      rw [e0]
      show Ex d [] tb_X2_order (71, [some (.ref 6), some (.int l1), some (.int l2), some (.int l3), some (.int l4), some (.int l5), some (.int x7)], [.int (tm h6 y l1 l5)]) h6 _
      refine Ex.pure 3 (fr2 := (75, [some (.ref 6), some (.int l1), some (.int l2), some (.int l3), some (.int l4), some (.int l5), some (.int x7)], [.int l5, .int l2, .ref 6, .int (tm h6 y l1 l5)])) rfl ?_
      refine Ex.ask (rest := [.int (tm h6 y l1 l5)]) (j := m_X2_timesOf) (as := [.ref 6, .int l2, .int l5]) (vst (a := 23) (b := 3) (c := 2) (rest := [.int (tm h6 y l1 l5)]) (vs := [.int l2, .int l5]) rfl ⟨Nat.le_of_ble_eq_true rfl, Nat.le_of_ble_eq_true rfl⟩ rfl rfl (sg_6 hs)) ((t_X2_timesOf (d := 0) (sg_6 hs) rfl rfl (sg_y0 hs) (sg_l0 hs) (sg_y2 hs) (sg_l2 hs)).mono (by omega) (fun _ _ z => z)) ?_
      rintro _ h0 ⟨rfl, e0⟩
      rw [e0]
      show Ex d [] tb_X2_order (78, [some (.ref 6), some (.int l1), some (.int l2), some (.int l3), some (.int l4), some (.int l5), some (.int x7)], [.int (tm h6 y l2 l5), .int (tm h6 y l1 l5)]) h6 _
      refine Ex.ask (rest := []) (j := m_J6_compare_7cf53) (as := [.int (tm h6 y l1 l5), .int (tm h6 y l2 l5)]) (fun c => rfl) ((t_J6_compare_7cf53 hs).mono (by omega) (fun _ _ z => z)) ?_
      rintro _ h0 ⟨rfl, e0⟩
      rw [e0]
      show Ex d [] tb_X2_order (81, [some (.ref 6), some (.int l1), some (.int l2), some (.int l3), some (.int l4), some (.int l5), some (.int x7)], [.int (c_I (tm h6 y l1 l5) (tm h6 y l2 l5))]) h6 _
      refine Ex.pure 1 (fr2 := (83, [some (.ref 6), some (.int l1), some (.int l2), some (.int l3), some (.int l4), some (.int l5), some (.int (c_I (tm h6 y l1 l5) (tm h6 y l2 l5)))], [])) rfl ?_
      exact H
theorem w_X2_order_83 {d : Nat} {h : XH} {y : Nat → Nat} {K : XK} {E : XE} {l1 : Int32} {l2 : Int32} {l3 : Int32} {l4 : Int32} {l5 : Int32} {l6 : Int32} (hd : 20 ≤ d) (hs : Sg h.1 y) (H : (l6 = 0 → b_X2_order_29 d 6 l1 l2 l3 l4 (l5 + 1) (some (.int l6)) h K E) ∧ (¬ (l6 = 0) → K (some (.int l6)) h)) : b_X2_order_83 d 6 l1 l2 l3 l4 l5 l6 h K E := by
  show Ex d [] tb_X2_order (83, [some (.ref 6), some (.int l1), some (.int l2), some (.int l3), some (.int l4), some (.int l5), some (.int l6)], []) h _
  refine Ex.pure 1 (fr2 := (85, [some (.ref 6), some (.int l1), some (.int l2), some (.int l3), some (.int l4), some (.int l5), some (.int l6)], [.int l6])) rfl ?_
  refine Ex.br (x := (91, [some (.ref 6), some (.int l1), some (.int l2), some (.int l3), some (.int l4), some (.int l5), some (.int l6)], [])) (y := (88, [some (.ref 6), some (.int l1), some (.int l2), some (.int l3), some (.int l4), some (.int l5), some (.int l6)], [])) (b := l6 = 0) rfl (fun hb => ?_) (fun hb => ?_)
  · replace H := H.1 (hb)
    refine Ex.pure 2 (fr2 := (29, [some (.ref 6), some (.int l1), some (.int l2), some (.int l3), some (.int l4), some (.int (l5 + 1)), some (.int l6)], [])) rfl ?_
    exact H
  · replace H := H.2 (hb)
    refine Ex.pure 1 (fr2 := (90, [some (.ref 6), some (.int l1), some (.int l2), some (.int l3), some (.int l4), some (.int l5), some (.int l6)], [.int l6])) rfl ?_
    exact Ex.iret rfl (Or.inl rfl) H
def b_X2_powersAbove_3 (d : Nat) (r_0 : Nat) (l1 : Int32) (u2 : Option Value) (l3 : Int32) (l4 : Int32) (h : XH) (K : XK) (E : XE) : Prop := Ex d [] tb_X2_powersAbove (3, [some (.ref r_0), some (.int l1), u2, some (.int l3), some (.int l4)], []) h (Po K E)
theorem w_X2_powersAbove {d : Nat} {h : XH} {y : Nat → Nat} {K : XK} {E : XE} {a : Int32} {b : Int32} {e : Int32} (hd : 20 ≤ d) (hs : Sg h.1 y) (H : b_X2_powersAbove_3 d 6 a (some (.int b)) e b h K E) : Ca (d + 1) m_X2_powersAbove [.ref 6, .int a, .int b, .int e] h K E := by
  refine Ca.of ⟨by show 4 ≤ 5; omega, rfl⟩ ?_
  show Ex d [] tb_X2_powersAbove (0, [some (.ref 6), some (.int a), some (.int b), some (.int e), none], []) h _
  refine Ex.pure 2 (fr2 := (3, [some (.ref 6), some (.int a), some (.int b), some (.int e), some (.int b)], [])) rfl ?_
  exact H
theorem w_X2_powersAbove_3 {d : Nat} {h : XH} {y : Nat → Nat} {K : XK} {E : XE} {l1 : Int32} {u2 : Option Value} {l3 : Int32} {l4 : Int32} (hd : 20 ≤ d) (hs : Sg h.1 y) (H : ((pw h y l1) ≤ l4 → K (some (.int l4)) h) ∧ (¬ ((pw h y l1) ≤ l4) → (Ca d m_X2_order [.ref 6, .int (xp h y l1 l4), .int l3, .int 5] h (fun rv h3 => ∃ x4, rv = some (.int x4) ∧ Sg h3.1 y ∧ (x4 ≤ 0 → K (some (.int l4)) h3) ∧ (¬ (x4 ≤ 0) → b_X2_powersAbove_3 d 6 l1 (u2) l3 (l4 + 1) h3 K E)) E))) : b_X2_powersAbove_3 d 6 l1 u2 l3 l4 h K E := by
  show Ex d [] tb_X2_powersAbove (3, [some (.ref 6), some (.int l1), u2, some (.int l3), some (.int l4)], []) h _
  refine Ex.pure 3 (fr2 := (7, [some (.ref 6), some (.int l1), u2, some (.int l3), some (.int l4)], [.int l1, .ref 6, .int l4])) rfl ?_
  refine Ex.ask (rest := [.int l4]) (j := m_X2_powersOf) (as := [.ref 6, .int l1]) (vst (a := 22) (b := 2) (c := 2) (rest := [.int l4]) (vs := [.int l1]) rfl ⟨Nat.le_of_ble_eq_true rfl, Nat.le_of_ble_eq_true rfl⟩ rfl rfl (sg_6 hs)) ((t_X2_powersOf (d := 0) (sg_6 hs) rfl (sg_y0 hs) (sg_l0 hs)).mono (by omega) (fun _ _ z => z)) ?_
  rintro _ h0 ⟨rfl, e0⟩
  rw [e0]
  show Ex d [] tb_X2_powersAbove (10, [some (.ref 6), some (.int l1), u2, some (.int l3), some (.int l4)], [.int (pw h y l1), .int l4]) h _
  refine Ex.br (x := (35, [some (.ref 6), some (.int l1), u2, some (.int l3), some (.int l4)], [])) (y := (13, [some (.ref 6), some (.int l1), u2, some (.int l3), some (.int l4)], [])) (b := (pw h y l1) ≤ l4) rfl (fun hb => ?_) (fun hb => ?_)
  · replace H := H.1 (hb)
    refine Ex.pure 1 (fr2 := (37, [some (.ref 6), some (.int l1), u2, some (.int l3), some (.int l4)], [.int l4])) rfl ?_
    exact Ex.iret rfl (Or.inl rfl) H
  · replace H := H.2 (hb)
    refine Ex.pure 4 (fr2 := (18, [some (.ref 6), some (.int l1), u2, some (.int l3), some (.int l4)], [.int l4, .int l1, .ref 6, .ref 6])) rfl ?_
    refine Ex.ask (rest := [.ref 6]) (j := m_X2_exponentOf) (as := [.ref 6, .int l1, .int l4]) (vst (a := 24) (b := 3) (c := 2) (rest := [.ref 6]) (vs := [.int l1, .int l4]) rfl ⟨Nat.le_of_ble_eq_true rfl, Nat.le_of_ble_eq_true rfl⟩ rfl rfl (sg_6 hs)) ((t_X2_exponentOf (d := 0) (sg_6 hs) rfl rfl (sg_y0 hs) (sg_l0 hs) (sg_y3 hs) (sg_l3 hs)).mono (by omega) (fun _ _ z => z)) ?_
    rintro _ h0 ⟨rfl, e0⟩
    rw [e0]
    show Ex d [] tb_X2_powersAbove (21, [some (.ref 6), some (.int l1), u2, some (.int l3), some (.int l4)], [.int (xp h y l1 l4), .ref 6]) h _
    refine Ex.pure 2 (fr2 := (23, [some (.ref 6), some (.int l1), u2, some (.int l3), some (.int l4)], [.int 5, .int l3, .int (xp h y l1 l4), .ref 6])) rfl ?_
    refine Ex.cal (rest := []) (j := m_X2_order) (as := [.ref 6, .int (xp h y l1 l4), .int l3, .int 5]) (vst (a := 34) (b := 4) (c := 2) (rest := []) (vs := [.int (xp h y l1 l4), .int l3, .int 5]) rfl ⟨Nat.le_of_ble_eq_true rfl, Nat.le_of_ble_eq_true rfl⟩ rfl rfl (sg_6 hs)) (H.imp ?_)
    intro rv h3 H
    obtain ⟨x4, rfl, H⟩ := H
    obtain ⟨hs, H⟩ := H
    show Ex d [] tb_X2_powersAbove (26, [some (.ref 6), some (.int l1), u2, some (.int l3), some (.int l4)], [.int x4]) h3 _
    refine Ex.br (x := (35, [some (.ref 6), some (.int l1), u2, some (.int l3), some (.int l4)], [])) (y := (29, [some (.ref 6), some (.int l1), u2, some (.int l3), some (.int l4)], [])) (b := x4 ≤ 0) rfl (fun hb => ?_) (fun hb => ?_)
    · replace H := H.1 (hb)
      refine Ex.pure 1 (fr2 := (37, [some (.ref 6), some (.int l1), u2, some (.int l3), some (.int l4)], [.int l4])) rfl ?_
      exact Ex.iret rfl (Or.inl rfl) H
    · replace H := H.2 (hb)
      refine Ex.pure 2 (fr2 := (3, [some (.ref 6), some (.int l1), u2, some (.int l3), some (.int (l4 + 1))], [])) rfl ?_
      exact H
def b_X2_draftPowers_3 (d : Nat) (r_0 : Nat) (l1 : Int32) (u2 : Option Value) (l3 : Int32) (l4 : Int32) (h : XH) (K : XK) (E : XE) : Prop := Ex d [] tb_X2_draftPowers (3, [some (.ref r_0), some (.int l1), u2, some (.int l3), some (.int l4)], []) h (Po K E)
theorem w_X2_draftPowers {d : Nat} {h : XH} {y : Nat → Nat} {K : XK} {E : XE} {a : Int32} {b : Int32} {e : Int32} (hd : 20 ≤ d) (hs : Sg h.1 y) (H : b_X2_draftPowers_3 d 6 a (some (.int b)) e b h K E) : Ca (d + 1) m_X2_draftPowers [.ref 6, .int a, .int b, .int e] h K E := by
  refine Ca.of ⟨by show 4 ≤ 5; omega, rfl⟩ ?_
  show Ex d [] tb_X2_draftPowers (0, [some (.ref 6), some (.int a), some (.int b), some (.int e), none], []) h _
  refine Ex.pure 2 (fr2 := (3, [some (.ref 6), some (.int a), some (.int b), some (.int e), some (.int b)], [])) rfl ?_
  exact H
theorem w_X2_draftPowers_3 {d : Nat} {h : XH} {y : Nat → Nat} {K : XK} {E : XE} {l1 : Int32} {u2 : Option Value} {l3 : Int32} {l4 : Int32} (hd : 20 ≤ d) (hs : Sg h.1 y) (H : (l3 ≤ l4 → K none h) ∧ (¬ (l3 ≤ l4) → (∀ h3 : XH, h3 = (a_Dr h 11 (11 + 1) (11 + 2) 64 (((tm h y l1 l4) : Int32).toInt64) (xp h y l1 l4)) → b_X2_draftPowers_3 d 6 l1 (u2) l3 (l4 + 1) h3 K E))) : b_X2_draftPowers_3 d 6 l1 u2 l3 l4 h K E := by
  show Ex d [] tb_X2_draftPowers (3, [some (.ref 6), some (.int l1), u2, some (.int l3), some (.int l4)], []) h _
  refine Ex.pure 2 (fr2 := (6, [some (.ref 6), some (.int l1), u2, some (.int l3), some (.int l4)], [.int l3, .int l4])) rfl ?_
  refine Ex.br (x := (37, [some (.ref 6), some (.int l1), u2, some (.int l3), some (.int l4)], [])) (y := (9, [some (.ref 6), some (.int l1), u2, some (.int l3), some (.int l4)], [])) (b := l3 ≤ l4) rfl (fun hb => ?_) (fun hb => ?_)
  · replace H := H.1 (hb)
    exact Ex.vret rfl H
  · replace H := H.2 (hb)
    refine Ex.pure 1 (fr2 := (10, [some (.ref 6), some (.int l1), u2, some (.int l3), some (.int l4)], [.ref 6])) rfl ?_
    refine Ex.getQ rfl (sg_6 hs) rfl ?_
    refine Ex.pure 3 (fr2 := (17, [some (.ref 6), some (.int l1), u2, some (.int l3), some (.int l4)], [.int l4, .int l1, .ref 6, .ref 11])) rfl ?_
    refine Ex.ask (rest := [.ref 11]) (j := m_X2_timesOf) (as := [.ref 6, .int l1, .int l4]) (vst (a := 23) (b := 3) (c := 2) (rest := [.ref 11]) (vs := [.int l1, .int l4]) rfl ⟨Nat.le_of_ble_eq_true rfl, Nat.le_of_ble_eq_true rfl⟩ rfl rfl (sg_6 hs)) ((t_X2_timesOf (d := 0) (sg_6 hs) rfl rfl (sg_y0 hs) (sg_l0 hs) (sg_y2 hs) (sg_l2 hs)).mono (by omega) (fun _ _ z => z)) ?_
    rintro _ h0 ⟨rfl, e0⟩
    rw [e0]
    show Ex d [] tb_X2_draftPowers (20, [some (.ref 6), some (.int l1), u2, some (.int l3), some (.int l4)], [.int (tm h y l1 l4), .ref 11]) h _
    refine Ex.pure 4 (fr2 := (25, [some (.ref 6), some (.int l1), u2, some (.int l3), some (.int l4)], [.int l4, .int l1, .ref 6, .long (((tm h y l1 l4) : Int32).toInt64), .ref 11])) rfl ?_
    refine Ex.ask (rest := [.long (((tm h y l1 l4) : Int32).toInt64), .ref 11]) (j := m_X2_exponentOf) (as := [.ref 6, .int l1, .int l4]) (vst (a := 24) (b := 3) (c := 2) (rest := [.long (((tm h y l1 l4) : Int32).toInt64), .ref 11]) (vs := [.int l1, .int l4]) rfl ⟨Nat.le_of_ble_eq_true rfl, Nat.le_of_ble_eq_true rfl⟩ rfl rfl (sg_6 hs)) ((t_X2_exponentOf (d := 0) (sg_6 hs) rfl rfl (sg_y0 hs) (sg_l0 hs) (sg_y3 hs) (sg_l3 hs)).mono (by omega) (fun _ _ z => z)) ?_
    rintro _ h0 ⟨rfl, e0⟩
    rw [e0]
    show Ex d [] tb_X2_draftPowers (28, [some (.ref 6), some (.int l1), u2, some (.int l3), some (.int l4)], [.int (xp h y l1 l4), .long (((tm h y l1 l4) : Int32).toInt64), .ref 11]) h _
    refine Ex.ask (rest := []) (j := m_X0_add) (as := [.ref 11, .long (((tm h y l1 l4) : Int32).toInt64), .int (xp h y l1 l4)]) (vst (a := 5) (b := 3) (c := 0) (rest := []) (vs := [.long (((tm h y l1 l4) : Int32).toInt64), .int (xp h y l1 l4)]) rfl ⟨Nat.le_of_ble_eq_true rfl, Nat.le_of_ble_eq_true rfl⟩ rfl rfl (sg_11 hs)) ((t_X0_add (d := 0) (sg_D11 hs).1 rfl rfl (sg_D11 hs).2.1 (sg_D11 hs).2.2 (by omega) (by omega)).mono (by omega) (fun _ _ z => z)) ?_
    rintro _ h3 ⟨rfl, e3⟩
    replace H := H h3 e3
    replace hs : Sg h3.1 y := by rw [e3, a_Dr_sh]; exact hs
    show Ex d [] tb_X2_draftPowers (31, [some (.ref 6), some (.int l1), u2, some (.int l3), some (.int l4)], []) h3 _
    refine Ex.pure 2 (fr2 := (3, [some (.ref 6), some (.int l1), u2, some (.int l3), some (.int (l4 + 1))], [])) rfl ?_
    exact H
theorem w_X2_draftLess {d : Nat} {h : XH} {y : Nat → Nat} {K : XK} {E : XE} {a : Int32} {b : Int32} (hd : 20 ≤ d) (hs : Sg h.1 y) (H : (∀ h2 : XH, h2 = (x_setI h 11 2 0) → (Ca d m_X2_draftPowers [.ref 6, .int a, .int 0, .int ((pw h y a) - 1)] h2 (fun rv h3 => rv = none ∧ Sg h3.1 y ∧ ((tm h3 y a ((pw h y a) - 1)) ≤ b → K none h3) ∧ (¬ ((tm h3 y a ((pw h y a) - 1)) ≤ b) → (∀ h8 : XH, h8 = (a_Dr h3 11 (11 + 1) (11 + 2) 64 ((((tm h3 y a ((pw h y a) - 1)) - b) : Int32).toInt64) (xp h3 y a ((pw h y a) - 1))) → K none h8))) E))) : Ca (d + 1) m_X2_draftLess [.ref 6, .int a, .int b] h K E := by
  refine Ca.of ⟨by show 3 ≤ 4; omega, rfl⟩ ?_
  show Ex d [] tb_X2_draftLess (0, [some (.ref 6), some (.int a), some (.int b), none], []) h _
  refine Ex.pure 2 (fr2 := (2, [some (.ref 6), some (.int a), some (.int b), none], [.int a, .ref 6])) rfl ?_
  refine Ex.ask (rest := []) (j := m_X2_powersOf) (as := [.ref 6, .int a]) (vst (a := 22) (b := 2) (c := 2) (rest := []) (vs := [.int a]) rfl ⟨Nat.le_of_ble_eq_true rfl, Nat.le_of_ble_eq_true rfl⟩ rfl rfl (sg_6 hs)) ((t_X2_powersOf (d := 0) (sg_6 hs) rfl (sg_y0 hs) (sg_l0 hs)).mono (by omega) (fun _ _ z => z)) ?_
  rintro _ h0 ⟨rfl, e0⟩
  rw [e0]
  show Ex d [] tb_X2_draftLess (5, [some (.ref 6), some (.int a), some (.int b), none], [.int (pw h y a)]) h _
  refine Ex.pure 4 (fr2 := (9, [some (.ref 6), some (.int a), some (.int b), some (.int ((pw h y a) - 1))], [.ref 6])) rfl ?_
  refine Ex.getQ rfl (sg_6 hs) rfl ?_
  refine Ex.ask (rest := []) (j := m_X0_restart) (as := [.ref 11]) (vst (a := 4) (b := 1) (c := 0) (rest := []) (vs := []) rfl ⟨Nat.le_of_ble_eq_true rfl, Nat.le_of_ble_eq_true rfl⟩ rfl rfl (sg_11 hs)) ((t_X0_restart (d := 0) (sg_11 hs)).mono (by omega) (fun _ _ z => z)) ?_
  rintro _ h2 ⟨rfl, e2⟩
  replace H := H h2 e2
  replace hs : Sg h2.1 y := by rw [e2]; exact hs
  show Ex d [] tb_X2_draftLess (15, [some (.ref 6), some (.int a), some (.int b), some (.int ((pw h y a) - 1))], []) h2 _
  refine Ex.pure 4 (fr2 := (19, [some (.ref 6), some (.int a), some (.int b), some (.int ((pw h y a) - 1))], [.int ((pw h y a) - 1), .int 0, .int a, .ref 6])) rfl ?_
  refine Ex.cal (rest := []) (j := m_X2_draftPowers) (as := [.ref 6, .int a, .int 0, .int ((pw h y a) - 1)]) (vst (a := 42) (b := 4) (c := 2) (rest := []) (vs := [.int a, .int 0, .int ((pw h y a) - 1)]) rfl ⟨Nat.le_of_ble_eq_true rfl, Nat.le_of_ble_eq_true rfl⟩ rfl rfl (sg_6 hs)) (H.imp ?_)
  intro rv h3 H
  obtain ⟨rfl, H⟩ := H
  obtain ⟨hs, H⟩ := H
  show Ex d [] tb_X2_draftLess (22, [some (.ref 6), some (.int a), some (.int b), some (.int ((pw h y a) - 1))], []) h3 _
  refine Ex.pure 3 (fr2 := (25, [some (.ref 6), some (.int a), some (.int b), some (.int ((pw h y a) - 1))], [.int ((pw h y a) - 1), .int a, .ref 6])) rfl ?_
  refine Ex.ask (rest := []) (j := m_X2_timesOf) (as := [.ref 6, .int a, .int ((pw h y a) - 1)]) (vst (a := 23) (b := 3) (c := 2) (rest := []) (vs := [.int a, .int ((pw h y a) - 1)]) rfl ⟨Nat.le_of_ble_eq_true rfl, Nat.le_of_ble_eq_true rfl⟩ rfl rfl (sg_6 hs)) ((t_X2_timesOf (d := 0) (sg_6 hs) rfl rfl (sg_y0 hs) (sg_l0 hs) (sg_y2 hs) (sg_l2 hs)).mono (by omega) (fun _ _ z => z)) ?_
  rintro _ h0 ⟨rfl, e0⟩
  rw [e0]
  show Ex d [] tb_X2_draftLess (28, [some (.ref 6), some (.int a), some (.int b), some (.int ((pw h y a) - 1))], [.int (tm h3 y a ((pw h y a) - 1))]) h3 _
  refine Ex.pure 1 (fr2 := (29, [some (.ref 6), some (.int a), some (.int b), some (.int ((pw h y a) - 1))], [.int b, .int (tm h3 y a ((pw h y a) - 1))])) rfl ?_
  refine Ex.br (x := (54, [some (.ref 6), some (.int a), some (.int b), some (.int ((pw h y a) - 1))], [])) (y := (32, [some (.ref 6), some (.int a), some (.int b), some (.int ((pw h y a) - 1))], [])) (b := (tm h3 y a ((pw h y a) - 1)) ≤ b) rfl (fun hb => ?_) (fun hb => ?_)
  · replace H := H.1 (hb)
    exact Ex.vret rfl H
  · replace H := H.2 (hb)
    refine Ex.pure 1 (fr2 := (33, [some (.ref 6), some (.int a), some (.int b), some (.int ((pw h y a) - 1))], [.ref 6])) rfl ?_
    refine Ex.getQ rfl (sg_6 hs) rfl ?_
    refine Ex.pure 3 (fr2 := (39, [some (.ref 6), some (.int a), some (.int b), some (.int ((pw h y a) - 1))], [.int ((pw h y a) - 1), .int a, .ref 6, .ref 11])) rfl ?_
    refine Ex.ask (rest := [.ref 11]) (j := m_X2_timesOf) (as := [.ref 6, .int a, .int ((pw h y a) - 1)]) (vst (a := 23) (b := 3) (c := 2) (rest := [.ref 11]) (vs := [.int a, .int ((pw h y a) - 1)]) rfl ⟨Nat.le_of_ble_eq_true rfl, Nat.le_of_ble_eq_true rfl⟩ rfl rfl (sg_6 hs)) ((t_X2_timesOf (d := 0) (sg_6 hs) rfl rfl (sg_y0 hs) (sg_l0 hs) (sg_y2 hs) (sg_l2 hs)).mono (by omega) (fun _ _ z => z)) ?_
    rintro _ h0 ⟨rfl, e0⟩
    rw [e0]
    show Ex d [] tb_X2_draftLess (42, [some (.ref 6), some (.int a), some (.int b), some (.int ((pw h y a) - 1))], [.int (tm h3 y a ((pw h y a) - 1)), .ref 11]) h3 _
    refine Ex.pure 6 (fr2 := (48, [some (.ref 6), some (.int a), some (.int b), some (.int ((pw h y a) - 1))], [.int ((pw h y a) - 1), .int a, .ref 6, .long ((((tm h3 y a ((pw h y a) - 1)) - b) : Int32).toInt64), .ref 11])) rfl ?_
    refine Ex.ask (rest := [.long ((((tm h3 y a ((pw h y a) - 1)) - b) : Int32).toInt64), .ref 11]) (j := m_X2_exponentOf) (as := [.ref 6, .int a, .int ((pw h y a) - 1)]) (vst (a := 24) (b := 3) (c := 2) (rest := [.long ((((tm h3 y a ((pw h y a) - 1)) - b) : Int32).toInt64), .ref 11]) (vs := [.int a, .int ((pw h y a) - 1)]) rfl ⟨Nat.le_of_ble_eq_true rfl, Nat.le_of_ble_eq_true rfl⟩ rfl rfl (sg_6 hs)) ((t_X2_exponentOf (d := 0) (sg_6 hs) rfl rfl (sg_y0 hs) (sg_l0 hs) (sg_y3 hs) (sg_l3 hs)).mono (by omega) (fun _ _ z => z)) ?_
    rintro _ h0 ⟨rfl, e0⟩
    rw [e0]
    show Ex d [] tb_X2_draftLess (51, [some (.ref 6), some (.int a), some (.int b), some (.int ((pw h y a) - 1))], [.int (xp h3 y a ((pw h y a) - 1)), .long ((((tm h3 y a ((pw h y a) - 1)) - b) : Int32).toInt64), .ref 11]) h3 _
    refine Ex.ask (rest := []) (j := m_X0_add) (as := [.ref 11, .long ((((tm h3 y a ((pw h y a) - 1)) - b) : Int32).toInt64), .int (xp h3 y a ((pw h y a) - 1))]) (vst (a := 5) (b := 3) (c := 0) (rest := []) (vs := [.long ((((tm h3 y a ((pw h y a) - 1)) - b) : Int32).toInt64), .int (xp h3 y a ((pw h y a) - 1))]) rfl ⟨Nat.le_of_ble_eq_true rfl, Nat.le_of_ble_eq_true rfl⟩ rfl rfl (sg_11 hs)) ((t_X0_add (d := 0) (sg_D11 hs).1 rfl rfl (sg_D11 hs).2.1 (sg_D11 hs).2.2 (by omega) (by omega)).mono (by omega) (fun _ _ z => z)) ?_
    rintro _ h8 ⟨rfl, e8⟩
    replace H := H h8 e8
    replace hs : Sg h8.1 y := by rw [e8, a_Dr_sh]; exact hs
    show Ex d [] tb_X2_draftLess (54, [some (.ref 6), some (.int a), some (.int b), some (.int ((pw h y a) - 1))], []) h8 _
    exact Ex.vret rfl H
theorem w_X2_finiteTail {d : Nat} {h : XH} {y : Nat → Nat} {K : XK} {E : XE} {a : Int32} (hd : 20 ≤ d) (hs : Sg h.1 y) (H : (((pw h y a) - 1) < 0 → K (some (.int 0)) h) ∧ (¬ (((pw h y a) - 1) < 0) → (¬ (xp h y a ((pw h y a) - 1)) = 0 → K (some (.int 0)) h) ∧ (¬ (¬ (xp h y a ((pw h y a) - 1)) = 0) → K (some (.int (tm h y a ((pw h y a) - 1)))) h))) : Ca (d + 1) m_X2_finiteTail [.ref 6, .int a] h K E := by
  refine Ca.of ⟨by show 2 ≤ 3; omega, rfl⟩ ?_
  show Ex d [] tb_X2_finiteTail (0, [some (.ref 6), some (.int a), none], []) h _
  refine Ex.pure 2 (fr2 := (2, [some (.ref 6), some (.int a), none], [.int a, .ref 6])) rfl ?_
  refine Ex.ask (rest := []) (j := m_X2_powersOf) (as := [.ref 6, .int a]) (vst (a := 22) (b := 2) (c := 2) (rest := []) (vs := [.int a]) rfl ⟨Nat.le_of_ble_eq_true rfl, Nat.le_of_ble_eq_true rfl⟩ rfl rfl (sg_6 hs)) ((t_X2_powersOf (d := 0) (sg_6 hs) rfl (sg_y0 hs) (sg_l0 hs)).mono (by omega) (fun _ _ z => z)) ?_
  rintro _ h0 ⟨rfl, e0⟩
  rw [e0]
  show Ex d [] tb_X2_finiteTail (5, [some (.ref 6), some (.int a), none], [.int (pw h y a)]) h _
  refine Ex.pure 4 (fr2 := (9, [some (.ref 6), some (.int a), some (.int ((pw h y a) - 1))], [.int ((pw h y a) - 1)])) rfl ?_
  refine Ex.br (x := (30, [some (.ref 6), some (.int a), some (.int ((pw h y a) - 1))], [])) (y := (12, [some (.ref 6), some (.int a), some (.int ((pw h y a) - 1))], [])) (b := ((pw h y a) - 1) < 0) rfl (fun hb => ?_) (fun hb => ?_)
  · replace H := H.1 (hb)
    refine Ex.pure 1 (fr2 := (31, [some (.ref 6), some (.int a), some (.int ((pw h y a) - 1))], [.int 0])) rfl ?_
    exact Ex.iret rfl (Or.inl rfl) H
  · replace H := H.2 (hb)
    refine Ex.pure 3 (fr2 := (15, [some (.ref 6), some (.int a), some (.int ((pw h y a) - 1))], [.int ((pw h y a) - 1), .int a, .ref 6])) rfl ?_
    refine Ex.ask (rest := []) (j := m_X2_exponentOf) (as := [.ref 6, .int a, .int ((pw h y a) - 1)]) (vst (a := 24) (b := 3) (c := 2) (rest := []) (vs := [.int a, .int ((pw h y a) - 1)]) rfl ⟨Nat.le_of_ble_eq_true rfl, Nat.le_of_ble_eq_true rfl⟩ rfl rfl (sg_6 hs)) ((t_X2_exponentOf (d := 0) (sg_6 hs) rfl rfl (sg_y0 hs) (sg_l0 hs) (sg_y3 hs) (sg_l3 hs)).mono (by omega) (fun _ _ z => z)) ?_
    rintro _ h0 ⟨rfl, e0⟩
    rw [e0]
    show Ex d [] tb_X2_finiteTail (18, [some (.ref 6), some (.int a), some (.int ((pw h y a) - 1))], [.int (xp h y a ((pw h y a) - 1))]) h _
    refine Ex.br (x := (30, [some (.ref 6), some (.int a), some (.int ((pw h y a) - 1))], [])) (y := (21, [some (.ref 6), some (.int a), some (.int ((pw h y a) - 1))], [])) (b := ¬ (xp h y a ((pw h y a) - 1)) = 0) rfl (fun hb => ?_) (fun hb => ?_)
    · replace H := H.1 (hb)
      refine Ex.pure 1 (fr2 := (31, [some (.ref 6), some (.int a), some (.int ((pw h y a) - 1))], [.int 0])) rfl ?_
      exact Ex.iret rfl (Or.inl rfl) H
    · replace H := H.2 (hb)
      refine Ex.pure 3 (fr2 := (24, [some (.ref 6), some (.int a), some (.int ((pw h y a) - 1))], [.int ((pw h y a) - 1), .int a, .ref 6])) rfl ?_
      refine Ex.ask (rest := []) (j := m_X2_timesOf) (as := [.ref 6, .int a, .int ((pw h y a) - 1)]) (vst (a := 23) (b := 3) (c := 2) (rest := []) (vs := [.int a, .int ((pw h y a) - 1)]) rfl ⟨Nat.le_of_ble_eq_true rfl, Nat.le_of_ble_eq_true rfl⟩ rfl rfl (sg_6 hs)) ((t_X2_timesOf (d := 0) (sg_6 hs) rfl rfl (sg_y0 hs) (sg_l0 hs) (sg_y2 hs) (sg_l2 hs)).mono (by omega) (fun _ _ z => z)) ?_
      rintro _ h0 ⟨rfl, e0⟩
      rw [e0]
      show Ex d [] tb_X2_finiteTail (27, [some (.ref 6), some (.int a), some (.int ((pw h y a) - 1))], [.int (tm h y a ((pw h y a) - 1))]) h _
      refine Ex.pure 1 (fr2 := (31, [some (.ref 6), some (.int a), some (.int ((pw h y a) - 1))], [.int (tm h y a ((pw h y a) - 1))])) rfl ?_
      exact Ex.iret rfl (Or.inl rfl) H
def b_X2_depthOf_4 (d : Nat) (r_0 : Nat) (r_1 : Nat) (l2 : Int32) (l3 : Int32) (h : XH) (K : XK) (E : XE) : Prop := Ex d [] tb_X2_depthOf (4, [some (.ref r_0), some (.ref r_1), some (.int l2), some (.int l3)], []) h (Po K E)
theorem w_X2_depthOf {d : Nat} {h : XH} {y : Nat → Nat} {K : XK} {E : XE} {o : Nat} (hd : 20 ≤ d) (hs : Sg h.1 y) (ho_o : Dq h.1 o) (H : b_X2_depthOf_4 d 6 o 0 0 h K E) : Ca (d + 1) m_X2_depthOf [.ref 6, .ref o] h K E := by
  refine Ca.of ⟨by show 2 ≤ 4; omega, rfl⟩ ?_
  show Ex d [] tb_X2_depthOf (0, [some (.ref 6), some (.ref o), none, none], []) h _
  refine Ex.pure 4 (fr2 := (4, [some (.ref 6), some (.ref o), some (.int 0), some (.int 0)], [])) rfl ?_
  exact H
theorem w_X2_depthOf_4 {d : Nat} {h : XH} {y : Nat → Nat} {K : XK} {E : XE} {o : Nat} {l2 : Int32} {l3 : Int32} (hd : 20 ≤ d) (hs : Sg h.1 y) (ho_o : Dq h.1 o) (H : ((h.2.1 o 2) ≤ l3 → K (some (.int (l2 + 1))) h) ∧ (¬ ((h.2.1 o 2) ≤ l3) → b_X2_depthOf_4 d 6 o (mxI l2 (g_I h (y 1) (y 5) (g_I h (o + 2) 64 l3))) (l3 + 1) h K E)) : b_X2_depthOf_4 d 6 o l2 l3 h K E := by
  show Ex d [] tb_X2_depthOf (4, [some (.ref 6), some (.ref o), some (.int l2), some (.int l3)], []) h _
  refine Ex.pure 2 (fr2 := (6, [some (.ref 6), some (.ref o), some (.int l2), some (.int l3)], [.ref o, .int l3])) rfl ?_
  refine Ex.ask (rest := [.int l3]) (j := m_X0_count) (as := [.ref o]) (vst (a := 1) (b := 1) (c := 0) (rest := [.int l3]) (vs := []) rfl ⟨Nat.le_of_ble_eq_true rfl, Nat.le_of_ble_eq_true rfl⟩ rfl rfl ho_o.1) ((t_X0_count (d := 0) ho_o.1).mono (by omega) (fun _ _ z => z)) ?_
  rintro _ h0 ⟨rfl, e0⟩
  rw [e0]
  show Ex d [] tb_X2_depthOf (9, [some (.ref 6), some (.ref o), some (.int l2), some (.int l3)], [.int (h.2.1 o 2), .int l3]) h _
  refine Ex.br (x := (35, [some (.ref 6), some (.ref o), some (.int l2), some (.int l3)], [])) (y := (12, [some (.ref 6), some (.ref o), some (.int l2), some (.int l3)], [])) (b := (h.2.1 o 2) ≤ l3) rfl (fun hb => ?_) (fun hb => ?_)
  · replace H := H.1 (hb)
    refine Ex.pure 3 (fr2 := (38, [some (.ref 6), some (.ref o), some (.int l2), some (.int l3)], [.int (l2 + 1)])) rfl ?_
    exact Ex.iret rfl (Or.inl rfl) H
  · replace H := H.2 (hb)
    refine Ex.pure 2 (fr2 := (14, [some (.ref 6), some (.ref o), some (.int l2), some (.int l3)], [.ref 6, .int l2])) rfl ?_
    refine Ex.getQ rfl (sg_6 hs) rfl ?_
    refine Ex.pure 2 (fr2 := (19, [some (.ref 6), some (.ref o), some (.int l2), some (.int l3)], [.int l3, .ref o, .ref (y 1), .int l2])) rfl ?_
    refine Ex.ask (rest := [.ref (y 1), .int l2]) (j := m_X0_exponentAt) (as := [.ref o, .int l3]) (vst (a := 3) (b := 2) (c := 0) (rest := [.ref (y 1), .int l2]) (vs := [.int l3]) rfl ⟨Nat.le_of_ble_eq_true rfl, Nat.le_of_ble_eq_true rfl⟩ rfl rfl ho_o.1) ((t_X0_exponentAt (d := 0) ho_o.1 rfl ho_o.2.2 (by omega)).mono (by omega) (fun _ _ z => z)) ?_
    rintro _ h0 ⟨rfl, e0⟩
    rw [e0]
    show Ex d [] tb_X2_depthOf (22, [some (.ref 6), some (.ref o), some (.int l2), some (.int l3)], [.int (g_I h (o + 2) 64 l3), .ref (y 1), .int l2]) h _
    refine Ex.ask (rest := [.int l2]) (j := m_X3_at) (as := [.ref (y 1), .int (g_I h (o + 2) 64 l3)]) (fun c => rfl) ((t_X3_at (d := 0) (sg_y1 hs) (sg_l1 hs)).mono (by omega) (fun _ _ z => z)) ?_
    rintro _ h0 ⟨rfl, e0⟩
    rw [e0]
    show Ex d [] tb_X2_depthOf (25, [some (.ref 6), some (.ref o), some (.int l2), some (.int l3)], [.int (g_I h (y 1) (y 5) (g_I h (o + 2) 64 l3)), .int l2]) h _
    refine Ex.st (r := some (.inl ((28, [some (.ref 6), some (.ref o), some (.int l2), some (.int l3)], [.int (mxI l2 (g_I h (y 1) (y 5) (g_I h (o + 2) 64 l3)))]), h))) (fun c => rfl) ?_
    show Ex d [] tb_X2_depthOf (28, [some (.ref 6), some (.ref o), some (.int l2), some (.int l3)], [.int (mxI l2 (g_I h (y 1) (y 5) (g_I h (o + 2) 64 l3)))]) h _
    refine Ex.pure 3 (fr2 := (4, [some (.ref 6), some (.ref o), some (.int (mxI l2 (g_I h (y 1) (y 5) (g_I h (o + 2) 64 l3)))), some (.int (l3 + 1))], [])) rfl ?_
    exact H
def b_X2_powersFit_14 (d : Nat) (r_0 : Nat) (u1 : Option Value) (u2 : Option Value) (s0 : Int32) (h : XH) (K : XK) (E : XE) : Prop := Ex d [] tb_X2_powersFit (14, [some (.ref r_0), u1, u2], [.int s0]) h (Po K E)
def b_X2_powersFit_17 (d : Nat) (r_0 : Nat) (l1 : Int32) (l2 : Int32) (h : XH) (K : XK) (E : XE) : Prop := Ex d [] tb_X2_powersFit (17, [some (.ref r_0), some (.int l1), some (.int l2)], []) h (Po K E)
def b_X2_powersFit_45 (d : Nat) (r_0 : Nat) (u1 : Option Value) (l2 : Int32) (h : XH) (K : XK) (E : XE) : Prop := Ex d [] tb_X2_powersFit (45, [some (.ref r_0), u1, some (.int l2)], []) h (Po K E)
def b_X2_powersFit_46 (d : Nat) (r_0 : Nat) (u1 : Option Value) (l2 : Int32) (s0 : Int32) (h : XH) (K : XK) (E : XE) : Prop := Ex d [] tb_X2_powersFit (46, [some (.ref r_0), u1, some (.int l2)], [.int s0]) h (Po K E)
theorem w_X2_powersFit {d : Nat} {h : XH} {y : Nat → Nat} {K : XK} {E : XE} {o : Nat} (hd : 20 ≤ d) (hs : Sg h.1 y) (ho_o : Dq h.1 o) (H : (8 < (h.2.1 o 2) → b_X2_powersFit_14 d o none none 0 h K E) ∧ (¬ (8 < (h.2.1 o 2)) → b_X2_powersFit_14 d o none none 1 h K E)) : Ca (d + 1) m_X2_powersFit [.ref o] h K E := by
  refine Ca.of ⟨by show 1 ≤ 3; omega, rfl⟩ ?_
  show Ex d [] tb_X2_powersFit (0, [some (.ref o), none, none], []) h _
  refine Ex.pure 1 (fr2 := (1, [some (.ref o), none, none], [.ref o])) rfl ?_
  refine Ex.ask (rest := []) (j := m_X0_count) (as := [.ref o]) (vst (a := 1) (b := 1) (c := 0) (rest := []) (vs := []) rfl ⟨Nat.le_of_ble_eq_true rfl, Nat.le_of_ble_eq_true rfl⟩ rfl rfl ho_o.1) ((t_X0_count (d := 0) ho_o.1).mono (by omega) (fun _ _ z => z)) ?_
  rintro _ h0 ⟨rfl, e0⟩
  rw [e0]
  show Ex d [] tb_X2_powersFit (4, [some (.ref o), none, none], [.int (h.2.1 o 2)]) h _
  refine Ex.pure 1 (fr2 := (6, [some (.ref o), none, none], [.int 8, .int (h.2.1 o 2)])) rfl ?_
  refine Ex.br (x := (13, [some (.ref o), none, none], [])) (y := (9, [some (.ref o), none, none], [])) (b := 8 < (h.2.1 o 2)) rfl (fun hb => ?_) (fun hb => ?_)
  · replace H := H.1 (hb)
    refine Ex.pure 1 (fr2 := (14, [some (.ref o), none, none], [.int 0])) rfl ?_
    exact H
  · replace H := H.2 (hb)
    refine Ex.pure 2 (fr2 := (14, [some (.ref o), none, none], [.int 1])) rfl ?_
    exact H
theorem w_X2_powersFit_14 {d : Nat} {h : XH} {y : Nat → Nat} {K : XK} {E : XE} {o : Nat} {u1 : Option Value} {u2 : Option Value} {s0 : Int32} (hd : 20 ≤ d) (hs : Sg h.1 y) (ho_o : Dq h.1 o) (H : b_X2_powersFit_17 d o s0 0 h K E) : b_X2_powersFit_14 d o u1 u2 s0 h K E := by
  show Ex d [] tb_X2_powersFit (14, [some (.ref o), u1, u2], [.int s0]) h _
  refine Ex.pure 3 (fr2 := (17, [some (.ref o), some (.int s0), some (.int 0)], [])) rfl ?_
  exact H
theorem w_X2_powersFit_17 {d : Nat} {h : XH} {y : Nat → Nat} {K : XK} {E : XE} {o : Nat} {l1 : Int32} {l2 : Int32} (hd : 20 ≤ d) (hs : Sg h.1 y) (ho_o : Dq h.1 o) (H : ((h.2.1 o 2) ≤ l2 → (l1 = 0 ∨ l1 = 1) ∧ K (some (.int l1)) h) ∧ (¬ ((h.2.1 o 2) ≤ l2) → (l1 = 0 → b_X2_powersFit_45 d o (some (.int l1)) l2 h K E) ∧ (¬ (l1 = 0) → (1000000 < (g_J h (o + 1) 64 l2) → b_X2_powersFit_45 d o (some (.int l1)) l2 h K E) ∧ (¬ (1000000 < (g_J h (o + 1) 64 l2)) → b_X2_powersFit_46 d o (some (.int l1)) l2 1 h K E)))) : b_X2_powersFit_17 d o l1 l2 h K E := by
  show Ex d [] tb_X2_powersFit (17, [some (.ref o), some (.int l1), some (.int l2)], []) h _
  refine Ex.pure 2 (fr2 := (19, [some (.ref o), some (.int l1), some (.int l2)], [.ref o, .int l2])) rfl ?_
  refine Ex.ask (rest := [.int l2]) (j := m_X0_count) (as := [.ref o]) (vst (a := 1) (b := 1) (c := 0) (rest := [.int l2]) (vs := []) rfl ⟨Nat.le_of_ble_eq_true rfl, Nat.le_of_ble_eq_true rfl⟩ rfl rfl ho_o.1) ((t_X0_count (d := 0) ho_o.1).mono (by omega) (fun _ _ z => z)) ?_
  rintro _ h0 ⟨rfl, e0⟩
  rw [e0]
  show Ex d [] tb_X2_powersFit (22, [some (.ref o), some (.int l1), some (.int l2)], [.int (h.2.1 o 2), .int l2]) h _
  refine Ex.br (x := (53, [some (.ref o), some (.int l1), some (.int l2)], [])) (y := (25, [some (.ref o), some (.int l1), some (.int l2)], [])) (b := (h.2.1 o 2) ≤ l2) rfl (fun hb => ?_) (fun hb => ?_)
  · replace H := H.1 (hb)
    refine Ex.pure 1 (fr2 := (54, [some (.ref o), some (.int l1), some (.int l2)], [.int l1])) rfl ?_
    exact Ex.iret rfl (Or.inr ⟨rfl, H.1⟩) H.2
  · replace H := H.2 (hb)
    refine Ex.pure 1 (fr2 := (26, [some (.ref o), some (.int l1), some (.int l2)], [.int l1])) rfl ?_
    refine Ex.br (x := (45, [some (.ref o), some (.int l1), some (.int l2)], [])) (y := (29, [some (.ref o), some (.int l1), some (.int l2)], [])) (b := l1 = 0) rfl (fun hb => ?_) (fun hb => ?_)
    · replace H := H.1 (hb)
      exact H
    · replace H := H.2 (hb)
      refine Ex.pure 2 (fr2 := (31, [some (.ref o), some (.int l1), some (.int l2)], [.int l2, .ref o])) rfl ?_
      refine Ex.ask (rest := []) (j := m_X0_timesAt) (as := [.ref o, .int l2]) (vst (a := 2) (b := 2) (c := 0) (rest := []) (vs := [.int l2]) rfl ⟨Nat.le_of_ble_eq_true rfl, Nat.le_of_ble_eq_true rfl⟩ rfl rfl ho_o.1) ((t_X0_timesAt (d := 0) ho_o.1 rfl ho_o.2.1 (by omega)).mono (by omega) (fun _ _ z => z)) ?_
      rintro _ h0 ⟨rfl, e0⟩
      rw [e0]
      show Ex d [] tb_X2_powersFit (34, [some (.ref o), some (.int l1), some (.int l2)], [.long (g_J h (o + 1) 64 l2)]) h _
      refine Ex.pure 2 (fr2 := (38, [some (.ref o), some (.int l1), some (.int l2)], [.int (lg_cmp (g_J h (o + 1) 64 l2) 1000000)])) rfl ?_
      refine Ex.br (x := (45, [some (.ref o), some (.int l1), some (.int l2)], [])) (y := (41, [some (.ref o), some (.int l1), some (.int l2)], [])) (b := 0 < (lg_cmp (g_J h (o + 1) 64 l2) 1000000)) rfl (fun hb => ?_) (fun hb => ?_)
      · replace H := H.1 ((lg_cmp_gt _ _).mp hb)
        exact H
      · replace H := H.2 (fun z => hb ((lg_cmp_gt _ _).mpr z))
        refine Ex.pure 2 (fr2 := (46, [some (.ref o), some (.int l1), some (.int l2)], [.int 1])) rfl ?_
        exact H
theorem w_X2_powersFit_45 {d : Nat} {h : XH} {y : Nat → Nat} {K : XK} {E : XE} {o : Nat} {u1 : Option Value} {l2 : Int32} (hd : 20 ≤ d) (hs : Sg h.1 y) (ho_o : Dq h.1 o) (H : b_X2_powersFit_46 d o (u1) l2 0 h K E) : b_X2_powersFit_45 d o u1 l2 h K E := by
  show Ex d [] tb_X2_powersFit (45, [some (.ref o), u1, some (.int l2)], []) h _
  refine Ex.pure 1 (fr2 := (46, [some (.ref o), u1, some (.int l2)], [.int 0])) rfl ?_
  exact H
theorem w_X2_powersFit_46 {d : Nat} {h : XH} {y : Nat → Nat} {K : XK} {E : XE} {o : Nat} {u1 : Option Value} {l2 : Int32} {s0 : Int32} (hd : 20 ≤ d) (hs : Sg h.1 y) (ho_o : Dq h.1 o) (H : b_X2_powersFit_17 d o s0 (l2 + 1) h K E) : b_X2_powersFit_46 d o u1 l2 s0 h K E := by
  show Ex d [] tb_X2_powersFit (46, [some (.ref o), u1, some (.int l2)], [.int s0]) h _
  refine Ex.pure 3 (fr2 := (17, [some (.ref o), some (.int s0), some (.int (l2 + 1))], [])) rfl ?_
  exact H
def b_X2_made_37 (d : Nat) (r_0 : Nat) (u1 : Option Value) (u2 : Option Value) (h : XH) (K : XK) (E : XE) : Prop := Ex d [] tb_X2_made (37, [some (.ref r_0), u1, u2], []) h (Po K E)
theorem w_X2_made {d : Nat} {h : XH} {y : Nat → Nat} {K : XK} {E : XE} {o : Nat} (hd : 20 ≤ d) (hs : Sg h.1 y) (ho_o : Dq h.1 o) (H : (¬ (h.2.1 o 2) = 0 → (Ca d m_X2_depthOf [.ref 6, .ref o] h (fun rv h2 => ∃ x3, rv = some (.int x3) ∧ Sg h2.1 y ∧ Dq h2.1 o ∧ (5 < x3 → b_X2_made_37 d 6 (some (.ref o)) (some (.int x3)) h2 K E) ∧ (¬ (5 < x3) → (Ca d m_X2_powersFit [.ref o] h2 (fun rv h4 => ∃ x5, rv = some (.int x5) ∧ Sg h4.1 y ∧ Dq h4.1 o ∧ (x5 = 0 → b_X2_made_37 d 6 (some (.ref o)) (some (.int x3)) h4 K E) ∧ (¬ (x5 = 0) → ((h4.2.1 6 4) < 16384 → (Ca d m_X2_write [.ref 6, .ref o, .int x3] h4 (fun rv h6 => rv = none ∧ ∃ y8 : Nat → Nat, Sg h6.1 y8 ∧ Dq h6.1 o ∧ K (some (.int ((h6.2.1 6 4) - 1))) h6) E)) ∧ (¬ ((h4.2.1 6 4) < 16384) → b_X2_made_37 d 6 (some (.ref o)) (some (.int x3)) h4 K E))) E))) E)) ∧ (¬ (¬ (h.2.1 o 2) = 0) → K (some (.int 0)) h)) : Ca (d + 1) m_X2_made [.ref 6, .ref o] h K E := by
  refine Ca.of ⟨by show 2 ≤ 3; omega, rfl⟩ ?_
  show Ex d [] tb_X2_made (0, [some (.ref 6), some (.ref o), none], []) h _
  refine Ex.pure 1 (fr2 := (1, [some (.ref 6), some (.ref o), none], [.ref o])) rfl ?_
  refine Ex.ask (rest := []) (j := m_X0_count) (as := [.ref o]) (vst (a := 1) (b := 1) (c := 0) (rest := []) (vs := []) rfl ⟨Nat.le_of_ble_eq_true rfl, Nat.le_of_ble_eq_true rfl⟩ rfl rfl ho_o.1) ((t_X0_count (d := 0) ho_o.1).mono (by omega) (fun _ _ z => z)) ?_
  rintro _ h0 ⟨rfl, e0⟩
  rw [e0]
  show Ex d [] tb_X2_made (4, [some (.ref 6), some (.ref o), none], [.int (h.2.1 o 2)]) h _
  refine Ex.br (x := (9, [some (.ref 6), some (.ref o), none], [])) (y := (7, [some (.ref 6), some (.ref o), none], [])) (b := ¬ (h.2.1 o 2) = 0) rfl (fun hb => ?_) (fun hb => ?_)
  · replace H := H.1 (hb)
    refine Ex.pure 2 (fr2 := (11, [some (.ref 6), some (.ref o), none], [.ref o, .ref 6])) rfl ?_
    refine Ex.cal (rest := []) (j := m_X2_depthOf) (as := [.ref 6, .ref o]) (vst (a := 44) (b := 2) (c := 2) (rest := []) (vs := [.ref o]) rfl ⟨Nat.le_of_ble_eq_true rfl, Nat.le_of_ble_eq_true rfl⟩ rfl rfl (sg_6 hs)) (H.imp ?_)
    intro rv h2 H
    obtain ⟨x3, rfl, H⟩ := H
    obtain ⟨hs, H⟩ := H
    obtain ⟨ho_o, H⟩ := H
    show Ex d [] tb_X2_made (14, [some (.ref 6), some (.ref o), none], [.int x3]) h2 _
    refine Ex.pure 3 (fr2 := (17, [some (.ref 6), some (.ref o), some (.int x3)], [.int 5, .int x3])) rfl ?_
    refine Ex.br (x := (37, [some (.ref 6), some (.ref o), some (.int x3)], [])) (y := (20, [some (.ref 6), some (.ref o), some (.int x3)], [])) (b := 5 < x3) rfl (fun hb => ?_) (fun hb => ?_)
    · replace H := H.1 (hb)
      exact H
    · replace H := H.2 (hb)
      refine Ex.pure 1 (fr2 := (21, [some (.ref 6), some (.ref o), some (.int x3)], [.ref o])) rfl ?_
      refine Ex.cal (rest := []) (j := m_X2_powersFit) (as := [.ref o]) (fun c => rfl) (H.imp ?_)
      intro rv h4 H
      obtain ⟨x5, rfl, H⟩ := H
      obtain ⟨hs, H⟩ := H
      obtain ⟨ho_o, H⟩ := H
      show Ex d [] tb_X2_made (24, [some (.ref 6), some (.ref o), some (.int x3)], [.int x5]) h4 _
      refine Ex.br (x := (37, [some (.ref 6), some (.ref o), some (.int x3)], [])) (y := (27, [some (.ref 6), some (.ref o), some (.int x3)], [])) (b := x5 = 0) rfl (fun hb => ?_) (fun hb => ?_)
      · replace H := H.1 (hb)
        exact H
      · replace H := H.2 (hb)
        refine Ex.pure 1 (fr2 := (28, [some (.ref 6), some (.ref o), some (.int x3)], [.ref 6])) rfl ?_
        refine Ex.getI rfl (Or.inl rfl) (sg_6 hs) ?_
        refine Ex.pure 1 (fr2 := (34, [some (.ref 6), some (.ref o), some (.int x3)], [.int 16384, .int (h4.2.1 6 4)])) rfl ?_
        refine Ex.br (x := (51, [some (.ref 6), some (.ref o), some (.int x3)], [])) (y := (37, [some (.ref 6), some (.ref o), some (.int x3)], [])) (b := (h4.2.1 6 4) < 16384) rfl (fun hb => ?_) (fun hb => ?_)
        · replace H := H.1 (hb)
          refine Ex.pure 3 (fr2 := (54, [some (.ref 6), some (.ref o), some (.int x3)], [.int x3, .ref o, .ref 6])) rfl ?_
          refine Ex.cal (rest := []) (j := m_X2_write) (as := [.ref 6, .ref o, .int x3]) (vst (a := 46) (b := 3) (c := 2) (rest := []) (vs := [.ref o, .int x3]) rfl ⟨Nat.le_of_ble_eq_true rfl, Nat.le_of_ble_eq_true rfl⟩ rfl rfl (sg_6 hs)) (H.imp ?_)
          intro rv h6 H
          obtain ⟨rfl, H⟩ := H
          obtain ⟨y8, hs, H⟩ := H
          obtain ⟨ho_o, H⟩ := H
          show Ex d [] tb_X2_made (57, [some (.ref 6), some (.ref o), some (.int x3)], []) h6 _
          refine Ex.pure 1 (fr2 := (58, [some (.ref 6), some (.ref o), some (.int x3)], [.ref 6])) rfl ?_
          refine Ex.getI rfl (Or.inl rfl) (sg_6 hs) ?_
          refine Ex.pure 2 (fr2 := (63, [some (.ref 6), some (.ref o), some (.int x3)], [.int ((h6.2.1 6 4) - 1)])) rfl ?_
          exact Ex.iret rfl (Or.inl rfl) H
        · replace H := H.2 (hb)
          exact H
  · replace H := H.2 (hb)
    refine Ex.pure 1 (fr2 := (8, [some (.ref 6), some (.ref o), none], [.int 0])) rfl ?_
    exact Ex.iret rfl (Or.inl rfl) H
theorem w_X2_made_37 {d : Nat} {h : XH} {y : Nat → Nat} {K : XK} {E : XE} {o : Nat} {u1 : Option Value} {u2 : Option Value} (hd : 20 ≤ d) (hs : Sg h.1 y) (ho_o : Dq h.1 o) (H : (∀ h1 : XH, h1 = (x_setI h 6 4 (h.2.1 6 5)) → E 3 (x_new h1 (4, 3, []) 6))) : b_X2_made_37 d 6 u1 u2 h K E := by
  show Ex d [] tb_X2_made (37, [some (.ref 6), u1, u2], []) h _
  refine Ex.pure 1 (fr2 := (38, [some (.ref 6), u1, u2], [.ref 6])) rfl ?_
  refine Ex.ask (rest := []) (j := m_X2_forget) (as := [.ref 6]) (vst (a := 26) (b := 1) (c := 2) (rest := []) (vs := []) rfl ⟨Nat.le_of_ble_eq_true rfl, Nat.le_of_ble_eq_true rfl⟩ rfl rfl (sg_6 hs)) ((t_X2_forget (d := 0) (sg_6 hs)).mono (by omega) (fun _ _ z => z)) ?_
  rintro _ h1 ⟨rfl, e1⟩
  replace H := H h1 e1
  replace hs : Sg h1.1 y := by rw [e1]; exact hs
  replace ho_o : Dq h1.1 o := by rw [e1]; exact ho_o
  show Ex d [] tb_X2_made (41, [some (.ref 6), u1, u2], []) h1 _
  exact Ex.thr rfl (by decide) H
def b_X2_powerOf_21 (d : Nat) (r_0 : Nat) (u1 : Option Value) (u2 : Option Value) (h : XH) (K : XK) (E : XE) : Prop := Ex d [] tb_X2_powerOf (21, [some (.ref r_0), u1, u2], []) h (Po K E)
theorem w_X2_powerOf {d : Nat} {h : XH} {y : Nat → Nat} {K : XK} {E : XE} {a : Int32} {b : Int32} (hd : 20 ≤ d) (hs : Sg h.1 y) (H : (∀ h1 : XH, h1 = (x_setI h 11 2 0) → (b ≤ 0 → b_X2_powerOf_21 d 6 (some (.int a)) (some (.int b)) h1 K E) ∧ (¬ (b ≤ 0) → (∀ h2 : XH, h2 = (a_Dr h1 11 (11 + 1) (11 + 2) 64 ((b : Int32).toInt64) a) → b_X2_powerOf_21 d 6 (some (.int a)) (some (.int b)) h2 K E)))) : Ca (d + 1) m_X2_powerOf [.ref 6, .int a, .int b] h K E := by
  refine Ca.of ⟨by show 3 ≤ 3; omega, rfl⟩ ?_
  show Ex d [] tb_X2_powerOf (0, [some (.ref 6), some (.int a), some (.int b)], []) h _
  refine Ex.pure 1 (fr2 := (1, [some (.ref 6), some (.int a), some (.int b)], [.ref 6])) rfl ?_
  refine Ex.getQ rfl (sg_6 hs) rfl ?_
  refine Ex.ask (rest := []) (j := m_X0_restart) (as := [.ref 11]) (vst (a := 4) (b := 1) (c := 0) (rest := []) (vs := []) rfl ⟨Nat.le_of_ble_eq_true rfl, Nat.le_of_ble_eq_true rfl⟩ rfl rfl (sg_11 hs)) ((t_X0_restart (d := 0) (sg_11 hs)).mono (by omega) (fun _ _ z => z)) ?_
  rintro _ h1 ⟨rfl, e1⟩
  replace H := H h1 e1
  replace hs : Sg h1.1 y := by rw [e1]; exact hs
  show Ex d [] tb_X2_powerOf (7, [some (.ref 6), some (.int a), some (.int b)], []) h1 _
  refine Ex.pure 1 (fr2 := (8, [some (.ref 6), some (.int a), some (.int b)], [.int b])) rfl ?_
  refine Ex.br (x := (21, [some (.ref 6), some (.int a), some (.int b)], [])) (y := (11, [some (.ref 6), some (.int a), some (.int b)], [])) (b := b ≤ 0) rfl (fun hb => ?_) (fun hb => ?_)
  · replace H := H.1 (hb)
    exact H
  · replace H := H.2 (hb)
    refine Ex.pure 1 (fr2 := (12, [some (.ref 6), some (.int a), some (.int b)], [.ref 6])) rfl ?_
    refine Ex.getQ rfl (sg_6 hs) rfl ?_
    refine Ex.pure 3 (fr2 := (18, [some (.ref 6), some (.int a), some (.int b)], [.int a, .long ((b : Int32).toInt64), .ref 11])) rfl ?_
    refine Ex.ask (rest := []) (j := m_X0_add) (as := [.ref 11, .long ((b : Int32).toInt64), .int a]) (vst (a := 5) (b := 3) (c := 0) (rest := []) (vs := [.long ((b : Int32).toInt64), .int a]) rfl ⟨Nat.le_of_ble_eq_true rfl, Nat.le_of_ble_eq_true rfl⟩ rfl rfl (sg_11 hs)) ((t_X0_add (d := 0) (sg_D11 hs).1 rfl rfl (sg_D11 hs).2.1 (sg_D11 hs).2.2 (by omega) (by omega)).mono (by omega) (fun _ _ z => z)) ?_
    rintro _ h2 ⟨rfl, e2⟩
    replace H := H h2 e2
    replace hs : Sg h2.1 y := by rw [e2, a_Dr_sh]; exact hs
    show Ex d [] tb_X2_powerOf (21, [some (.ref 6), some (.int a), some (.int b)], []) h2 _
    exact H
theorem w_X2_powerOf_21 {d : Nat} {h : XH} {y : Nat → Nat} {K : XK} {E : XE} {u1 : Option Value} {u2 : Option Value} (hd : 20 ≤ d) (hs : Sg h.1 y) (H : (Ca d m_X2_made [.ref 6, .ref 11] h (fun rv h1 => ∃ x2, rv = some (.int x2) ∧ ∃ y3 : Nat → Nat, Sg h1.1 y3 ∧ K (some (.int x2)) h1) E)) : b_X2_powerOf_21 d 6 u1 u2 h K E := by
  show Ex d [] tb_X2_powerOf (21, [some (.ref 6), u1, u2], []) h _
  refine Ex.pure 2 (fr2 := (23, [some (.ref 6), u1, u2], [.ref 6, .ref 6])) rfl ?_
  refine Ex.getQ rfl (sg_6 hs) rfl ?_
  refine Ex.cal (rest := []) (j := m_X2_made) (as := [.ref 6, .ref 11]) (vst (a := 43) (b := 2) (c := 2) (rest := []) (vs := [.ref 11]) rfl ⟨Nat.le_of_ble_eq_true rfl, Nat.le_of_ble_eq_true rfl⟩ rfl rfl (sg_6 hs)) (H.imp ?_)
  intro rv h1 H
  obtain ⟨x2, rfl, H⟩ := H
  obtain ⟨y3, hs, H⟩ := H
  show Ex d [] tb_X2_powerOf (29, [some (.ref 6), u1, u2], [.int x2]) h1 _
  exact Ex.iret rfl (Or.inl rfl) H
def b_X2_added_52 (d : Nat) (r_0 : Nat) (l1 : Int32) (l2 : Int32) (l3 : Int32) (l4 : Int32) (u5 : Option Int32) (u6 : Option Value) (u7 : Option Value) (h : XH) (K : XK) (E : XE) : Prop := Ex d [] tb_X2_added (52, [some (.ref r_0), some (.int l1), some (.int l2), some (.int l3), some (.int l4), (xoi u5), u6, u7], []) h (Po K E)
def b_X2_added_53 (d : Nat) (r_0 : Nat) (l1 : Int32) (l2 : Int32) (l3 : Int32) (l4 : Int32) (u5 : Option Int32) (u6 : Option Value) (u7 : Option Value) (s0 : Int32) (h : XH) (K : XK) (E : XE) : Prop := Ex d [] tb_X2_added (53, [some (.ref r_0), some (.int l1), some (.int l2), some (.int l3), some (.int l4), (xoi u5), u6, u7], [.int s0]) h (Po K E)
def b_X2_added_78 (d : Nat) (r_0 : Nat) (l1 : Int32) (l2 : Int32) (l3 : Int32) (l4 : Int32) (u5 : Option Int32) (u6 : Option Value) (u7 : Option Value) (s0 : Int32) (s1 : Int64) (h : XH) (K : XK) (E : XE) : Prop := Ex d [] tb_X2_added (78, [some (.ref r_0), some (.int l1), some (.int l2), some (.int l3), some (.int l4), (xoi u5), u6, u7], [.int s0, .long s1]) h (Po K E)
theorem w_X2_added {d : Nat} {h : XH} {y : Nat → Nat} {K : XK} {E : XE} {a : Int32} {b : Int32} (hd : 20 ≤ d) (hs : Sg h.1 y) (H : (¬ b = 0 → (Ca d m_X2_powersAbove [.ref 6, .int a, .int 0, .int (xp h y b 0)] h (fun rv h2 => ∃ x3, rv = some (.int x3) ∧ Sg h2.1 y ∧ ((pw h2 y a) ≤ x3 → b_X2_added_52 d 6 a b (xp h y b 0) x3 none none none h2 K E) ∧ (¬ ((pw h2 y a) ≤ x3) → (Ca d m_X2_order [.ref 6, .int (xp h2 y a x3), .int (xp h y b 0), .int 5] h2 (fun rv h6 => ∃ x7, rv = some (.int x7) ∧ Sg h6.1 y ∧ (¬ x7 = 0 → b_X2_added_52 d 6 a b (xp h y b 0) x3 none none none h6 K E) ∧ (¬ (¬ x7 = 0) → b_X2_added_53 d 6 a b (xp h y b 0) x3 none none none 1 h6 K E)) E))) E)) ∧ (¬ (¬ b = 0) → K (some (.int a)) h)) : Ca (d + 1) m_X2_added [.ref 6, .int a, .int b] h K E := by
  refine Ca.of ⟨by show 3 ≤ 8; omega, rfl⟩ ?_
  show Ex d [] tb_X2_added (0, [some (.ref 6), some (.int a), some (.int b), none, none, none, none, none], []) h _
  refine Ex.pure 1 (fr2 := (1, [some (.ref 6), some (.int a), some (.int b), none, none, none, none, none], [.int b])) rfl ?_
  refine Ex.br (x := (6, [some (.ref 6), some (.int a), some (.int b), none, none, none, none, none], [])) (y := (4, [some (.ref 6), some (.int a), some (.int b), none, none, none, none, none], [])) (b := ¬ b = 0) rfl (fun hb => ?_) (fun hb => ?_)
  · replace H := H.1 (hb)
    refine Ex.pure 3 (fr2 := (9, [some (.ref 6), some (.int a), some (.int b), none, none, none, none, none], [.int 0, .int b, .ref 6])) rfl ?_
    refine Ex.ask (rest := []) (j := m_X2_exponentOf) (as := [.ref 6, .int b, .int 0]) (vst (a := 24) (b := 3) (c := 2) (rest := []) (vs := [.int b, .int 0]) rfl ⟨Nat.le_of_ble_eq_true rfl, Nat.le_of_ble_eq_true rfl⟩ rfl rfl (sg_6 hs)) ((t_X2_exponentOf (d := 0) (sg_6 hs) rfl rfl (sg_y0 hs) (sg_l0 hs) (sg_y3 hs) (sg_l3 hs)).mono (by omega) (fun _ _ z => z)) ?_
    rintro _ h0 ⟨rfl, e0⟩
    rw [e0]
    show Ex d [] tb_X2_added (12, [some (.ref 6), some (.int a), some (.int b), none, none, none, none, none], [.int (xp h y b 0)]) h _
    refine Ex.pure 5 (fr2 := (17, [some (.ref 6), some (.int a), some (.int b), some (.int (xp h y b 0)), none, none, none, none], [.int (xp h y b 0), .int 0, .int a, .ref 6])) rfl ?_
    refine Ex.cal (rest := []) (j := m_X2_powersAbove) (as := [.ref 6, .int a, .int 0, .int (xp h y b 0)]) (vst (a := 40) (b := 4) (c := 2) (rest := []) (vs := [.int a, .int 0, .int (xp h y b 0)]) rfl ⟨Nat.le_of_ble_eq_true rfl, Nat.le_of_ble_eq_true rfl⟩ rfl rfl (sg_6 hs)) (H.imp ?_)
    intro rv h2 H
    obtain ⟨x3, rfl, H⟩ := H
    obtain ⟨hs, H⟩ := H
    show Ex d [] tb_X2_added (20, [some (.ref 6), some (.int a), some (.int b), some (.int (xp h y b 0)), none, none, none, none], [.int x3]) h2 _
    refine Ex.pure 4 (fr2 := (26, [some (.ref 6), some (.int a), some (.int b), some (.int (xp h y b 0)), some (.int x3), none, none, none], [.int a, .ref 6, .int x3])) rfl ?_
    refine Ex.ask (rest := [.int x3]) (j := m_X2_powersOf) (as := [.ref 6, .int a]) (vst (a := 22) (b := 2) (c := 2) (rest := [.int x3]) (vs := [.int a]) rfl ⟨Nat.le_of_ble_eq_true rfl, Nat.le_of_ble_eq_true rfl⟩ rfl rfl (sg_6 hs)) ((t_X2_powersOf (d := 0) (sg_6 hs) rfl (sg_y0 hs) (sg_l0 hs)).mono (by omega) (fun _ _ z => z)) ?_
    rintro _ h0 ⟨rfl, e0⟩
    rw [e0]
    show Ex d [] tb_X2_added (29, [some (.ref 6), some (.int a), some (.int b), some (.int (xp h y b 0)), some (.int x3), none, none, none], [.int (pw h2 y a), .int x3]) h2 _
    refine Ex.br (x := (52, [some (.ref 6), some (.int a), some (.int b), some (.int (xp h y b 0)), some (.int x3), none, none, none], [])) (y := (32, [some (.ref 6), some (.int a), some (.int b), some (.int (xp h y b 0)), some (.int x3), none, none, none], [])) (b := (pw h2 y a) ≤ x3) rfl (fun hb => ?_) (fun hb => ?_)
    · replace H := H.1 (hb)
      exact H
    · replace H := H.2 (hb)
      refine Ex.pure 4 (fr2 := (37, [some (.ref 6), some (.int a), some (.int b), some (.int (xp h y b 0)), some (.int x3), none, none, none], [.int x3, .int a, .ref 6, .ref 6])) rfl ?_
      refine Ex.ask (rest := [.ref 6]) (j := m_X2_exponentOf) (as := [.ref 6, .int a, .int x3]) (vst (a := 24) (b := 3) (c := 2) (rest := [.ref 6]) (vs := [.int a, .int x3]) rfl ⟨Nat.le_of_ble_eq_true rfl, Nat.le_of_ble_eq_true rfl⟩ rfl rfl (sg_6 hs)) ((t_X2_exponentOf (d := 0) (sg_6 hs) rfl rfl (sg_y0 hs) (sg_l0 hs) (sg_y3 hs) (sg_l3 hs)).mono (by omega) (fun _ _ z => z)) ?_
      rintro _ h0 ⟨rfl, e0⟩
      rw [e0]
      show Ex d [] tb_X2_added (40, [some (.ref 6), some (.int a), some (.int b), some (.int (xp h y b 0)), some (.int x3), none, none, none], [.int (xp h2 y a x3), .ref 6]) h2 _
      refine Ex.pure 2 (fr2 := (42, [some (.ref 6), some (.int a), some (.int b), some (.int (xp h y b 0)), some (.int x3), none, none, none], [.int 5, .int (xp h y b 0), .int (xp h2 y a x3), .ref 6])) rfl ?_
      refine Ex.cal (rest := []) (j := m_X2_order) (as := [.ref 6, .int (xp h2 y a x3), .int (xp h y b 0), .int 5]) (vst (a := 34) (b := 4) (c := 2) (rest := []) (vs := [.int (xp h2 y a x3), .int (xp h y b 0), .int 5]) rfl ⟨Nat.le_of_ble_eq_true rfl, Nat.le_of_ble_eq_true rfl⟩ rfl rfl (sg_6 hs)) (H.imp ?_)
      intro rv h6 H
      obtain ⟨x7, rfl, H⟩ := H
      obtain ⟨hs, H⟩ := H
      show Ex d [] tb_X2_added (45, [some (.ref 6), some (.int a), some (.int b), some (.int (xp h y b 0)), some (.int x3), none, none, none], [.int x7]) h6 _
      refine Ex.br (x := (52, [some (.ref 6), some (.int a), some (.int b), some (.int (xp h y b 0)), some (.int x3), none, none, none], [])) (y := (48, [some (.ref 6), some (.int a), some (.int b), some (.int (xp h y b 0)), some (.int x3), none, none, none], [])) (b := ¬ x7 = 0) rfl (fun hb => ?_) (fun hb => ?_)
      · replace H := H.1 (hb)
        exact H
      · replace H := H.2 (hb)
        refine Ex.pure 2 (fr2 := (53, [some (.ref 6), some (.int a), some (.int b), some (.int (xp h y b 0)), some (.int x3), none, none, none], [.int 1])) rfl ?_
        exact H
  · replace H := H.2 (hb)
    refine Ex.pure 1 (fr2 := (5, [some (.ref 6), some (.int a), some (.int b), none, none, none, none, none], [.int a])) rfl ?_
    exact Ex.iret rfl (Or.inl rfl) H
theorem w_X2_added_52 {d : Nat} {h : XH} {y : Nat → Nat} {K : XK} {E : XE} {l1 : Int32} {l2 : Int32} {l3 : Int32} {l4 : Int32} {u5 : Option Int32} {u6 : Option Value} {u7 : Option Value} (hd : 20 ≤ d) (hs : Sg h.1 y) (H : b_X2_added_53 d 6 l1 l2 l3 l4 u5 (u6) (u7) 0 h K E) : b_X2_added_52 d 6 l1 l2 l3 l4 u5 u6 u7 h K E := by
  cases u5 with
  | none =>
    show Ex d [] tb_X2_added (52, [some (.ref 6), some (.int l1), some (.int l2), some (.int l3), some (.int l4), (xoi none), u6, u7], []) h _
    refine Ex.pure 1 (fr2 := (53, [some (.ref 6), some (.int l1), some (.int l2), some (.int l3), some (.int l4), (xoi none), u6, u7], [.int 0])) rfl ?_
    exact H
  | some v5 =>
    show Ex d [] tb_X2_added (52, [some (.ref 6), some (.int l1), some (.int l2), some (.int l3), some (.int l4), (xoi (some v5)), u6, u7], []) h _
    refine Ex.pure 1 (fr2 := (53, [some (.ref 6), some (.int l1), some (.int l2), some (.int l3), some (.int l4), (xoi (some v5)), u6, u7], [.int 0])) rfl ?_
    exact H
theorem w_X2_added_53 {d : Nat} {h : XH} {y : Nat → Nat} {K : XK} {E : XE} {l1 : Int32} {l2 : Int32} {l3 : Int32} {l4 : Int32} {u5 : Option Int32} {u6 : Option Value} {u7 : Option Value} {s0 : Int32} (hd : 20 ≤ d) (hs : Sg h.1 y) (H : (s0 = 0 → b_X2_added_78 d 6 l1 l2 l3 l4 (some s0) (u6) (u7) 0 (((tm h y l2 0) : Int32).toInt64) h K E) ∧ (¬ (s0 = 0) → b_X2_added_78 d 6 l1 l2 l3 l4 (some s0) (u6) (u7) (tm h y l1 l4) (((tm h y l2 0) : Int32).toInt64) h K E)) : b_X2_added_53 d 6 l1 l2 l3 l4 u5 u6 u7 s0 h K E := by
  cases u5 with
  | none =>
    show Ex d [] tb_X2_added (53, [some (.ref 6), some (.int l1), some (.int l2), some (.int l3), some (.int l4), (xoi none), u6, u7], [.int s0]) h _
    refine Ex.pure 4 (fr2 := (58, [some (.ref 6), some (.int l1), some (.int l2), some (.int l3), some (.int l4), some (.int s0), u6, u7], [.int 0, .int l2, .ref 6])) rfl ?_
    refine Ex.ask (rest := []) (j := m_X2_timesOf) (as := [.ref 6, .int l2, .int 0]) (vst (a := 23) (b := 3) (c := 2) (rest := []) (vs := [.int l2, .int 0]) rfl ⟨Nat.le_of_ble_eq_true rfl, Nat.le_of_ble_eq_true rfl⟩ rfl rfl (sg_6 hs)) ((t_X2_timesOf (d := 0) (sg_6 hs) rfl rfl (sg_y0 hs) (sg_l0 hs) (sg_y2 hs) (sg_l2 hs)).mono (by omega) (fun _ _ z => z)) ?_
    rintro _ h0 ⟨rfl, e0⟩
    rw [e0]
    show Ex d [] tb_X2_added (61, [some (.ref 6), some (.int l1), some (.int l2), some (.int l3), some (.int l4), some (.int s0), u6, u7], [.int (tm h y l2 0)]) h _
    refine Ex.pure 2 (fr2 := (64, [some (.ref 6), some (.int l1), some (.int l2), some (.int l3), some (.int l4), some (.int s0), u6, u7], [.int s0, .long (((tm h y l2 0) : Int32).toInt64)])) rfl ?_
    refine Ex.br (x := (77, [some (.ref 6), some (.int l1), some (.int l2), some (.int l3), some (.int l4), some (.int s0), u6, u7], [.long (((tm h y l2 0) : Int32).toInt64)])) (y := (67, [some (.ref 6), some (.int l1), some (.int l2), some (.int l3), some (.int l4), some (.int s0), u6, u7], [.long (((tm h y l2 0) : Int32).toInt64)])) (b := s0 = 0) rfl (fun hb => ?_) (fun hb => ?_)
    · replace H := H.1 (hb)
      refine Ex.pure 1 (fr2 := (78, [some (.ref 6), some (.int l1), some (.int l2), some (.int l3), some (.int l4), some (.int s0), u6, u7], [.int 0, .long (((tm h y l2 0) : Int32).toInt64)])) rfl ?_
      exact H
    · replace H := H.2 (hb)
      refine Ex.pure 3 (fr2 := (71, [some (.ref 6), some (.int l1), some (.int l2), some (.int l3), some (.int l4), some (.int s0), u6, u7], [.int l4, .int l1, .ref 6, .long (((tm h y l2 0) : Int32).toInt64)])) rfl ?_
      refine Ex.ask (rest := [.long (((tm h y l2 0) : Int32).toInt64)]) (j := m_X2_timesOf) (as := [.ref 6, .int l1, .int l4]) (vst (a := 23) (b := 3) (c := 2) (rest := [.long (((tm h y l2 0) : Int32).toInt64)]) (vs := [.int l1, .int l4]) rfl ⟨Nat.le_of_ble_eq_true rfl, Nat.le_of_ble_eq_true rfl⟩ rfl rfl (sg_6 hs)) ((t_X2_timesOf (d := 0) (sg_6 hs) rfl rfl (sg_y0 hs) (sg_l0 hs) (sg_y2 hs) (sg_l2 hs)).mono (by omega) (fun _ _ z => z)) ?_
      rintro _ h0 ⟨rfl, e0⟩
      rw [e0]
      show Ex d [] tb_X2_added (74, [some (.ref 6), some (.int l1), some (.int l2), some (.int l3), some (.int l4), some (.int s0), u6, u7], [.int (tm h y l1 l4), .long (((tm h y l2 0) : Int32).toInt64)]) h _
      refine Ex.pure 1 (fr2 := (78, [some (.ref 6), some (.int l1), some (.int l2), some (.int l3), some (.int l4), some (.int s0), u6, u7], [.int (tm h y l1 l4), .long (((tm h y l2 0) : Int32).toInt64)])) rfl ?_
      exact H
  | some v5 =>
    show Ex d [] tb_X2_added (53, [some (.ref 6), some (.int l1), some (.int l2), some (.int l3), some (.int l4), (xoi (some v5)), u6, u7], [.int s0]) h _
    refine Ex.pure 4 (fr2 := (58, [some (.ref 6), some (.int l1), some (.int l2), some (.int l3), some (.int l4), some (.int s0), u6, u7], [.int 0, .int l2, .ref 6])) rfl ?_
    refine Ex.ask (rest := []) (j := m_X2_timesOf) (as := [.ref 6, .int l2, .int 0]) (vst (a := 23) (b := 3) (c := 2) (rest := []) (vs := [.int l2, .int 0]) rfl ⟨Nat.le_of_ble_eq_true rfl, Nat.le_of_ble_eq_true rfl⟩ rfl rfl (sg_6 hs)) ((t_X2_timesOf (d := 0) (sg_6 hs) rfl rfl (sg_y0 hs) (sg_l0 hs) (sg_y2 hs) (sg_l2 hs)).mono (by omega) (fun _ _ z => z)) ?_
    rintro _ h0 ⟨rfl, e0⟩
    rw [e0]
    show Ex d [] tb_X2_added (61, [some (.ref 6), some (.int l1), some (.int l2), some (.int l3), some (.int l4), some (.int s0), u6, u7], [.int (tm h y l2 0)]) h _
    refine Ex.pure 2 (fr2 := (64, [some (.ref 6), some (.int l1), some (.int l2), some (.int l3), some (.int l4), some (.int s0), u6, u7], [.int s0, .long (((tm h y l2 0) : Int32).toInt64)])) rfl ?_
    refine Ex.br (x := (77, [some (.ref 6), some (.int l1), some (.int l2), some (.int l3), some (.int l4), some (.int s0), u6, u7], [.long (((tm h y l2 0) : Int32).toInt64)])) (y := (67, [some (.ref 6), some (.int l1), some (.int l2), some (.int l3), some (.int l4), some (.int s0), u6, u7], [.long (((tm h y l2 0) : Int32).toInt64)])) (b := s0 = 0) rfl (fun hb => ?_) (fun hb => ?_)
    · replace H := H.1 (hb)
      refine Ex.pure 1 (fr2 := (78, [some (.ref 6), some (.int l1), some (.int l2), some (.int l3), some (.int l4), some (.int s0), u6, u7], [.int 0, .long (((tm h y l2 0) : Int32).toInt64)])) rfl ?_
      exact H
    · replace H := H.2 (hb)
      refine Ex.pure 3 (fr2 := (71, [some (.ref 6), some (.int l1), some (.int l2), some (.int l3), some (.int l4), some (.int s0), u6, u7], [.int l4, .int l1, .ref 6, .long (((tm h y l2 0) : Int32).toInt64)])) rfl ?_
      refine Ex.ask (rest := [.long (((tm h y l2 0) : Int32).toInt64)]) (j := m_X2_timesOf) (as := [.ref 6, .int l1, .int l4]) (vst (a := 23) (b := 3) (c := 2) (rest := [.long (((tm h y l2 0) : Int32).toInt64)]) (vs := [.int l1, .int l4]) rfl ⟨Nat.le_of_ble_eq_true rfl, Nat.le_of_ble_eq_true rfl⟩ rfl rfl (sg_6 hs)) ((t_X2_timesOf (d := 0) (sg_6 hs) rfl rfl (sg_y0 hs) (sg_l0 hs) (sg_y2 hs) (sg_l2 hs)).mono (by omega) (fun _ _ z => z)) ?_
      rintro _ h0 ⟨rfl, e0⟩
      rw [e0]
      show Ex d [] tb_X2_added (74, [some (.ref 6), some (.int l1), some (.int l2), some (.int l3), some (.int l4), some (.int s0), u6, u7], [.int (tm h y l1 l4), .long (((tm h y l2 0) : Int32).toInt64)]) h _
      refine Ex.pure 1 (fr2 := (78, [some (.ref 6), some (.int l1), some (.int l2), some (.int l3), some (.int l4), some (.int s0), u6, u7], [.int (tm h y l1 l4), .long (((tm h y l2 0) : Int32).toInt64)])) rfl ?_
      exact H
theorem w_X2_added_78 {d : Nat} {h : XH} {y : Nat → Nat} {K : XK} {E : XE} {l1 : Int32} {l2 : Int32} {l3 : Int32} {l4 : Int32} {u5 : Option Int32} {u6 : Option Value} {u7 : Option Value} {s0 : Int32} {s1 : Int64} (hd : 20 ≤ d) (hs : Sg h.1 y) (H : (∀ h1 : XH, h1 = (x_setI h 11 2 0) → (Ca d m_X2_draftPowers [.ref 6, .int l1, .int 0, .int l4] h1 (fun rv h2 => rv = none ∧ Sg h2.1 y ∧ (∀ h4 : XH, h4 = (a_Dr h2 11 (11 + 1) (11 + 2) 64 (s1 + (s0 : Int32).toInt64) l3) → (Ca d m_X2_draftPowers [.ref 6, .int l2, .int 1, .int (pw h4 y l2)] h4 (fun rv h6 => rv = none ∧ Sg h6.1 y ∧ (Ca d m_X2_made [.ref 6, .ref 11] h6 (fun rv h8 => ∃ x9, rv = some (.int x9) ∧ ∃ y10 : Nat → Nat, Sg h8.1 y10 ∧ K (some (.int x9)) h8) E)) E))) E))) : b_X2_added_78 d 6 l1 l2 l3 l4 u5 u6 u7 s0 s1 h K E := by
  cases u5 with
  | none =>
    show Ex d [] tb_X2_added (78, [some (.ref 6), some (.int l1), some (.int l2), some (.int l3), some (.int l4), (xoi none), u6, u7], [.int s0, .long s1]) h _
    refine Ex.pure 4 (fr2 := (83, [some (.ref 6), some (.int l1), some (.int l2), some (.int l3), some (.int l4), (xoi none), some (.long (s1 + (s0 : Int32).toInt64)), none], [.ref 6])) rfl ?_
    refine Ex.getQ rfl (sg_6 hs) rfl ?_
    refine Ex.ask (rest := []) (j := m_X0_restart) (as := [.ref 11]) (vst (a := 4) (b := 1) (c := 0) (rest := []) (vs := []) rfl ⟨Nat.le_of_ble_eq_true rfl, Nat.le_of_ble_eq_true rfl⟩ rfl rfl (sg_11 hs)) ((t_X0_restart (d := 0) (sg_11 hs)).mono (by omega) (fun _ _ z => z)) ?_
    rintro _ h1 ⟨rfl, e1⟩
    replace H := H h1 e1
    replace hs : Sg h1.1 y := by rw [e1]; exact hs
    show Ex d [] tb_X2_added (89, [some (.ref 6), some (.int l1), some (.int l2), some (.int l3), some (.int l4), (xoi none), some (.long (s1 + (s0 : Int32).toInt64)), none], []) h1 _
    refine Ex.pure 4 (fr2 := (94, [some (.ref 6), some (.int l1), some (.int l2), some (.int l3), some (.int l4), (xoi none), some (.long (s1 + (s0 : Int32).toInt64)), none], [.int l4, .int 0, .int l1, .ref 6])) rfl ?_
    refine Ex.cal (rest := []) (j := m_X2_draftPowers) (as := [.ref 6, .int l1, .int 0, .int l4]) (vst (a := 42) (b := 4) (c := 2) (rest := []) (vs := [.int l1, .int 0, .int l4]) rfl ⟨Nat.le_of_ble_eq_true rfl, Nat.le_of_ble_eq_true rfl⟩ rfl rfl (sg_6 hs)) (H.imp ?_)
    intro rv h2 H
    obtain ⟨rfl, H⟩ := H
    obtain ⟨hs, H⟩ := H
    show Ex d [] tb_X2_added (97, [some (.ref 6), some (.int l1), some (.int l2), some (.int l3), some (.int l4), (xoi none), some (.long (s1 + (s0 : Int32).toInt64)), none], []) h2 _
    refine Ex.pure 1 (fr2 := (98, [some (.ref 6), some (.int l1), some (.int l2), some (.int l3), some (.int l4), (xoi none), some (.long (s1 + (s0 : Int32).toInt64)), none], [.ref 6])) rfl ?_
    refine Ex.getQ rfl (sg_6 hs) rfl ?_
    refine Ex.pure 2 (fr2 := (104, [some (.ref 6), some (.int l1), some (.int l2), some (.int l3), some (.int l4), (xoi none), some (.long (s1 + (s0 : Int32).toInt64)), none], [.int l3, .long (s1 + (s0 : Int32).toInt64), .ref 11])) rfl ?_
    refine Ex.ask (rest := []) (j := m_X0_add) (as := [.ref 11, .long (s1 + (s0 : Int32).toInt64), .int l3]) (vst (a := 5) (b := 3) (c := 0) (rest := []) (vs := [.long (s1 + (s0 : Int32).toInt64), .int l3]) rfl ⟨Nat.le_of_ble_eq_true rfl, Nat.le_of_ble_eq_true rfl⟩ rfl rfl (sg_11 hs)) ((t_X0_add (d := 0) (sg_D11 hs).1 rfl rfl (sg_D11 hs).2.1 (sg_D11 hs).2.2 (by omega) (by omega)).mono (by omega) (fun _ _ z => z)) ?_
    rintro _ h4 ⟨rfl, e4⟩
    replace H := H h4 e4
    replace hs : Sg h4.1 y := by rw [e4, a_Dr_sh]; exact hs
    show Ex d [] tb_X2_added (107, [some (.ref 6), some (.int l1), some (.int l2), some (.int l3), some (.int l4), (xoi none), some (.long (s1 + (s0 : Int32).toInt64)), none], []) h4 _
    refine Ex.pure 5 (fr2 := (112, [some (.ref 6), some (.int l1), some (.int l2), some (.int l3), some (.int l4), (xoi none), some (.long (s1 + (s0 : Int32).toInt64)), none], [.int l2, .ref 6, .int 1, .int l2, .ref 6])) rfl ?_
    refine Ex.ask (rest := [.int 1, .int l2, .ref 6]) (j := m_X2_powersOf) (as := [.ref 6, .int l2]) (vst (a := 22) (b := 2) (c := 2) (rest := [.int 1, .int l2, .ref 6]) (vs := [.int l2]) rfl ⟨Nat.le_of_ble_eq_true rfl, Nat.le_of_ble_eq_true rfl⟩ rfl rfl (sg_6 hs)) ((t_X2_powersOf (d := 0) (sg_6 hs) rfl (sg_y0 hs) (sg_l0 hs)).mono (by omega) (fun _ _ z => z)) ?_
    rintro _ h0 ⟨rfl, e0⟩
    rw [e0]
    show Ex d [] tb_X2_added (115, [some (.ref 6), some (.int l1), some (.int l2), some (.int l3), some (.int l4), (xoi none), some (.long (s1 + (s0 : Int32).toInt64)), none], [.int (pw h4 y l2), .int 1, .int l2, .ref 6]) h4 _
    refine Ex.cal (rest := []) (j := m_X2_draftPowers) (as := [.ref 6, .int l2, .int 1, .int (pw h4 y l2)]) (vst (a := 42) (b := 4) (c := 2) (rest := []) (vs := [.int l2, .int 1, .int (pw h4 y l2)]) rfl ⟨Nat.le_of_ble_eq_true rfl, Nat.le_of_ble_eq_true rfl⟩ rfl rfl (sg_6 hs)) (H.imp ?_)
    intro rv h6 H
    obtain ⟨rfl, H⟩ := H
    obtain ⟨hs, H⟩ := H
    show Ex d [] tb_X2_added (118, [some (.ref 6), some (.int l1), some (.int l2), some (.int l3), some (.int l4), (xoi none), some (.long (s1 + (s0 : Int32).toInt64)), none], []) h6 _
    refine Ex.pure 2 (fr2 := (120, [some (.ref 6), some (.int l1), some (.int l2), some (.int l3), some (.int l4), (xoi none), some (.long (s1 + (s0 : Int32).toInt64)), none], [.ref 6, .ref 6])) rfl ?_
    refine Ex.getQ rfl (sg_6 hs) rfl ?_
    refine Ex.cal (rest := []) (j := m_X2_made) (as := [.ref 6, .ref 11]) (vst (a := 43) (b := 2) (c := 2) (rest := []) (vs := [.ref 11]) rfl ⟨Nat.le_of_ble_eq_true rfl, Nat.le_of_ble_eq_true rfl⟩ rfl rfl (sg_6 hs)) (H.imp ?_)
    intro rv h8 H
    obtain ⟨x9, rfl, H⟩ := H
    obtain ⟨y10, hs, H⟩ := H
    show Ex d [] tb_X2_added (126, [some (.ref 6), some (.int l1), some (.int l2), some (.int l3), some (.int l4), (xoi none), some (.long (s1 + (s0 : Int32).toInt64)), none], [.int x9]) h8 _
    exact Ex.iret rfl (Or.inl rfl) H
  | some v5 =>
    show Ex d [] tb_X2_added (78, [some (.ref 6), some (.int l1), some (.int l2), some (.int l3), some (.int l4), (xoi (some v5)), u6, u7], [.int s0, .long s1]) h _
    refine Ex.pure 4 (fr2 := (83, [some (.ref 6), some (.int l1), some (.int l2), some (.int l3), some (.int l4), (xoi (some v5)), some (.long (s1 + (s0 : Int32).toInt64)), none], [.ref 6])) rfl ?_
    refine Ex.getQ rfl (sg_6 hs) rfl ?_
    refine Ex.ask (rest := []) (j := m_X0_restart) (as := [.ref 11]) (vst (a := 4) (b := 1) (c := 0) (rest := []) (vs := []) rfl ⟨Nat.le_of_ble_eq_true rfl, Nat.le_of_ble_eq_true rfl⟩ rfl rfl (sg_11 hs)) ((t_X0_restart (d := 0) (sg_11 hs)).mono (by omega) (fun _ _ z => z)) ?_
    rintro _ h1 ⟨rfl, e1⟩
    replace H := H h1 e1
    replace hs : Sg h1.1 y := by rw [e1]; exact hs
    show Ex d [] tb_X2_added (89, [some (.ref 6), some (.int l1), some (.int l2), some (.int l3), some (.int l4), (xoi (some v5)), some (.long (s1 + (s0 : Int32).toInt64)), none], []) h1 _
    refine Ex.pure 4 (fr2 := (94, [some (.ref 6), some (.int l1), some (.int l2), some (.int l3), some (.int l4), (xoi (some v5)), some (.long (s1 + (s0 : Int32).toInt64)), none], [.int l4, .int 0, .int l1, .ref 6])) rfl ?_
    refine Ex.cal (rest := []) (j := m_X2_draftPowers) (as := [.ref 6, .int l1, .int 0, .int l4]) (vst (a := 42) (b := 4) (c := 2) (rest := []) (vs := [.int l1, .int 0, .int l4]) rfl ⟨Nat.le_of_ble_eq_true rfl, Nat.le_of_ble_eq_true rfl⟩ rfl rfl (sg_6 hs)) (H.imp ?_)
    intro rv h2 H
    obtain ⟨rfl, H⟩ := H
    obtain ⟨hs, H⟩ := H
    show Ex d [] tb_X2_added (97, [some (.ref 6), some (.int l1), some (.int l2), some (.int l3), some (.int l4), (xoi (some v5)), some (.long (s1 + (s0 : Int32).toInt64)), none], []) h2 _
    refine Ex.pure 1 (fr2 := (98, [some (.ref 6), some (.int l1), some (.int l2), some (.int l3), some (.int l4), (xoi (some v5)), some (.long (s1 + (s0 : Int32).toInt64)), none], [.ref 6])) rfl ?_
    refine Ex.getQ rfl (sg_6 hs) rfl ?_
    refine Ex.pure 2 (fr2 := (104, [some (.ref 6), some (.int l1), some (.int l2), some (.int l3), some (.int l4), (xoi (some v5)), some (.long (s1 + (s0 : Int32).toInt64)), none], [.int l3, .long (s1 + (s0 : Int32).toInt64), .ref 11])) rfl ?_
    refine Ex.ask (rest := []) (j := m_X0_add) (as := [.ref 11, .long (s1 + (s0 : Int32).toInt64), .int l3]) (vst (a := 5) (b := 3) (c := 0) (rest := []) (vs := [.long (s1 + (s0 : Int32).toInt64), .int l3]) rfl ⟨Nat.le_of_ble_eq_true rfl, Nat.le_of_ble_eq_true rfl⟩ rfl rfl (sg_11 hs)) ((t_X0_add (d := 0) (sg_D11 hs).1 rfl rfl (sg_D11 hs).2.1 (sg_D11 hs).2.2 (by omega) (by omega)).mono (by omega) (fun _ _ z => z)) ?_
    rintro _ h4 ⟨rfl, e4⟩
    replace H := H h4 e4
    replace hs : Sg h4.1 y := by rw [e4, a_Dr_sh]; exact hs
    show Ex d [] tb_X2_added (107, [some (.ref 6), some (.int l1), some (.int l2), some (.int l3), some (.int l4), (xoi (some v5)), some (.long (s1 + (s0 : Int32).toInt64)), none], []) h4 _
    refine Ex.pure 5 (fr2 := (112, [some (.ref 6), some (.int l1), some (.int l2), some (.int l3), some (.int l4), (xoi (some v5)), some (.long (s1 + (s0 : Int32).toInt64)), none], [.int l2, .ref 6, .int 1, .int l2, .ref 6])) rfl ?_
    refine Ex.ask (rest := [.int 1, .int l2, .ref 6]) (j := m_X2_powersOf) (as := [.ref 6, .int l2]) (vst (a := 22) (b := 2) (c := 2) (rest := [.int 1, .int l2, .ref 6]) (vs := [.int l2]) rfl ⟨Nat.le_of_ble_eq_true rfl, Nat.le_of_ble_eq_true rfl⟩ rfl rfl (sg_6 hs)) ((t_X2_powersOf (d := 0) (sg_6 hs) rfl (sg_y0 hs) (sg_l0 hs)).mono (by omega) (fun _ _ z => z)) ?_
    rintro _ h0 ⟨rfl, e0⟩
    rw [e0]
    show Ex d [] tb_X2_added (115, [some (.ref 6), some (.int l1), some (.int l2), some (.int l3), some (.int l4), (xoi (some v5)), some (.long (s1 + (s0 : Int32).toInt64)), none], [.int (pw h4 y l2), .int 1, .int l2, .ref 6]) h4 _
    refine Ex.cal (rest := []) (j := m_X2_draftPowers) (as := [.ref 6, .int l2, .int 1, .int (pw h4 y l2)]) (vst (a := 42) (b := 4) (c := 2) (rest := []) (vs := [.int l2, .int 1, .int (pw h4 y l2)]) rfl ⟨Nat.le_of_ble_eq_true rfl, Nat.le_of_ble_eq_true rfl⟩ rfl rfl (sg_6 hs)) (H.imp ?_)
    intro rv h6 H
    obtain ⟨rfl, H⟩ := H
    obtain ⟨hs, H⟩ := H
    show Ex d [] tb_X2_added (118, [some (.ref 6), some (.int l1), some (.int l2), some (.int l3), some (.int l4), (xoi (some v5)), some (.long (s1 + (s0 : Int32).toInt64)), none], []) h6 _
    refine Ex.pure 2 (fr2 := (120, [some (.ref 6), some (.int l1), some (.int l2), some (.int l3), some (.int l4), (xoi (some v5)), some (.long (s1 + (s0 : Int32).toInt64)), none], [.ref 6, .ref 6])) rfl ?_
    refine Ex.getQ rfl (sg_6 hs) rfl ?_
    refine Ex.cal (rest := []) (j := m_X2_made) (as := [.ref 6, .ref 11]) (vst (a := 43) (b := 2) (c := 2) (rest := []) (vs := [.ref 11]) rfl ⟨Nat.le_of_ble_eq_true rfl, Nat.le_of_ble_eq_true rfl⟩ rfl rfl (sg_6 hs)) (H.imp ?_)
    intro rv h8 H
    obtain ⟨x9, rfl, H⟩ := H
    obtain ⟨y10, hs, H⟩ := H
    show Ex d [] tb_X2_added (126, [some (.ref 6), some (.int l1), some (.int l2), some (.int l3), some (.int l4), (xoi (some v5)), some (.long (s1 + (s0 : Int32).toInt64)), none], [.int x9]) h8 _
    exact Ex.iret rfl (Or.inl rfl) H
def b_X2_multiplied_27 (d : Nat) (r_0 : Nat) (l1 : Int32) (l2 : Int32) (l3 : Int32) (l4 : Int32) (l5 : Int32) (h : XH) (K : XK) (E : XE) : Prop := Ex d [] tb_X2_multiplied (27, [some (.ref r_0), some (.int l1), some (.int l2), some (.int l3), some (.int l4), some (.int l5)], []) h (Po K E)
def b_X2_multiplied_71 (d : Nat) (r_0 : Nat) (l1 : Int32) (l2 : Int32) (l3 : Int32) (l4 : Int32) (l5 : Int32) (h : XH) (K : XK) (E : XE) : Prop := Ex d [] tb_X2_multiplied (71, [some (.ref r_0), some (.int l1), some (.int l2), some (.int l3), some (.int l4), some (.int l5)], []) h (Po K E)
def b_X2_multiplied_150 (d : Nat) (r_0 : Nat) (l1 : Int32) (l2 : Int32) (l3 : Int32) (l4 : Int32) (l5 : Int32) (h : XH) (K : XK) (E : XE) : Prop := Ex d [] tb_X2_multiplied (150, [some (.ref r_0), some (.int l1), some (.int l2), some (.int l3), some (.int l4), some (.int l5)], []) h (Po K E)
theorem w_X2_multiplied {d : Nat} {h : XH} {y : Nat → Nat} {K : XK} {E : XE} {a : Int32} {b : Int32} (hd : 20 ≤ d) (hs : Sg h.1 y) (H : (a = 0 → K (some (.int 0)) h) ∧ (¬ (a = 0) → (¬ b = 0 → b_X2_multiplied_27 d 6 a b (xp h y a 0) (pw h y b) 0 h K E) ∧ (¬ (¬ b = 0) → K (some (.int 0)) h))) : Ca (d + 1) m_X2_multiplied [.ref 6, .int a, .int b] h K E := by
  refine Ca.of ⟨by show 3 ≤ 6; omega, rfl⟩ ?_
  show Ex d [] tb_X2_multiplied (0, [some (.ref 6), some (.int a), some (.int b), none, none, none], []) h _
  refine Ex.pure 1 (fr2 := (1, [some (.ref 6), some (.int a), some (.int b), none, none, none], [.int a])) rfl ?_
  refine Ex.br (x := (8, [some (.ref 6), some (.int a), some (.int b), none, none, none], [])) (y := (4, [some (.ref 6), some (.int a), some (.int b), none, none, none], [])) (b := a = 0) rfl (fun hb => ?_) (fun hb => ?_)
  · replace H := H.1 (hb)
    refine Ex.pure 1 (fr2 := (9, [some (.ref 6), some (.int a), some (.int b), none, none, none], [.int 0])) rfl ?_
    exact Ex.iret rfl (Or.inl rfl) H
  · replace H := H.2 (hb)
    refine Ex.pure 1 (fr2 := (5, [some (.ref 6), some (.int a), some (.int b), none, none, none], [.int b])) rfl ?_
    refine Ex.br (x := (10, [some (.ref 6), some (.int a), some (.int b), none, none, none], [])) (y := (8, [some (.ref 6), some (.int a), some (.int b), none, none, none], [])) (b := ¬ b = 0) rfl (fun hb => ?_) (fun hb => ?_)
    · replace H := H.1 (hb)
      refine Ex.pure 3 (fr2 := (13, [some (.ref 6), some (.int a), some (.int b), none, none, none], [.int 0, .int a, .ref 6])) rfl ?_
      refine Ex.ask (rest := []) (j := m_X2_exponentOf) (as := [.ref 6, .int a, .int 0]) (vst (a := 24) (b := 3) (c := 2) (rest := []) (vs := [.int a, .int 0]) rfl ⟨Nat.le_of_ble_eq_true rfl, Nat.le_of_ble_eq_true rfl⟩ rfl rfl (sg_6 hs)) ((t_X2_exponentOf (d := 0) (sg_6 hs) rfl rfl (sg_y0 hs) (sg_l0 hs) (sg_y3 hs) (sg_l3 hs)).mono (by omega) (fun _ _ z => z)) ?_
      rintro _ h0 ⟨rfl, e0⟩
      rw [e0]
      show Ex d [] tb_X2_multiplied (16, [some (.ref 6), some (.int a), some (.int b), none, none, none], [.int (xp h y a 0)]) h _
      refine Ex.pure 3 (fr2 := (19, [some (.ref 6), some (.int a), some (.int b), some (.int (xp h y a 0)), none, none], [.int b, .ref 6])) rfl ?_
      refine Ex.ask (rest := []) (j := m_X2_powersOf) (as := [.ref 6, .int b]) (vst (a := 22) (b := 2) (c := 2) (rest := []) (vs := [.int b]) rfl ⟨Nat.le_of_ble_eq_true rfl, Nat.le_of_ble_eq_true rfl⟩ rfl rfl (sg_6 hs)) ((t_X2_powersOf (d := 0) (sg_6 hs) rfl (sg_y0 hs) (sg_l0 hs)).mono (by omega) (fun _ _ z => z)) ?_
      rintro _ h0 ⟨rfl, e0⟩
      rw [e0]
      show Ex d [] tb_X2_multiplied (22, [some (.ref 6), some (.int a), some (.int b), some (.int (xp h y a 0)), none, none], [.int (pw h y b)]) h _
      refine Ex.pure 3 (fr2 := (27, [some (.ref 6), some (.int a), some (.int b), some (.int (xp h y a 0)), some (.int (pw h y b)), some (.int 0)], [])) rfl ?_
      exact H
    · replace H := H.2 (hb)
      refine Ex.pure 1 (fr2 := (9, [some (.ref 6), some (.int a), some (.int b), none, none, none], [.int 0])) rfl ?_
      exact Ex.iret rfl (Or.inl rfl) H
theorem w_X2_multiplied_27 {d : Nat} {h : XH} {y : Nat → Nat} {K : XK} {E : XE} {l1 : Int32} {l2 : Int32} {l3 : Int32} {l4 : Int32} {l5 : Int32} (hd : 20 ≤ d) (hs : Sg h.1 y) (H : (l4 ≤ l5 → (∀ h1 : XH, h1 = (x_setI h 11 2 0) → b_X2_multiplied_71 d 6 l1 l2 l3 l4 0 h1 K E)) ∧ (¬ (l4 ≤ l5) → (Ca d m_X2_added [.ref 6, .int l3, .int (xp h y l2 l5)] h (fun rv h3 => ∃ x4, rv = some (.int x4) ∧ ∃ y5 : Nat → Nat, Sg h3.1 y5 ∧ (∀ h6 : XH, h6 = (p_I h3 17 8 l5 x4) → b_X2_multiplied_27 d 6 l1 l2 l3 l4 (l5 + 1) h6 K E)) E))) : b_X2_multiplied_27 d 6 l1 l2 l3 l4 l5 h K E := by
  show Ex d [] tb_X2_multiplied (27, [some (.ref 6), some (.int l1), some (.int l2), some (.int l3), some (.int l4), some (.int l5)], []) h _
  refine Ex.pure 2 (fr2 := (31, [some (.ref 6), some (.int l1), some (.int l2), some (.int l3), some (.int l4), some (.int l5)], [.int l4, .int l5])) rfl ?_
  refine Ex.br (x := (61, [some (.ref 6), some (.int l1), some (.int l2), some (.int l3), some (.int l4), some (.int l5)], [])) (y := (34, [some (.ref 6), some (.int l1), some (.int l2), some (.int l3), some (.int l4), some (.int l5)], [])) (b := l4 ≤ l5) rfl (fun hb => ?_) (fun hb => ?_)
  · replace H := H.1 (hb)
    refine Ex.pure 1 (fr2 := (62, [some (.ref 6), some (.int l1), some (.int l2), some (.int l3), some (.int l4), some (.int l5)], [.ref 6])) rfl ?_
    refine Ex.getQ rfl (sg_6 hs) rfl ?_
    refine Ex.ask (rest := []) (j := m_X0_restart) (as := [.ref 11]) (vst (a := 4) (b := 1) (c := 0) (rest := []) (vs := []) rfl ⟨Nat.le_of_ble_eq_true rfl, Nat.le_of_ble_eq_true rfl⟩ rfl rfl (sg_11 hs)) ((t_X0_restart (d := 0) (sg_11 hs)).mono (by omega) (fun _ _ z => z)) ?_
    rintro _ h1 ⟨rfl, e1⟩
    replace H := H h1 e1
    replace hs : Sg h1.1 y := by rw [e1]; exact hs
    show Ex d [] tb_X2_multiplied (68, [some (.ref 6), some (.int l1), some (.int l2), some (.int l3), some (.int l4), some (.int l5)], []) h1 _
    refine Ex.pure 2 (fr2 := (71, [some (.ref 6), some (.int l1), some (.int l2), some (.int l3), some (.int l4), some (.int 0)], [])) rfl ?_
    exact H
  · replace H := H.2 (hb)
    refine Ex.pure 1 (fr2 := (35, [some (.ref 6), some (.int l1), some (.int l2), some (.int l3), some (.int l4), some (.int l5)], [.ref 6])) rfl ?_
    refine Ex.getQ rfl (sg_6 hs) rfl ?_
    refine Ex.pure 6 (fr2 := (46, [some (.ref 6), some (.int l1), some (.int l2), some (.int l3), some (.int l4), some (.int l5)], [.int l5, .int l2, .ref 6, .int l3, .ref 6, .int l5, .ref 17])) rfl ?_
    refine Ex.ask (rest := [.int l3, .ref 6, .int l5, .ref 17]) (j := m_X2_exponentOf) (as := [.ref 6, .int l2, .int l5]) (vst (a := 24) (b := 3) (c := 2) (rest := [.int l3, .ref 6, .int l5, .ref 17]) (vs := [.int l2, .int l5]) rfl ⟨Nat.le_of_ble_eq_true rfl, Nat.le_of_ble_eq_true rfl⟩ rfl rfl (sg_6 hs)) ((t_X2_exponentOf (d := 0) (sg_6 hs) rfl rfl (sg_y0 hs) (sg_l0 hs) (sg_y3 hs) (sg_l3 hs)).mono (by omega) (fun _ _ z => z)) ?_
    rintro _ h0 ⟨rfl, e0⟩
    rw [e0]
    show Ex d [] tb_X2_multiplied (49, [some (.ref 6), some (.int l1), some (.int l2), some (.int l3), some (.int l4), some (.int l5)], [.int (xp h y l2 l5), .int l3, .ref 6, .int l5, .ref 17]) h _
    refine Ex.cal (rest := [.int l5, .ref 17]) (j := m_X2_added) (as := [.ref 6, .int l3, .int (xp h y l2 l5)]) (vst (a := 28) (b := 3) (c := 2) (rest := [.int l5, .ref 17]) (vs := [.int l3, .int (xp h y l2 l5)]) rfl ⟨Nat.le_of_ble_eq_true rfl, Nat.le_of_ble_eq_true rfl⟩ rfl rfl (sg_6 hs)) (H.imp ?_)
    intro rv h3 H
    obtain ⟨x4, rfl, H⟩ := H
    obtain ⟨y5, hs, H⟩ := H
    show Ex d [] tb_X2_multiplied (52, [some (.ref 6), some (.int l1), some (.int l2), some (.int l3), some (.int l4), some (.int l5)], [.int x4, .int l5, .ref 17]) h3 _
    refine Ex.ask (rest := []) (j := m_X3_put) (as := [.ref 17, .int l5, .int x4]) (fun c => rfl) ((t_X3_put (d := 0) (sg_17 hs) (by omega)).mono (by omega) (fun _ _ z => z)) ?_
    rintro _ h6 ⟨rfl, e6⟩
    replace H := H h6 e6
    replace hs : Sg h6.1 y5 := by rw [e6, p_I_sh]; exact hs
    show Ex d [] tb_X2_multiplied (55, [some (.ref 6), some (.int l1), some (.int l2), some (.int l3), some (.int l4), some (.int l5)], []) h6 _
    refine Ex.pure 2 (fr2 := (27, [some (.ref 6), some (.int l1), some (.int l2), some (.int l3), some (.int l4), some (.int (l5 + 1))], [])) rfl ?_
    exact H
theorem w_X2_multiplied_71 {d : Nat} {h : XH} {y : Nat → Nat} {K : XK} {E : XE} {l1 : Int32} {l2 : Int32} {l3 : Int32} {l4 : Int32} {l5 : Int32} (hd : 20 ≤ d) (hs : Sg h.1 y) (H : (l4 ≤ l5 → (Ca d m_X2_made [.ref 6, .ref 11] h (fun rv h1 => ∃ x2, rv = some (.int x2) ∧ ∃ y3 : Nat → Nat, Sg h1.1 y3 ∧ K (some (.int x2)) h1) E)) ∧ (¬ (l4 ≤ l5) → (¬ (xp h y l2 l5) = 0 → (∀ h7 : XH, h7 = (a_Dr h 11 (11 + 1) (11 + 2) 64 (((tm h y l2 l5) : Int32).toInt64) (g_I h 17 8 l5)) → b_X2_multiplied_150 d 6 l1 l2 l3 l4 l5 h7 K E)) ∧ (¬ (¬ (xp h y l2 l5) = 0) → (∀ h10 : XH, h10 = (a_Dr h 11 (11 + 1) (11 + 2) 64 (((tm h y l1 0) : Int32).toInt64 * ((tm h y l2 l5) : Int32).toInt64) l3) → (Ca d m_X2_draftPowers [.ref 6, .int l1, .int 1, .int (pw h10 y l1)] h10 (fun rv h12 => rv = none ∧ Sg h12.1 y ∧ b_X2_multiplied_150 d 6 l1 l2 l3 l4 l5 h12 K E) E))))) : b_X2_multiplied_71 d 6 l1 l2 l3 l4 l5 h K E := by
  show Ex d [] tb_X2_multiplied (71, [some (.ref 6), some (.int l1), some (.int l2), some (.int l3), some (.int l4), some (.int l5)], []) h _
  refine Ex.pure 2 (fr2 := (75, [some (.ref 6), some (.int l1), some (.int l2), some (.int l3), some (.int l4), some (.int l5)], [.int l4, .int l5])) rfl ?_
  refine Ex.br (x := (156, [some (.ref 6), some (.int l1), some (.int l2), some (.int l3), some (.int l4), some (.int l5)], [])) (y := (78, [some (.ref 6), some (.int l1), some (.int l2), some (.int l3), some (.int l4), some (.int l5)], [])) (b := l4 ≤ l5) rfl (fun hb => ?_) (fun hb => ?_)
  · replace H := H.1 (hb)
    refine Ex.pure 2 (fr2 := (158, [some (.ref 6), some (.int l1), some (.int l2), some (.int l3), some (.int l4), some (.int l5)], [.ref 6, .ref 6])) rfl ?_
    refine Ex.getQ rfl (sg_6 hs) rfl ?_
    refine Ex.cal (rest := []) (j := m_X2_made) (as := [.ref 6, .ref 11]) (vst (a := 43) (b := 2) (c := 2) (rest := []) (vs := [.ref 11]) rfl ⟨Nat.le_of_ble_eq_true rfl, Nat.le_of_ble_eq_true rfl⟩ rfl rfl (sg_6 hs)) (H.imp ?_)
    intro rv h1 H
    obtain ⟨x2, rfl, H⟩ := H
    obtain ⟨y3, hs, H⟩ := H
    show Ex d [] tb_X2_multiplied (164, [some (.ref 6), some (.int l1), some (.int l2), some (.int l3), some (.int l4), some (.int l5)], [.int x2]) h1 _
    exact Ex.iret rfl (Or.inl rfl) H
  · replace H := H.2 (hb)
    refine Ex.pure 3 (fr2 := (82, [some (.ref 6), some (.int l1), some (.int l2), some (.int l3), some (.int l4), some (.int l5)], [.int l5, .int l2, .ref 6])) rfl ?_
    refine Ex.ask (rest := []) (j := m_X2_exponentOf) (as := [.ref 6, .int l2, .int l5]) (vst (a := 24) (b := 3) (c := 2) (rest := []) (vs := [.int l2, .int l5]) rfl ⟨Nat.le_of_ble_eq_true rfl, Nat.le_of_ble_eq_true rfl⟩ rfl rfl (sg_6 hs)) ((t_X2_exponentOf (d := 0) (sg_6 hs) rfl rfl (sg_y0 hs) (sg_l0 hs) (sg_y3 hs) (sg_l3 hs)).mono (by omega) (fun _ _ z => z)) ?_
    rintro _ h0 ⟨rfl, e0⟩
    rw [e0]
    show Ex d [] tb_X2_multiplied (85, [some (.ref 6), some (.int l1), some (.int l2), some (.int l3), some (.int l4), some (.int l5)], [.int (xp h y l2 l5)]) h _
    refine Ex.br (x := (126, [some (.ref 6), some (.int l1), some (.int l2), some (.int l3), some (.int l4), some (.int l5)], [])) (y := (88, [some (.ref 6), some (.int l1), some (.int l2), some (.int l3), some (.int l4), some (.int l5)], [])) (b := ¬ (xp h y l2 l5) = 0) rfl (fun hb => ?_) (fun hb => ?_)
    · replace H := H.1 (hb)
      refine Ex.pure 1 (fr2 := (127, [some (.ref 6), some (.int l1), some (.int l2), some (.int l3), some (.int l4), some (.int l5)], [.ref 6])) rfl ?_
      refine Ex.getQ rfl (sg_6 hs) rfl ?_
      refine Ex.pure 3 (fr2 := (134, [some (.ref 6), some (.int l1), some (.int l2), some (.int l3), some (.int l4), some (.int l5)], [.int l5, .int l2, .ref 6, .ref 11])) rfl ?_
      refine Ex.ask (rest := [.ref 11]) (j := m_X2_timesOf) (as := [.ref 6, .int l2, .int l5]) (vst (a := 23) (b := 3) (c := 2) (rest := [.ref 11]) (vs := [.int l2, .int l5]) rfl ⟨Nat.le_of_ble_eq_true rfl, Nat.le_of_ble_eq_true rfl⟩ rfl rfl (sg_6 hs)) ((t_X2_timesOf (d := 0) (sg_6 hs) rfl rfl (sg_y0 hs) (sg_l0 hs) (sg_y2 hs) (sg_l2 hs)).mono (by omega) (fun _ _ z => z)) ?_
      rintro _ h0 ⟨rfl, e0⟩
      rw [e0]
      show Ex d [] tb_X2_multiplied (137, [some (.ref 6), some (.int l1), some (.int l2), some (.int l3), some (.int l4), some (.int l5)], [.int (tm h y l2 l5), .ref 11]) h _
      refine Ex.pure 2 (fr2 := (139, [some (.ref 6), some (.int l1), some (.int l2), some (.int l3), some (.int l4), some (.int l5)], [.ref 6, .long (((tm h y l2 l5) : Int32).toInt64), .ref 11])) rfl ?_
      refine Ex.getQ rfl (sg_6 hs) rfl ?_
      refine Ex.pure 1 (fr2 := (144, [some (.ref 6), some (.int l1), some (.int l2), some (.int l3), some (.int l4), some (.int l5)], [.int l5, .ref 17, .long (((tm h y l2 l5) : Int32).toInt64), .ref 11])) rfl ?_
      refine Ex.ask (rest := [.long (((tm h y l2 l5) : Int32).toInt64), .ref 11]) (j := m_X3_at) (as := [.ref 17, .int l5]) (fun c => rfl) ((t_X3_at (d := 0) (sg_17 hs) (by omega)).mono (by omega) (fun _ _ z => z)) ?_
      rintro _ h0 ⟨rfl, e0⟩
      rw [e0]
      show Ex d [] tb_X2_multiplied (147, [some (.ref 6), some (.int l1), some (.int l2), some (.int l3), some (.int l4), some (.int l5)], [.int (g_I h 17 8 l5), .long (((tm h y l2 l5) : Int32).toInt64), .ref 11]) h _
      refine Ex.ask (rest := []) (j := m_X0_add) (as := [.ref 11, .long (((tm h y l2 l5) : Int32).toInt64), .int (g_I h 17 8 l5)]) (vst (a := 5) (b := 3) (c := 0) (rest := []) (vs := [.long (((tm h y l2 l5) : Int32).toInt64), .int (g_I h 17 8 l5)]) rfl ⟨Nat.le_of_ble_eq_true rfl, Nat.le_of_ble_eq_true rfl⟩ rfl rfl (sg_11 hs)) ((t_X0_add (d := 0) (sg_D11 hs).1 rfl rfl (sg_D11 hs).2.1 (sg_D11 hs).2.2 (by omega) (by omega)).mono (by omega) (fun _ _ z => z)) ?_
      rintro _ h7 ⟨rfl, e7⟩
      replace H := H h7 e7
      replace hs : Sg h7.1 y := by rw [e7, a_Dr_sh]; exact hs
      show Ex d [] tb_X2_multiplied (150, [some (.ref 6), some (.int l1), some (.int l2), some (.int l3), some (.int l4), some (.int l5)], []) h7 _
      exact H
    · replace H := H.2 (hb)
      refine Ex.pure 1 (fr2 := (89, [some (.ref 6), some (.int l1), some (.int l2), some (.int l3), some (.int l4), some (.int l5)], [.ref 6])) rfl ?_
      refine Ex.getQ rfl (sg_6 hs) rfl ?_
      refine Ex.pure 3 (fr2 := (95, [some (.ref 6), some (.int l1), some (.int l2), some (.int l3), some (.int l4), some (.int l5)], [.int 0, .int l1, .ref 6, .ref 11])) rfl ?_
      refine Ex.ask (rest := [.ref 11]) (j := m_X2_timesOf) (as := [.ref 6, .int l1, .int 0]) (vst (a := 23) (b := 3) (c := 2) (rest := [.ref 11]) (vs := [.int l1, .int 0]) rfl ⟨Nat.le_of_ble_eq_true rfl, Nat.le_of_ble_eq_true rfl⟩ rfl rfl (sg_6 hs)) ((t_X2_timesOf (d := 0) (sg_6 hs) rfl rfl (sg_y0 hs) (sg_l0 hs) (sg_y2 hs) (sg_l2 hs)).mono (by omega) (fun _ _ z => z)) ?_
      rintro _ h0 ⟨rfl, e0⟩
      rw [e0]
      show Ex d [] tb_X2_multiplied (98, [some (.ref 6), some (.int l1), some (.int l2), some (.int l3), some (.int l4), some (.int l5)], [.int (tm h y l1 0), .ref 11]) h _
      refine Ex.pure 4 (fr2 := (103, [some (.ref 6), some (.int l1), some (.int l2), some (.int l3), some (.int l4), some (.int l5)], [.int l5, .int l2, .ref 6, .long (((tm h y l1 0) : Int32).toInt64), .ref 11])) rfl ?_
      refine Ex.ask (rest := [.long (((tm h y l1 0) : Int32).toInt64), .ref 11]) (j := m_X2_timesOf) (as := [.ref 6, .int l2, .int l5]) (vst (a := 23) (b := 3) (c := 2) (rest := [.long (((tm h y l1 0) : Int32).toInt64), .ref 11]) (vs := [.int l2, .int l5]) rfl ⟨Nat.le_of_ble_eq_true rfl, Nat.le_of_ble_eq_true rfl⟩ rfl rfl (sg_6 hs)) ((t_X2_timesOf (d := 0) (sg_6 hs) rfl rfl (sg_y0 hs) (sg_l0 hs) (sg_y2 hs) (sg_l2 hs)).mono (by omega) (fun _ _ z => z)) ?_
      rintro _ h0 ⟨rfl, e0⟩
      rw [e0]
      show Ex d [] tb_X2_multiplied (106, [some (.ref 6), some (.int l1), some (.int l2), some (.int l3), some (.int l4), some (.int l5)], [.int (tm h y l2 l5), .long (((tm h y l1 0) : Int32).toInt64), .ref 11]) h _
      refine Ex.pure 3 (fr2 := (109, [some (.ref 6), some (.int l1), some (.int l2), some (.int l3), some (.int l4), some (.int l5)], [.int l3, .long (((tm h y l1 0) : Int32).toInt64 * ((tm h y l2 l5) : Int32).toInt64), .ref 11])) rfl ?_
      refine Ex.ask (rest := []) (j := m_X0_add) (as := [.ref 11, .long (((tm h y l1 0) : Int32).toInt64 * ((tm h y l2 l5) : Int32).toInt64), .int l3]) (vst (a := 5) (b := 3) (c := 0) (rest := []) (vs := [.long (((tm h y l1 0) : Int32).toInt64 * ((tm h y l2 l5) : Int32).toInt64), .int l3]) rfl ⟨Nat.le_of_ble_eq_true rfl, Nat.le_of_ble_eq_true rfl⟩ rfl rfl (sg_11 hs)) ((t_X0_add (d := 0) (sg_D11 hs).1 rfl rfl (sg_D11 hs).2.1 (sg_D11 hs).2.2 (by omega) (by omega)).mono (by omega) (fun _ _ z => z)) ?_
      rintro _ h10 ⟨rfl, e10⟩
      replace H := H h10 e10
      replace hs : Sg h10.1 y := by rw [e10, a_Dr_sh]; exact hs
      show Ex d [] tb_X2_multiplied (112, [some (.ref 6), some (.int l1), some (.int l2), some (.int l3), some (.int l4), some (.int l5)], []) h10 _
      refine Ex.pure 5 (fr2 := (117, [some (.ref 6), some (.int l1), some (.int l2), some (.int l3), some (.int l4), some (.int l5)], [.int l1, .ref 6, .int 1, .int l1, .ref 6])) rfl ?_
      refine Ex.ask (rest := [.int 1, .int l1, .ref 6]) (j := m_X2_powersOf) (as := [.ref 6, .int l1]) (vst (a := 22) (b := 2) (c := 2) (rest := [.int 1, .int l1, .ref 6]) (vs := [.int l1]) rfl ⟨Nat.le_of_ble_eq_true rfl, Nat.le_of_ble_eq_true rfl⟩ rfl rfl (sg_6 hs)) ((t_X2_powersOf (d := 0) (sg_6 hs) rfl (sg_y0 hs) (sg_l0 hs)).mono (by omega) (fun _ _ z => z)) ?_
      rintro _ h0 ⟨rfl, e0⟩
      rw [e0]
      show Ex d [] tb_X2_multiplied (120, [some (.ref 6), some (.int l1), some (.int l2), some (.int l3), some (.int l4), some (.int l5)], [.int (pw h10 y l1), .int 1, .int l1, .ref 6]) h10 _
      refine Ex.cal (rest := []) (j := m_X2_draftPowers) (as := [.ref 6, .int l1, .int 1, .int (pw h10 y l1)]) (vst (a := 42) (b := 4) (c := 2) (rest := []) (vs := [.int l1, .int 1, .int (pw h10 y l1)]) rfl ⟨Nat.le_of_ble_eq_true rfl, Nat.le_of_ble_eq_true rfl⟩ rfl rfl (sg_6 hs)) (H.imp ?_)
      intro rv h12 H
      obtain ⟨rfl, H⟩ := H
      obtain ⟨hs, H⟩ := H
      show Ex d [] tb_X2_multiplied (123, [some (.ref 6), some (.int l1), some (.int l2), some (.int l3), some (.int l4), some (.int l5)], []) h12 _
      refine Ex.pure 1 (fr2 := (150, [some (.ref 6), some (.int l1), some (.int l2), some (.int l3), some (.int l4), some (.int l5)], [])) rfl ?_
      exact H
theorem w_X2_multiplied_150 {d : Nat} {h : XH} {y : Nat → Nat} {K : XK} {E : XE} {l1 : Int32} {l2 : Int32} {l3 : Int32} {l4 : Int32} {l5 : Int32} (hd : 20 ≤ d) (hs : Sg h.1 y) (H : b_X2_multiplied_71 d 6 l1 l2 l3 l4 (l5 + 1) h K E) : b_X2_multiplied_150 d 6 l1 l2 l3 l4 l5 h K E := by
  show Ex d [] tb_X2_multiplied (150, [some (.ref 6), some (.int l1), some (.int l2), some (.int l3), some (.int l4), some (.int l5)], []) h _
  refine Ex.pure 2 (fr2 := (71, [some (.ref 6), some (.int l1), some (.int l2), some (.int l3), some (.int l4), some (.int (l5 + 1))], [])) rfl ?_
  exact H
def b_X2_naturallyAdded_12 (d : Nat) (r_0 : Nat) (l1 : Int32) (l2 : Int32) (l3 : Int32) (l4 : Int32) (u5 : Option Value) (u6 : Option Value) (u7 : Option Value) (h : XH) (K : XK) (E : XE) : Prop := Ex d [] tb_X2_naturallyAdded (12, [some (.ref r_0), some (.int l1), some (.int l2), some (.int l3), some (.int l4), u5, u6, u7], []) h (Po K E)
def b_X2_naturallyAdded_80 (d : Nat) (r_0 : Nat) (l1 : Int32) (l2 : Int32) (u3 : Option Value) (l4 : Int32) (l5 : Int32) (l6 : Int32) (u7 : Option Value) (h : XH) (K : XK) (E : XE) : Prop := Ex d [] tb_X2_naturallyAdded (80, [some (.ref r_0), some (.int l1), some (.int l2), u3, some (.int l4), some (.int l5), some (.int l6), u7], []) h (Po K E)
def b_X2_naturallyAdded_81 (d : Nat) (r_0 : Nat) (l1 : Int32) (l2 : Int32) (u3 : Option Value) (l4 : Int32) (l5 : Int32) (l6 : Int32) (u7 : Option Value) (s0 : Int32) (h : XH) (K : XK) (E : XE) : Prop := Ex d [] tb_X2_naturallyAdded (81, [some (.ref r_0), some (.int l1), some (.int l2), u3, some (.int l4), some (.int l5), some (.int l6), u7], [.int s0]) h (Po K E)
def b_X2_naturallyAdded_111 (d : Nat) (r_0 : Nat) (l1 : Int32) (l2 : Int32) (u3 : Option Value) (l4 : Int32) (l5 : Int32) (l6 : Int32) (l7 : Int32) (s0 : Int32) (s1 : Int64) (r_10 : Nat) (h : XH) (K : XK) (E : XE) : Prop := Ex d [] tb_X2_naturallyAdded (111, [some (.ref r_0), some (.int l1), some (.int l2), u3, some (.int l4), some (.int l5), some (.int l6), some (.int l7)], [.int s0, .long s1, .ref r_10]) h (Po K E)
def b_X2_naturallyAdded_132 (d : Nat) (r_0 : Nat) (l1 : Int32) (l2 : Int32) (u3 : Option Value) (l4 : Int32) (u5 : Option Value) (u6 : Option Value) (u7 : Option Value) (s0 : Int32) (h : XH) (K : XK) (E : XE) : Prop := Ex d [] tb_X2_naturallyAdded (132, [some (.ref r_0), some (.int l1), some (.int l2), u3, some (.int l4), u5, u6, u7], [.int s0]) h (Po K E)
theorem w_X2_naturallyAdded {d : Nat} {h : XH} {y : Nat → Nat} {K : XK} {E : XE} {a : Int32} {b : Int32} (hd : 20 ≤ d) (hs : Sg h.1 y) (H : (∀ h1 : XH, h1 = (x_setI h 11 2 0) → b_X2_naturallyAdded_12 d 6 a b 0 0 none none none h1 K E)) : Ca (d + 1) m_X2_naturallyAdded [.ref 6, .int a, .int b] h K E := by
  refine Ca.of ⟨by show 3 ≤ 8; omega, rfl⟩ ?_
  show Ex d [] tb_X2_naturallyAdded (0, [some (.ref 6), some (.int a), some (.int b), none, none, none, none, none], []) h _
  refine Ex.pure 1 (fr2 := (1, [some (.ref 6), some (.int a), some (.int b), none, none, none, none, none], [.ref 6])) rfl ?_
  refine Ex.getQ rfl (sg_6 hs) rfl ?_
  refine Ex.ask (rest := []) (j := m_X0_restart) (as := [.ref 11]) (vst (a := 4) (b := 1) (c := 0) (rest := []) (vs := []) rfl ⟨Nat.le_of_ble_eq_true rfl, Nat.le_of_ble_eq_true rfl⟩ rfl rfl (sg_11 hs)) ((t_X0_restart (d := 0) (sg_11 hs)).mono (by omega) (fun _ _ z => z)) ?_
  rintro _ h1 ⟨rfl, e1⟩
  replace H := H h1 e1
  replace hs : Sg h1.1 y := by rw [e1]; exact hs
  show Ex d [] tb_X2_naturallyAdded (7, [some (.ref 6), some (.int a), some (.int b), none, none, none, none, none], []) h1 _
  refine Ex.pure 4 (fr2 := (12, [some (.ref 6), some (.int a), some (.int b), some (.int 0), some (.int 0), none, none, none], [])) rfl ?_
  exact H
theorem w_X2_naturallyAdded_12 {d : Nat} {h : XH} {y : Nat → Nat} {K : XK} {E : XE} {l1 : Int32} {l2 : Int32} {l3 : Int32} {l4 : Int32} {u5 : Option Value} {u6 : Option Value} {u7 : Option Value} (hd : 20 ≤ d) (hs : Sg h.1 y) (H : ((pw h y l2) ≤ l4 → (Ca d m_X2_draftPowers [.ref 6, .int l1, .int l3, .int (pw h y l1)] h (fun rv h3 => rv = none ∧ Sg h3.1 y ∧ (Ca d m_X2_made [.ref 6, .ref 11] h3 (fun rv h5 => ∃ x6, rv = some (.int x6) ∧ ∃ y7 : Nat → Nat, Sg h5.1 y7 ∧ K (some (.int x6)) h5) E)) E)) ∧ (¬ ((pw h y l2) ≤ l4) → (Ca d m_X2_powersAbove [.ref 6, .int l1, .int l3, .int (xp h y l2 l4)] h (fun rv h9 => ∃ x10, rv = some (.int x10) ∧ Sg h9.1 y ∧ (Ca d m_X2_draftPowers [.ref 6, .int l1, .int l3, .int x10] h9 (fun rv h11 => rv = none ∧ Sg h11.1 y ∧ ((pw h11 y l1) ≤ x10 → b_X2_naturallyAdded_80 d 6 l1 l2 (some (.int l3)) l4 (xp h y l2 l4) x10 (u7) h11 K E) ∧ (¬ ((pw h11 y l1) ≤ x10) → (Ca d m_X2_order [.ref 6, .int (xp h11 y l1 x10), .int (xp h y l2 l4), .int 5] h11 (fun rv h15 => ∃ x16, rv = some (.int x16) ∧ Sg h15.1 y ∧ (¬ x16 = 0 → b_X2_naturallyAdded_80 d 6 l1 l2 (some (.int l3)) l4 (xp h y l2 l4) x10 (u7) h15 K E) ∧ (¬ (¬ x16 = 0) → b_X2_naturallyAdded_81 d 6 l1 l2 (some (.int l3)) l4 (xp h y l2 l4) x10 (u7) 1 h15 K E)) E))) E)) E))) : b_X2_naturallyAdded_12 d 6 l1 l2 l3 l4 u5 u6 u7 h K E := by
  show Ex d [] tb_X2_naturallyAdded (12, [some (.ref 6), some (.int l1), some (.int l2), some (.int l3), some (.int l4), u5, u6, u7], []) h _
  refine Ex.pure 3 (fr2 := (16, [some (.ref 6), some (.int l1), some (.int l2), some (.int l3), some (.int l4), u5, u6, u7], [.int l2, .ref 6, .int l4])) rfl ?_
  refine Ex.ask (rest := [.int l4]) (j := m_X2_powersOf) (as := [.ref 6, .int l2]) (vst (a := 22) (b := 2) (c := 2) (rest := [.int l4]) (vs := [.int l2]) rfl ⟨Nat.le_of_ble_eq_true rfl, Nat.le_of_ble_eq_true rfl⟩ rfl rfl (sg_6 hs)) ((t_X2_powersOf (d := 0) (sg_6 hs) rfl (sg_y0 hs) (sg_l0 hs)).mono (by omega) (fun _ _ z => z)) ?_
  rintro _ h0 ⟨rfl, e0⟩
  rw [e0]
  show Ex d [] tb_X2_naturallyAdded (19, [some (.ref 6), some (.int l1), some (.int l2), some (.int l3), some (.int l4), u5, u6, u7], [.int (pw h y l2), .int l4]) h _
  refine Ex.br (x := (139, [some (.ref 6), some (.int l1), some (.int l2), some (.int l3), some (.int l4), u5, u6, u7], [])) (y := (22, [some (.ref 6), some (.int l1), some (.int l2), some (.int l3), some (.int l4), u5, u6, u7], [])) (b := (pw h y l2) ≤ l4) rfl (fun hb => ?_) (fun hb => ?_)
  · replace H := H.1 (hb)
    refine Ex.pure 5 (fr2 := (144, [some (.ref 6), some (.int l1), some (.int l2), some (.int l3), some (.int l4), u5, u6, u7], [.int l1, .ref 6, .int l3, .int l1, .ref 6])) rfl ?_
    refine Ex.ask (rest := [.int l3, .int l1, .ref 6]) (j := m_X2_powersOf) (as := [.ref 6, .int l1]) (vst (a := 22) (b := 2) (c := 2) (rest := [.int l3, .int l1, .ref 6]) (vs := [.int l1]) rfl ⟨Nat.le_of_ble_eq_true rfl, Nat.le_of_ble_eq_true rfl⟩ rfl rfl (sg_6 hs)) ((t_X2_powersOf (d := 0) (sg_6 hs) rfl (sg_y0 hs) (sg_l0 hs)).mono (by omega) (fun _ _ z => z)) ?_
    rintro _ h0 ⟨rfl, e0⟩
    rw [e0]
    show Ex d [] tb_X2_naturallyAdded (147, [some (.ref 6), some (.int l1), some (.int l2), some (.int l3), some (.int l4), u5, u6, u7], [.int (pw h y l1), .int l3, .int l1, .ref 6]) h _
    refine Ex.cal (rest := []) (j := m_X2_draftPowers) (as := [.ref 6, .int l1, .int l3, .int (pw h y l1)]) (vst (a := 42) (b := 4) (c := 2) (rest := []) (vs := [.int l1, .int l3, .int (pw h y l1)]) rfl ⟨Nat.le_of_ble_eq_true rfl, Nat.le_of_ble_eq_true rfl⟩ rfl rfl (sg_6 hs)) (H.imp ?_)
    intro rv h3 H
    obtain ⟨rfl, H⟩ := H
    obtain ⟨hs, H⟩ := H
    show Ex d [] tb_X2_naturallyAdded (150, [some (.ref 6), some (.int l1), some (.int l2), some (.int l3), some (.int l4), u5, u6, u7], []) h3 _
    refine Ex.pure 2 (fr2 := (152, [some (.ref 6), some (.int l1), some (.int l2), some (.int l3), some (.int l4), u5, u6, u7], [.ref 6, .ref 6])) rfl ?_
    refine Ex.getQ rfl (sg_6 hs) rfl ?_
    refine Ex.cal (rest := []) (j := m_X2_made) (as := [.ref 6, .ref 11]) (vst (a := 43) (b := 2) (c := 2) (rest := []) (vs := [.ref 11]) rfl ⟨Nat.le_of_ble_eq_true rfl, Nat.le_of_ble_eq_true rfl⟩ rfl rfl (sg_6 hs)) (H.imp ?_)
    intro rv h5 H
    obtain ⟨x6, rfl, H⟩ := H
    obtain ⟨y7, hs, H⟩ := H
    show Ex d [] tb_X2_naturallyAdded (158, [some (.ref 6), some (.int l1), some (.int l2), some (.int l3), some (.int l4), u5, u6, u7], [.int x6]) h5 _
    exact Ex.iret rfl (Or.inl rfl) H
  · replace H := H.2 (hb)
    refine Ex.pure 3 (fr2 := (26, [some (.ref 6), some (.int l1), some (.int l2), some (.int l3), some (.int l4), u5, u6, u7], [.int l4, .int l2, .ref 6])) rfl ?_
    refine Ex.ask (rest := []) (j := m_X2_exponentOf) (as := [.ref 6, .int l2, .int l4]) (vst (a := 24) (b := 3) (c := 2) (rest := []) (vs := [.int l2, .int l4]) rfl ⟨Nat.le_of_ble_eq_true rfl, Nat.le_of_ble_eq_true rfl⟩ rfl rfl (sg_6 hs)) ((t_X2_exponentOf (d := 0) (sg_6 hs) rfl rfl (sg_y0 hs) (sg_l0 hs) (sg_y3 hs) (sg_l3 hs)).mono (by omega) (fun _ _ z => z)) ?_
    rintro _ h0 ⟨rfl, e0⟩
    rw [e0]
    show Ex d [] tb_X2_naturallyAdded (29, [some (.ref 6), some (.int l1), some (.int l2), some (.int l3), some (.int l4), u5, u6, u7], [.int (xp h y l2 l4)]) h _
    refine Ex.pure 5 (fr2 := (36, [some (.ref 6), some (.int l1), some (.int l2), some (.int l3), some (.int l4), some (.int (xp h y l2 l4)), u6, u7], [.int (xp h y l2 l4), .int l3, .int l1, .ref 6])) rfl ?_
    refine Ex.cal (rest := []) (j := m_X2_powersAbove) (as := [.ref 6, .int l1, .int l3, .int (xp h y l2 l4)]) (vst (a := 40) (b := 4) (c := 2) (rest := []) (vs := [.int l1, .int l3, .int (xp h y l2 l4)]) rfl ⟨Nat.le_of_ble_eq_true rfl, Nat.le_of_ble_eq_true rfl⟩ rfl rfl (sg_6 hs)) (H.imp ?_)
    intro rv h9 H
    obtain ⟨x10, rfl, H⟩ := H
    obtain ⟨hs, H⟩ := H
    show Ex d [] tb_X2_naturallyAdded (39, [some (.ref 6), some (.int l1), some (.int l2), some (.int l3), some (.int l4), some (.int (xp h y l2 l4)), u6, u7], [.int x10]) h9 _
    refine Ex.pure 5 (fr2 := (46, [some (.ref 6), some (.int l1), some (.int l2), some (.int l3), some (.int l4), some (.int (xp h y l2 l4)), some (.int x10), u7], [.int x10, .int l3, .int l1, .ref 6])) rfl ?_
    refine Ex.cal (rest := []) (j := m_X2_draftPowers) (as := [.ref 6, .int l1, .int l3, .int x10]) (vst (a := 42) (b := 4) (c := 2) (rest := []) (vs := [.int l1, .int l3, .int x10]) rfl ⟨Nat.le_of_ble_eq_true rfl, Nat.le_of_ble_eq_true rfl⟩ rfl rfl (sg_6 hs)) (H.imp ?_)
    intro rv h11 H
    obtain ⟨rfl, H⟩ := H
    obtain ⟨hs, H⟩ := H
    show Ex d [] tb_X2_naturallyAdded (49, [some (.ref 6), some (.int l1), some (.int l2), some (.int l3), some (.int l4), some (.int (xp h y l2 l4)), some (.int x10), u7], []) h11 _
    refine Ex.pure 3 (fr2 := (53, [some (.ref 6), some (.int l1), some (.int l2), some (.int l3), some (.int l4), some (.int (xp h y l2 l4)), some (.int x10), u7], [.int l1, .ref 6, .int x10])) rfl ?_
    refine Ex.ask (rest := [.int x10]) (j := m_X2_powersOf) (as := [.ref 6, .int l1]) (vst (a := 22) (b := 2) (c := 2) (rest := [.int x10]) (vs := [.int l1]) rfl ⟨Nat.le_of_ble_eq_true rfl, Nat.le_of_ble_eq_true rfl⟩ rfl rfl (sg_6 hs)) ((t_X2_powersOf (d := 0) (sg_6 hs) rfl (sg_y0 hs) (sg_l0 hs)).mono (by omega) (fun _ _ z => z)) ?_
    rintro _ h0 ⟨rfl, e0⟩
    rw [e0]
    show Ex d [] tb_X2_naturallyAdded (56, [some (.ref 6), some (.int l1), some (.int l2), some (.int l3), some (.int l4), some (.int (xp h y l2 l4)), some (.int x10), u7], [.int (pw h11 y l1), .int x10]) h11 _
    refine Ex.br (x := (80, [some (.ref 6), some (.int l1), some (.int l2), some (.int l3), some (.int l4), some (.int (xp h y l2 l4)), some (.int x10), u7], [])) (y := (59, [some (.ref 6), some (.int l1), some (.int l2), some (.int l3), some (.int l4), some (.int (xp h y l2 l4)), some (.int x10), u7], [])) (b := (pw h11 y l1) ≤ x10) rfl (fun hb => ?_) (fun hb => ?_)
    · replace H := H.1 (hb)
      exact H
    · replace H := H.2 (hb)
      refine Ex.pure 4 (fr2 := (64, [some (.ref 6), some (.int l1), some (.int l2), some (.int l3), some (.int l4), some (.int (xp h y l2 l4)), some (.int x10), u7], [.int x10, .int l1, .ref 6, .ref 6])) rfl ?_
      refine Ex.ask (rest := [.ref 6]) (j := m_X2_exponentOf) (as := [.ref 6, .int l1, .int x10]) (vst (a := 24) (b := 3) (c := 2) (rest := [.ref 6]) (vs := [.int l1, .int x10]) rfl ⟨Nat.le_of_ble_eq_true rfl, Nat.le_of_ble_eq_true rfl⟩ rfl rfl (sg_6 hs)) ((t_X2_exponentOf (d := 0) (sg_6 hs) rfl rfl (sg_y0 hs) (sg_l0 hs) (sg_y3 hs) (sg_l3 hs)).mono (by omega) (fun _ _ z => z)) ?_
      rintro _ h0 ⟨rfl, e0⟩
      rw [e0]
      show Ex d [] tb_X2_naturallyAdded (67, [some (.ref 6), some (.int l1), some (.int l2), some (.int l3), some (.int l4), some (.int (xp h y l2 l4)), some (.int x10), u7], [.int (xp h11 y l1 x10), .ref 6]) h11 _
      refine Ex.pure 2 (fr2 := (70, [some (.ref 6), some (.int l1), some (.int l2), some (.int l3), some (.int l4), some (.int (xp h y l2 l4)), some (.int x10), u7], [.int 5, .int (xp h y l2 l4), .int (xp h11 y l1 x10), .ref 6])) rfl ?_
      refine Ex.cal (rest := []) (j := m_X2_order) (as := [.ref 6, .int (xp h11 y l1 x10), .int (xp h y l2 l4), .int 5]) (vst (a := 34) (b := 4) (c := 2) (rest := []) (vs := [.int (xp h11 y l1 x10), .int (xp h y l2 l4), .int 5]) rfl ⟨Nat.le_of_ble_eq_true rfl, Nat.le_of_ble_eq_true rfl⟩ rfl rfl (sg_6 hs)) (H.imp ?_)
      intro rv h15 H
      obtain ⟨x16, rfl, H⟩ := H
      obtain ⟨hs, H⟩ := H
      show Ex d [] tb_X2_naturallyAdded (73, [some (.ref 6), some (.int l1), some (.int l2), some (.int l3), some (.int l4), some (.int (xp h y l2 l4)), some (.int x10), u7], [.int x16]) h15 _
      refine Ex.br (x := (80, [some (.ref 6), some (.int l1), some (.int l2), some (.int l3), some (.int l4), some (.int (xp h y l2 l4)), some (.int x10), u7], [])) (y := (76, [some (.ref 6), some (.int l1), some (.int l2), some (.int l3), some (.int l4), some (.int (xp h y l2 l4)), some (.int x10), u7], [])) (b := ¬ x16 = 0) rfl (fun hb => ?_) (fun hb => ?_)
      · replace H := H.1 (hb)
        exact H
      · replace H := H.2 (hb)
        refine Ex.pure 2 (fr2 := (81, [some (.ref 6), some (.int l1), some (.int l2), some (.int l3), some (.int l4), some (.int (xp h y l2 l4)), some (.int x10), u7], [.int 1])) rfl ?_
        exact H
theorem w_X2_naturallyAdded_80 {d : Nat} {h : XH} {y : Nat → Nat} {K : XK} {E : XE} {l1 : Int32} {l2 : Int32} {u3 : Option Value} {l4 : Int32} {l5 : Int32} {l6 : Int32} {u7 : Option Value} (hd : 20 ≤ d) (hs : Sg h.1 y) (H : b_X2_naturallyAdded_81 d 6 l1 l2 (u3) l4 l5 l6 (u7) 0 h K E) : b_X2_naturallyAdded_80 d 6 l1 l2 u3 l4 l5 l6 u7 h K E := by
  show Ex d [] tb_X2_naturallyAdded (80, [some (.ref 6), some (.int l1), some (.int l2), u3, some (.int l4), some (.int l5), some (.int l6), u7], []) h _
  refine Ex.pure 1 (fr2 := (81, [some (.ref 6), some (.int l1), some (.int l2), u3, some (.int l4), some (.int l5), some (.int l6), u7], [.int 0])) rfl ?_
  exact H
theorem w_X2_naturallyAdded_81 {d : Nat} {h : XH} {y : Nat → Nat} {K : XK} {E : XE} {l1 : Int32} {l2 : Int32} {u3 : Option Value} {l4 : Int32} {l5 : Int32} {l6 : Int32} {u7 : Option Value} {s0 : Int32} (hd : 20 ≤ d) (hs : Sg h.1 y) (H : (s0 = 0 → b_X2_naturallyAdded_111 d 6 l1 l2 (u3) l4 l5 l6 s0 0 (((tm h y l2 l4) : Int32).toInt64) 11 h K E) ∧ (¬ (s0 = 0) → b_X2_naturallyAdded_111 d 6 l1 l2 (u3) l4 l5 l6 s0 (tm h y l1 l6) (((tm h y l2 l4) : Int32).toInt64) 11 h K E)) : b_X2_naturallyAdded_81 d 6 l1 l2 u3 l4 l5 l6 u7 s0 h K E := by
  show Ex d [] tb_X2_naturallyAdded (81, [some (.ref 6), some (.int l1), some (.int l2), u3, some (.int l4), some (.int l5), some (.int l6), u7], [.int s0]) h _
  refine Ex.pure 2 (fr2 := (84, [some (.ref 6), some (.int l1), some (.int l2), u3, some (.int l4), some (.int l5), some (.int l6), some (.int s0)], [.ref 6])) rfl ?_
  refine Ex.getQ rfl (sg_6 hs) rfl ?_
  refine Ex.pure 3 (fr2 := (91, [some (.ref 6), some (.int l1), some (.int l2), u3, some (.int l4), some (.int l5), some (.int l6), some (.int s0)], [.int l4, .int l2, .ref 6, .ref 11])) rfl ?_
  refine Ex.ask (rest := [.ref 11]) (j := m_X2_timesOf) (as := [.ref 6, .int l2, .int l4]) (vst (a := 23) (b := 3) (c := 2) (rest := [.ref 11]) (vs := [.int l2, .int l4]) rfl ⟨Nat.le_of_ble_eq_true rfl, Nat.le_of_ble_eq_true rfl⟩ rfl rfl (sg_6 hs)) ((t_X2_timesOf (d := 0) (sg_6 hs) rfl rfl (sg_y0 hs) (sg_l0 hs) (sg_y2 hs) (sg_l2 hs)).mono (by omega) (fun _ _ z => z)) ?_
  rintro _ h0 ⟨rfl, e0⟩
  rw [e0]
  show Ex d [] tb_X2_naturallyAdded (94, [some (.ref 6), some (.int l1), some (.int l2), u3, some (.int l4), some (.int l5), some (.int l6), some (.int s0)], [.int (tm h y l2 l4), .ref 11]) h _
  refine Ex.pure 2 (fr2 := (97, [some (.ref 6), some (.int l1), some (.int l2), u3, some (.int l4), some (.int l5), some (.int l6), some (.int s0)], [.int s0, .long (((tm h y l2 l4) : Int32).toInt64), .ref 11])) rfl ?_
  refine Ex.br (x := (110, [some (.ref 6), some (.int l1), some (.int l2), u3, some (.int l4), some (.int l5), some (.int l6), some (.int s0)], [.long (((tm h y l2 l4) : Int32).toInt64), .ref 11])) (y := (100, [some (.ref 6), some (.int l1), some (.int l2), u3, some (.int l4), some (.int l5), some (.int l6), some (.int s0)], [.long (((tm h y l2 l4) : Int32).toInt64), .ref 11])) (b := s0 = 0) rfl (fun hb => ?_) (fun hb => ?_)
  · replace H := H.1 (hb)
    refine Ex.pure 1 (fr2 := (111, [some (.ref 6), some (.int l1), some (.int l2), u3, some (.int l4), some (.int l5), some (.int l6), some (.int s0)], [.int 0, .long (((tm h y l2 l4) : Int32).toInt64), .ref 11])) rfl ?_
    exact H
  · replace H := H.2 (hb)
    refine Ex.pure 3 (fr2 := (104, [some (.ref 6), some (.int l1), some (.int l2), u3, some (.int l4), some (.int l5), some (.int l6), some (.int s0)], [.int l6, .int l1, .ref 6, .long (((tm h y l2 l4) : Int32).toInt64), .ref 11])) rfl ?_
    refine Ex.ask (rest := [.long (((tm h y l2 l4) : Int32).toInt64), .ref 11]) (j := m_X2_timesOf) (as := [.ref 6, .int l1, .int l6]) (vst (a := 23) (b := 3) (c := 2) (rest := [.long (((tm h y l2 l4) : Int32).toInt64), .ref 11]) (vs := [.int l1, .int l6]) rfl ⟨Nat.le_of_ble_eq_true rfl, Nat.le_of_ble_eq_true rfl⟩ rfl rfl (sg_6 hs)) ((t_X2_timesOf (d := 0) (sg_6 hs) rfl rfl (sg_y0 hs) (sg_l0 hs) (sg_y2 hs) (sg_l2 hs)).mono (by omega) (fun _ _ z => z)) ?_
    rintro _ h0 ⟨rfl, e0⟩
    rw [e0]
    show Ex d [] tb_X2_naturallyAdded (107, [some (.ref 6), some (.int l1), some (.int l2), u3, some (.int l4), some (.int l5), some (.int l6), some (.int s0)], [.int (tm h y l1 l6), .long (((tm h y l2 l4) : Int32).toInt64), .ref 11]) h _
    refine Ex.pure 1 (fr2 := (111, [some (.ref 6), some (.int l1), some (.int l2), u3, some (.int l4), some (.int l5), some (.int l6), some (.int s0)], [.int (tm h y l1 l6), .long (((tm h y l2 l4) : Int32).toInt64), .ref 11])) rfl ?_
    exact H
theorem w_X2_naturallyAdded_111 {d : Nat} {h : XH} {y : Nat → Nat} {K : XK} {E : XE} {l1 : Int32} {l2 : Int32} {u3 : Option Value} {l4 : Int32} {l5 : Int32} {l6 : Int32} {l7 : Int32} {s0 : Int32} {s1 : Int64} (hd : 20 ≤ d) (hs : Sg h.1 y) (H : (∀ h1 : XH, h1 = (a_Dr h 11 (11 + 1) (11 + 2) 64 (s1 + (s0 : Int32).toInt64) l5) → (l7 = 0 → b_X2_naturallyAdded_132 d 6 l1 l2 (u3) l4 (some (.int l5)) (some (.int l6)) (some (.int l7)) l6 h1 K E) ∧ (¬ (l7 = 0) → b_X2_naturallyAdded_132 d 6 l1 l2 (u3) l4 (some (.int l5)) (some (.int l6)) (some (.int l7)) (l6 + 1) h1 K E))) : b_X2_naturallyAdded_111 d 6 l1 l2 u3 l4 l5 l6 l7 s0 s1 11 h K E := by
  show Ex d [] tb_X2_naturallyAdded (111, [some (.ref 6), some (.int l1), some (.int l2), u3, some (.int l4), some (.int l5), some (.int l6), some (.int l7)], [.int s0, .long s1, .ref 11]) h _
  refine Ex.pure 3 (fr2 := (115, [some (.ref 6), some (.int l1), some (.int l2), u3, some (.int l4), some (.int l5), some (.int l6), some (.int l7)], [.int l5, .long (s1 + (s0 : Int32).toInt64), .ref 11])) rfl ?_
  refine Ex.ask (rest := []) (j := m_X0_add) (as := [.ref 11, .long (s1 + (s0 : Int32).toInt64), .int l5]) (vst (a := 5) (b := 3) (c := 0) (rest := []) (vs := [.long (s1 + (s0 : Int32).toInt64), .int l5]) rfl ⟨Nat.le_of_ble_eq_true rfl, Nat.le_of_ble_eq_true rfl⟩ rfl rfl (sg_11 hs)) ((t_X0_add (d := 0) (sg_D11 hs).1 rfl rfl (sg_D11 hs).2.1 (sg_D11 hs).2.2 (by omega) (by omega)).mono (by omega) (fun _ _ z => z)) ?_
  rintro _ h1 ⟨rfl, e1⟩
  replace H := H h1 e1
  replace hs : Sg h1.1 y := by rw [e1, a_Dr_sh]; exact hs
  show Ex d [] tb_X2_naturallyAdded (118, [some (.ref 6), some (.int l1), some (.int l2), u3, some (.int l4), some (.int l5), some (.int l6), some (.int l7)], []) h1 _
  refine Ex.pure 1 (fr2 := (120, [some (.ref 6), some (.int l1), some (.int l2), u3, some (.int l4), some (.int l5), some (.int l6), some (.int l7)], [.int l7])) rfl ?_
  refine Ex.br (x := (130, [some (.ref 6), some (.int l1), some (.int l2), u3, some (.int l4), some (.int l5), some (.int l6), some (.int l7)], [])) (y := (123, [some (.ref 6), some (.int l1), some (.int l2), u3, some (.int l4), some (.int l5), some (.int l6), some (.int l7)], [])) (b := l7 = 0) rfl (fun hb => ?_) (fun hb => ?_)
  · replace H := H.1 (hb)
    refine Ex.pure 1 (fr2 := (132, [some (.ref 6), some (.int l1), some (.int l2), u3, some (.int l4), some (.int l5), some (.int l6), some (.int l7)], [.int l6])) rfl ?_
    exact H
  · replace H := H.2 (hb)
    refine Ex.pure 4 (fr2 := (132, [some (.ref 6), some (.int l1), some (.int l2), u3, some (.int l4), some (.int l5), some (.int l6), some (.int l7)], [.int (l6 + 1)])) rfl ?_
    exact H
theorem w_X2_naturallyAdded_132 {d : Nat} {h : XH} {y : Nat → Nat} {K : XK} {E : XE} {l1 : Int32} {l2 : Int32} {u3 : Option Value} {l4 : Int32} {u5 : Option Value} {u6 : Option Value} {u7 : Option Value} {s0 : Int32} (hd : 20 ≤ d) (hs : Sg h.1 y) (H : b_X2_naturallyAdded_12 d 6 l1 l2 s0 (l4 + 1) (u5) (u6) (u7) h K E) : b_X2_naturallyAdded_132 d 6 l1 l2 u3 l4 u5 u6 u7 s0 h K E := by
  show Ex d [] tb_X2_naturallyAdded (132, [some (.ref 6), some (.int l1), some (.int l2), u3, some (.int l4), u5, u6, u7], [.int s0]) h _
  refine Ex.pure 3 (fr2 := (12, [some (.ref 6), some (.int l1), some (.int l2), some (.int s0), some (.int (l4 + 1)), u5, u6, u7], [])) rfl ?_
  exact H
def b_X2_naturallyMultiplied_9 (d : Nat) (r_0 : Nat) (l1 : Int32) (l2 : Int32) (l3 : Int32) (u4 : Option Value) (h : XH) (K : XK) (E : XE) : Prop := Ex d [] tb_X2_naturallyMultiplied (9, [some (.ref r_0), some (.int l1), some (.int l2), some (.int l3), u4], []) h (Po K E)
def b_X2_naturallyMultiplied_21 (d : Nat) (r_0 : Nat) (l1 : Int32) (l2 : Int32) (l3 : Int32) (l4 : Int32) (h : XH) (K : XK) (E : XE) : Prop := Ex d [] tb_X2_naturallyMultiplied (21, [some (.ref r_0), some (.int l1), some (.int l2), some (.int l3), some (.int l4)], []) h (Po K E)
theorem w_X2_naturallyMultiplied {d : Nat} {h : XH} {y : Nat → Nat} {K : XK} {E : XE} {a : Int32} {b : Int32} (hd : 20 ≤ d) (hs : Sg h.1 y) (H : (∀ h1 : XH, h1 = (x_setI h 14 2 0) → b_X2_naturallyMultiplied_9 d 6 a b 0 none h1 K E)) : Ca (d + 1) m_X2_naturallyMultiplied [.ref 6, .int a, .int b] h K E := by
  refine Ca.of ⟨by show 3 ≤ 5; omega, rfl⟩ ?_
  show Ex d [] tb_X2_naturallyMultiplied (0, [some (.ref 6), some (.int a), some (.int b), none, none], []) h _
  refine Ex.pure 1 (fr2 := (1, [some (.ref 6), some (.int a), some (.int b), none, none], [.ref 6])) rfl ?_
  refine Ex.getQ rfl (sg_6 hs) rfl ?_
  refine Ex.ask (rest := []) (j := m_X0_restart) (as := [.ref 14]) (vst (a := 4) (b := 1) (c := 0) (rest := []) (vs := []) rfl ⟨Nat.le_of_ble_eq_true rfl, Nat.le_of_ble_eq_true rfl⟩ rfl rfl (sg_14 hs)) ((t_X0_restart (d := 0) (sg_14 hs)).mono (by omega) (fun _ _ z => z)) ?_
  rintro _ h1 ⟨rfl, e1⟩
  replace H := H h1 e1
  replace hs : Sg h1.1 y := by rw [e1]; exact hs
  show Ex d [] tb_X2_naturallyMultiplied (7, [some (.ref 6), some (.int a), some (.int b), none, none], []) h1 _
  refine Ex.pure 2 (fr2 := (9, [some (.ref 6), some (.int a), some (.int b), some (.int 0), none], [])) rfl ?_
  exact H
theorem w_X2_naturallyMultiplied_9 {d : Nat} {h : XH} {y : Nat → Nat} {K : XK} {E : XE} {l1 : Int32} {l2 : Int32} {l3 : Int32} {u4 : Option Value} (hd : 20 ≤ d) (hs : Sg h.1 y) (H : ((pw h y l1) ≤ l3 → (Ca d m_X2_made [.ref 6, .ref 14] h (fun rv h2 => ∃ x3, rv = some (.int x3) ∧ ∃ y4 : Nat → Nat, Sg h2.1 y4 ∧ K (some (.int x3)) h2) E)) ∧ (¬ ((pw h y l1) ≤ l3) → b_X2_naturallyMultiplied_21 d 6 l1 l2 l3 0 h K E)) : b_X2_naturallyMultiplied_9 d 6 l1 l2 l3 u4 h K E := by
  show Ex d [] tb_X2_naturallyMultiplied (9, [some (.ref 6), some (.int l1), some (.int l2), some (.int l3), u4], []) h _
  refine Ex.pure 3 (fr2 := (12, [some (.ref 6), some (.int l1), some (.int l2), some (.int l3), u4], [.int l1, .ref 6, .int l3])) rfl ?_
  refine Ex.ask (rest := [.int l3]) (j := m_X2_powersOf) (as := [.ref 6, .int l1]) (vst (a := 22) (b := 2) (c := 2) (rest := [.int l3]) (vs := [.int l1]) rfl ⟨Nat.le_of_ble_eq_true rfl, Nat.le_of_ble_eq_true rfl⟩ rfl rfl (sg_6 hs)) ((t_X2_powersOf (d := 0) (sg_6 hs) rfl (sg_y0 hs) (sg_l0 hs)).mono (by omega) (fun _ _ z => z)) ?_
  rintro _ h0 ⟨rfl, e0⟩
  rw [e0]
  show Ex d [] tb_X2_naturallyMultiplied (15, [some (.ref 6), some (.int l1), some (.int l2), some (.int l3), u4], [.int (pw h y l1), .int l3]) h _
  refine Ex.br (x := (76, [some (.ref 6), some (.int l1), some (.int l2), some (.int l3), u4], [])) (y := (18, [some (.ref 6), some (.int l1), some (.int l2), some (.int l3), u4], [])) (b := (pw h y l1) ≤ l3) rfl (fun hb => ?_) (fun hb => ?_)
  · replace H := H.1 (hb)
    refine Ex.pure 2 (fr2 := (78, [some (.ref 6), some (.int l1), some (.int l2), some (.int l3), u4], [.ref 6, .ref 6])) rfl ?_
    refine Ex.getQ rfl (sg_6 hs) rfl ?_
    refine Ex.cal (rest := []) (j := m_X2_made) (as := [.ref 6, .ref 14]) (vst (a := 43) (b := 2) (c := 2) (rest := []) (vs := [.ref 14]) rfl ⟨Nat.le_of_ble_eq_true rfl, Nat.le_of_ble_eq_true rfl⟩ rfl rfl (sg_6 hs)) (H.imp ?_)
    intro rv h2 H
    obtain ⟨x3, rfl, H⟩ := H
    obtain ⟨y4, hs, H⟩ := H
    show Ex d [] tb_X2_naturallyMultiplied (84, [some (.ref 6), some (.int l1), some (.int l2), some (.int l3), u4], [.int x3]) h2 _
    exact Ex.iret rfl (Or.inl rfl) H
  · replace H := H.2 (hb)
    refine Ex.pure 2 (fr2 := (21, [some (.ref 6), some (.int l1), some (.int l2), some (.int l3), some (.int 0)], [])) rfl ?_
    exact H
theorem w_X2_naturallyMultiplied_21 {d : Nat} {h : XH} {y : Nat → Nat} {K : XK} {E : XE} {l1 : Int32} {l2 : Int32} {l3 : Int32} {l4 : Int32} (hd : 20 ≤ d) (hs : Sg h.1 y) (H : ((pw h y l2) ≤ l4 → b_X2_naturallyMultiplied_9 d 6 l1 l2 (l3 + 1) (some (.int l4)) h K E) ∧ (¬ ((pw h y l2) ≤ l4) → (Ca d m_X2_addPair [.ref 6, .long (((tm h y l1 l3) : Int32).toInt64 * ((tm h y l2 l4) : Int32).toInt64), .int (xp h y l1 l3), .int (xp h y l2 l4)] h (fun rv h6 => rv = none ∧ ∃ y8 : Nat → Nat, Sg h6.1 y8 ∧ b_X2_naturallyMultiplied_21 d 6 l1 l2 l3 (l4 + 1) h6 K E) E))) : b_X2_naturallyMultiplied_21 d 6 l1 l2 l3 l4 h K E := by
  show Ex d [] tb_X2_naturallyMultiplied (21, [some (.ref 6), some (.int l1), some (.int l2), some (.int l3), some (.int l4)], []) h _
  refine Ex.pure 3 (fr2 := (25, [some (.ref 6), some (.int l1), some (.int l2), some (.int l3), some (.int l4)], [.int l2, .ref 6, .int l4])) rfl ?_
  refine Ex.ask (rest := [.int l4]) (j := m_X2_powersOf) (as := [.ref 6, .int l2]) (vst (a := 22) (b := 2) (c := 2) (rest := [.int l4]) (vs := [.int l2]) rfl ⟨Nat.le_of_ble_eq_true rfl, Nat.le_of_ble_eq_true rfl⟩ rfl rfl (sg_6 hs)) ((t_X2_powersOf (d := 0) (sg_6 hs) rfl (sg_y0 hs) (sg_l0 hs)).mono (by omega) (fun _ _ z => z)) ?_
  rintro _ h0 ⟨rfl, e0⟩
  rw [e0]
  show Ex d [] tb_X2_naturallyMultiplied (28, [some (.ref 6), some (.int l1), some (.int l2), some (.int l3), some (.int l4)], [.int (pw h y l2), .int l4]) h _
  refine Ex.br (x := (70, [some (.ref 6), some (.int l1), some (.int l2), some (.int l3), some (.int l4)], [])) (y := (31, [some (.ref 6), some (.int l1), some (.int l2), some (.int l3), some (.int l4)], [])) (b := (pw h y l2) ≤ l4) rfl (fun hb => ?_) (fun hb => ?_)
  · replace H := H.1 (hb)
    refine Ex.pure 2 (fr2 := (9, [some (.ref 6), some (.int l1), some (.int l2), some (.int (l3 + 1)), some (.int l4)], [])) rfl ?_
    exact H
  · replace H := H.2 (hb)
    refine Ex.pure 4 (fr2 := (35, [some (.ref 6), some (.int l1), some (.int l2), some (.int l3), some (.int l4)], [.int l3, .int l1, .ref 6, .ref 6])) rfl ?_
    refine Ex.ask (rest := [.ref 6]) (j := m_X2_timesOf) (as := [.ref 6, .int l1, .int l3]) (vst (a := 23) (b := 3) (c := 2) (rest := [.ref 6]) (vs := [.int l1, .int l3]) rfl ⟨Nat.le_of_ble_eq_true rfl, Nat.le_of_ble_eq_true rfl⟩ rfl rfl (sg_6 hs)) ((t_X2_timesOf (d := 0) (sg_6 hs) rfl rfl (sg_y0 hs) (sg_l0 hs) (sg_y2 hs) (sg_l2 hs)).mono (by omega) (fun _ _ z => z)) ?_
    rintro _ h0 ⟨rfl, e0⟩
    rw [e0]
    show Ex d [] tb_X2_naturallyMultiplied (38, [some (.ref 6), some (.int l1), some (.int l2), some (.int l3), some (.int l4)], [.int (tm h y l1 l3), .ref 6]) h _
    refine Ex.pure 4 (fr2 := (43, [some (.ref 6), some (.int l1), some (.int l2), some (.int l3), some (.int l4)], [.int l4, .int l2, .ref 6, .long (((tm h y l1 l3) : Int32).toInt64), .ref 6])) rfl ?_
    refine Ex.ask (rest := [.long (((tm h y l1 l3) : Int32).toInt64), .ref 6]) (j := m_X2_timesOf) (as := [.ref 6, .int l2, .int l4]) (vst (a := 23) (b := 3) (c := 2) (rest := [.long (((tm h y l1 l3) : Int32).toInt64), .ref 6]) (vs := [.int l2, .int l4]) rfl ⟨Nat.le_of_ble_eq_true rfl, Nat.le_of_ble_eq_true rfl⟩ rfl rfl (sg_6 hs)) ((t_X2_timesOf (d := 0) (sg_6 hs) rfl rfl (sg_y0 hs) (sg_l0 hs) (sg_y2 hs) (sg_l2 hs)).mono (by omega) (fun _ _ z => z)) ?_
    rintro _ h0 ⟨rfl, e0⟩
    rw [e0]
    show Ex d [] tb_X2_naturallyMultiplied (46, [some (.ref 6), some (.int l1), some (.int l2), some (.int l3), some (.int l4)], [.int (tm h y l2 l4), .long (((tm h y l1 l3) : Int32).toInt64), .ref 6]) h _
    refine Ex.pure 5 (fr2 := (51, [some (.ref 6), some (.int l1), some (.int l2), some (.int l3), some (.int l4)], [.int l3, .int l1, .ref 6, .long (((tm h y l1 l3) : Int32).toInt64 * ((tm h y l2 l4) : Int32).toInt64), .ref 6])) rfl ?_
    refine Ex.ask (rest := [.long (((tm h y l1 l3) : Int32).toInt64 * ((tm h y l2 l4) : Int32).toInt64), .ref 6]) (j := m_X2_exponentOf) (as := [.ref 6, .int l1, .int l3]) (vst (a := 24) (b := 3) (c := 2) (rest := [.long (((tm h y l1 l3) : Int32).toInt64 * ((tm h y l2 l4) : Int32).toInt64), .ref 6]) (vs := [.int l1, .int l3]) rfl ⟨Nat.le_of_ble_eq_true rfl, Nat.le_of_ble_eq_true rfl⟩ rfl rfl (sg_6 hs)) ((t_X2_exponentOf (d := 0) (sg_6 hs) rfl rfl (sg_y0 hs) (sg_l0 hs) (sg_y3 hs) (sg_l3 hs)).mono (by omega) (fun _ _ z => z)) ?_
    rintro _ h0 ⟨rfl, e0⟩
    rw [e0]
    show Ex d [] tb_X2_naturallyMultiplied (54, [some (.ref 6), some (.int l1), some (.int l2), some (.int l3), some (.int l4)], [.int (xp h y l1 l3), .long (((tm h y l1 l3) : Int32).toInt64 * ((tm h y l2 l4) : Int32).toInt64), .ref 6]) h _
    refine Ex.pure 3 (fr2 := (58, [some (.ref 6), some (.int l1), some (.int l2), some (.int l3), some (.int l4)], [.int l4, .int l2, .ref 6, .int (xp h y l1 l3), .long (((tm h y l1 l3) : Int32).toInt64 * ((tm h y l2 l4) : Int32).toInt64), .ref 6])) rfl ?_
    refine Ex.ask (rest := [.int (xp h y l1 l3), .long (((tm h y l1 l3) : Int32).toInt64 * ((tm h y l2 l4) : Int32).toInt64), .ref 6]) (j := m_X2_exponentOf) (as := [.ref 6, .int l2, .int l4]) (vst (a := 24) (b := 3) (c := 2) (rest := [.int (xp h y l1 l3), .long (((tm h y l1 l3) : Int32).toInt64 * ((tm h y l2 l4) : Int32).toInt64), .ref 6]) (vs := [.int l2, .int l4]) rfl ⟨Nat.le_of_ble_eq_true rfl, Nat.le_of_ble_eq_true rfl⟩ rfl rfl (sg_6 hs)) ((t_X2_exponentOf (d := 0) (sg_6 hs) rfl rfl (sg_y0 hs) (sg_l0 hs) (sg_y3 hs) (sg_l3 hs)).mono (by omega) (fun _ _ z => z)) ?_
    rintro _ h0 ⟨rfl, e0⟩
    rw [e0]
    show Ex d [] tb_X2_naturallyMultiplied (61, [some (.ref 6), some (.int l1), some (.int l2), some (.int l3), some (.int l4)], [.int (xp h y l2 l4), .int (xp h y l1 l3), .long (((tm h y l1 l3) : Int32).toInt64 * ((tm h y l2 l4) : Int32).toInt64), .ref 6]) h _
    refine Ex.cal (rest := []) (j := m_X2_addPair) (as := [.ref 6, .long (((tm h y l1 l3) : Int32).toInt64 * ((tm h y l2 l4) : Int32).toInt64), .int (xp h y l1 l3), .int (xp h y l2 l4)]) (vst (a := 32) (b := 4) (c := 2) (rest := []) (vs := [.long (((tm h y l1 l3) : Int32).toInt64 * ((tm h y l2 l4) : Int32).toInt64), .int (xp h y l1 l3), .int (xp h y l2 l4)]) rfl ⟨Nat.le_of_ble_eq_true rfl, Nat.le_of_ble_eq_true rfl⟩ rfl rfl (sg_6 hs)) (H.imp ?_)
    intro rv h6 H
    obtain ⟨rfl, H⟩ := H
    obtain ⟨y8, hs, H⟩ := H
    show Ex d [] tb_X2_naturallyMultiplied (64, [some (.ref 6), some (.int l1), some (.int l2), some (.int l3), some (.int l4)], []) h6 _
    refine Ex.pure 2 (fr2 := (21, [some (.ref 6), some (.int l1), some (.int l2), some (.int l3), some (.int (l4 + 1))], [])) rfl ?_
    exact H
def b_X2_addPair_18 (d : Nat) (r_0 : Nat) (l1 : Int64) (u3 : Option Value) (u4 : Option Value) (l5 : Int32) (l6 : Int32) (l7 : Int32) (h : XH) (K : XK) (E : XE) : Prop := Ex d [] tb_X2_addPair (18, [some (.ref r_0), some (.long l1), none, u3, u4, some (.int l5), some (.int l6), some (.int l7)], []) h (Po K E)
def b_X2_addPair_55 (d : Nat) (r_0 : Nat) (l1 : Int64) (u3 : Option Value) (u4 : Option Value) (l5 : Int32) (l6 : Int32) (l7 : Int32) (h : XH) (K : XK) (E : XE) : Prop := Ex d [] tb_X2_addPair (55, [some (.ref r_0), some (.long l1), none, u3, u4, some (.int l5), some (.int l6), some (.int l7)], []) h (Po K E)
def b_X2_addPair_105 (d : Nat) (r_0 : Nat) (l1 : Int64) (u3 : Option Value) (u4 : Option Value) (u5 : Option Value) (l6 : Int32) (l7 : Int32) (h : XH) (K : XK) (E : XE) : Prop := Ex d [] tb_X2_addPair (105, [some (.ref r_0), some (.long l1), none, u3, u4, u5, some (.int l6), some (.int l7)], []) h (Po K E)
theorem w_X2_addPair {d : Nat} {h : XH} {y : Nat → Nat} {K : XK} {E : XE} {v : Int64} {a : Int32} {b : Int32} (hd : 20 ≤ d) (hs : Sg h.1 y) (H : (Ca d m_X2_naturallyAdded [.ref 6, .int a, .int b] h (fun rv h1 => ∃ x2, rv = some (.int x2) ∧ ∃ y3 : Nat → Nat, Sg h1.1 y3 ∧ b_X2_addPair_18 d 6 v (some (.int a)) (some (.int b)) (h.2.1 6 4) x2 0 h1 K E) E)) : Ca (d + 1) m_X2_addPair [.ref 6, .long v, .int a, .int b] h K E := by
  refine Ca.of ⟨by show 5 ≤ 8; omega, rfl⟩ ?_
  show Ex d [] tb_X2_addPair (0, [some (.ref 6), some (.long v), none, some (.int a), some (.int b), none, none, none], []) h _
  refine Ex.pure 1 (fr2 := (1, [some (.ref 6), some (.long v), none, some (.int a), some (.int b), none, none, none], [.ref 6])) rfl ?_
  refine Ex.getI rfl (Or.inl rfl) (sg_6 hs) ?_
  refine Ex.pure 4 (fr2 := (10, [some (.ref 6), some (.long v), none, some (.int a), some (.int b), some (.int (h.2.1 6 4)), none, none], [.int b, .int a, .ref 6])) rfl ?_
  refine Ex.cal (rest := []) (j := m_X2_naturallyAdded) (as := [.ref 6, .int a, .int b]) (vst (a := 30) (b := 3) (c := 2) (rest := []) (vs := [.int a, .int b]) rfl ⟨Nat.le_of_ble_eq_true rfl, Nat.le_of_ble_eq_true rfl⟩ rfl rfl (sg_6 hs)) (H.imp ?_)
  intro rv h1 H
  obtain ⟨x2, rfl, H⟩ := H
  obtain ⟨y3, hs, H⟩ := H
  show Ex d [] tb_X2_addPair (13, [some (.ref 6), some (.long v), none, some (.int a), some (.int b), some (.int (h.2.1 6 4)), none, none], [.int x2]) h1 _
  refine Ex.pure 3 (fr2 := (18, [some (.ref 6), some (.long v), none, some (.int a), some (.int b), some (.int (h.2.1 6 4)), some (.int x2), some (.int 0)], [])) rfl ?_
  exact H
theorem w_X2_addPair_18 {d : Nat} {h : XH} {y : Nat → Nat} {K : XK} {E : XE} {l1 : Int64} {u3 : Option Value} {u4 : Option Value} {l5 : Int32} {l6 : Int32} {l7 : Int32} (hd : 20 ≤ d) (hs : Sg h.1 y) (H : ((h.2.1 14 2) ≤ l7 → b_X2_addPair_55 d 6 l1 (u3) (u4) l5 l6 l7 h K E) ∧ (¬ ((h.2.1 14 2) ≤ l7) → (Ca d m_X2_order [.ref 6, .int (g_I h 16 64 l7), .int l6, .int 5] h (fun rv h3 => ∃ x4, rv = some (.int x4) ∧ Sg h3.1 y ∧ (x4 ≤ 0 → b_X2_addPair_55 d 6 l1 (u3) (u4) l5 l6 l7 h3 K E) ∧ (¬ (x4 ≤ 0) → b_X2_addPair_18 d 6 l1 (u3) (u4) l5 l6 (l7 + 1) h3 K E)) E))) : b_X2_addPair_18 d 6 l1 u3 u4 l5 l6 l7 h K E := by
  show Ex d [] tb_X2_addPair (18, [some (.ref 6), some (.long l1), none, u3, u4, some (.int l5), some (.int l6), some (.int l7)], []) h _
  refine Ex.pure 2 (fr2 := (21, [some (.ref 6), some (.long l1), none, u3, u4, some (.int l5), some (.int l6), some (.int l7)], [.ref 6, .int l7])) rfl ?_
  refine Ex.getQ rfl (sg_6 hs) rfl ?_
  refine Ex.ask (rest := [.int l7]) (j := m_X0_count) (as := [.ref 14]) (vst (a := 1) (b := 1) (c := 0) (rest := [.int l7]) (vs := []) rfl ⟨Nat.le_of_ble_eq_true rfl, Nat.le_of_ble_eq_true rfl⟩ rfl rfl (sg_14 hs)) ((t_X0_count (d := 0) (sg_14 hs)).mono (by omega) (fun _ _ z => z)) ?_
  rintro _ h0 ⟨rfl, e0⟩
  rw [e0]
  show Ex d [] tb_X2_addPair (27, [some (.ref 6), some (.long l1), none, u3, u4, some (.int l5), some (.int l6), some (.int l7)], [.int (h.2.1 14 2), .int l7]) h _
  refine Ex.br (x := (55, [some (.ref 6), some (.long l1), none, u3, u4, some (.int l5), some (.int l6), some (.int l7)], [])) (y := (30, [some (.ref 6), some (.long l1), none, u3, u4, some (.int l5), some (.int l6), some (.int l7)], [])) (b := (h.2.1 14 2) ≤ l7) rfl (fun hb => ?_) (fun hb => ?_)
  · replace H := H.1 (hb)
    exact H
  · replace H := H.2 (hb)
    refine Ex.pure 2 (fr2 := (32, [some (.ref 6), some (.long l1), none, u3, u4, some (.int l5), some (.int l6), some (.int l7)], [.ref 6, .ref 6])) rfl ?_
    refine Ex.getQ rfl (sg_6 hs) rfl ?_
    refine Ex.pure 1 (fr2 := (37, [some (.ref 6), some (.long l1), none, u3, u4, some (.int l5), some (.int l6), some (.int l7)], [.int l7, .ref 14, .ref 6])) rfl ?_
    refine Ex.ask (rest := [.ref 6]) (j := m_X0_exponentAt) (as := [.ref 14, .int l7]) (vst (a := 3) (b := 2) (c := 0) (rest := [.ref 6]) (vs := [.int l7]) rfl ⟨Nat.le_of_ble_eq_true rfl, Nat.le_of_ble_eq_true rfl⟩ rfl rfl (sg_14 hs)) ((t_X0_exponentAt (d := 0) (sg_14 hs) rfl (sg_16 hs) (by omega)).mono (by omega) (fun _ _ z => z)) ?_
    rintro _ h0 ⟨rfl, e0⟩
    rw [e0]
    show Ex d [] tb_X2_addPair (40, [some (.ref 6), some (.long l1), none, u3, u4, some (.int l5), some (.int l6), some (.int l7)], [.int (g_I h 16 64 l7), .ref 6]) h _
    refine Ex.pure 2 (fr2 := (43, [some (.ref 6), some (.long l1), none, u3, u4, some (.int l5), some (.int l6), some (.int l7)], [.int 5, .int l6, .int (g_I h 16 64 l7), .ref 6])) rfl ?_
    refine Ex.cal (rest := []) (j := m_X2_order) (as := [.ref 6, .int (g_I h 16 64 l7), .int l6, .int 5]) (vst (a := 34) (b := 4) (c := 2) (rest := []) (vs := [.int (g_I h 16 64 l7), .int l6, .int 5]) rfl ⟨Nat.le_of_ble_eq_true rfl, Nat.le_of_ble_eq_true rfl⟩ rfl rfl (sg_6 hs)) (H.imp ?_)
    intro rv h3 H
    obtain ⟨x4, rfl, H⟩ := H
    obtain ⟨hs, H⟩ := H
    show Ex d [] tb_X2_addPair (46, [some (.ref 6), some (.long l1), none, u3, u4, some (.int l5), some (.int l6), some (.int l7)], [.int x4]) h3 _
    refine Ex.br (x := (55, [some (.ref 6), some (.long l1), none, u3, u4, some (.int l5), some (.int l6), some (.int l7)], [])) (y := (49, [some (.ref 6), some (.long l1), none, u3, u4, some (.int l5), some (.int l6), some (.int l7)], [])) (b := x4 ≤ 0) rfl (fun hb => ?_) (fun hb => ?_)
    · replace H := H.1 (hb)
      exact H
    · replace H := H.2 (hb)
      refine Ex.pure 2 (fr2 := (18, [some (.ref 6), some (.long l1), none, u3, u4, some (.int l5), some (.int l6), some (.int (l7 + 1))], [])) rfl ?_
      exact H
theorem w_X2_addPair_55 {d : Nat} {h : XH} {y : Nat → Nat} {K : XK} {E : XE} {l1 : Int64} {u3 : Option Value} {u4 : Option Value} {l5 : Int32} {l6 : Int32} {l7 : Int32} (hd : 20 ≤ d) (hs : Sg h.1 y) (H : ((h.2.1 14 2) ≤ l7 → b_X2_addPair_105 d 6 l1 (u3) (u4) (some (.int l5)) l6 l7 h K E) ∧ (¬ ((h.2.1 14 2) ≤ l7) → (Ca d m_X2_order [.ref 6, .int (g_I h 16 64 l7), .int l6, .int 5] h (fun rv h3 => ∃ x4, rv = some (.int x4) ∧ Sg h3.1 y ∧ (¬ x4 = 0 → b_X2_addPair_105 d 6 l1 (u3) (u4) (some (.int l5)) l6 l7 h3 K E) ∧ (¬ (¬ x4 = 0) → (∀ h5 : XH, h5 = (p_J h3 (14 + 1) 64 l7 (g_J h3 (14 + 1) 64 l7 + l1)) → (∀ h6 : XH, h6 = (x_setI h5 6 4 l5) → K none h6)))) E))) : b_X2_addPair_55 d 6 l1 u3 u4 l5 l6 l7 h K E := by
  show Ex d [] tb_X2_addPair (55, [some (.ref 6), some (.long l1), none, u3, u4, some (.int l5), some (.int l6), some (.int l7)], []) h _
  refine Ex.pure 2 (fr2 := (58, [some (.ref 6), some (.long l1), none, u3, u4, some (.int l5), some (.int l6), some (.int l7)], [.ref 6, .int l7])) rfl ?_
  refine Ex.getQ rfl (sg_6 hs) rfl ?_
  refine Ex.ask (rest := [.int l7]) (j := m_X0_count) (as := [.ref 14]) (vst (a := 1) (b := 1) (c := 0) (rest := [.int l7]) (vs := []) rfl ⟨Nat.le_of_ble_eq_true rfl, Nat.le_of_ble_eq_true rfl⟩ rfl rfl (sg_14 hs)) ((t_X0_count (d := 0) (sg_14 hs)).mono (by omega) (fun _ _ z => z)) ?_
  rintro _ h0 ⟨rfl, e0⟩
  rw [e0]
  show Ex d [] tb_X2_addPair (64, [some (.ref 6), some (.long l1), none, u3, u4, some (.int l5), some (.int l6), some (.int l7)], [.int (h.2.1 14 2), .int l7]) h _
  refine Ex.br (x := (105, [some (.ref 6), some (.long l1), none, u3, u4, some (.int l5), some (.int l6), some (.int l7)], [])) (y := (67, [some (.ref 6), some (.long l1), none, u3, u4, some (.int l5), some (.int l6), some (.int l7)], [])) (b := (h.2.1 14 2) ≤ l7) rfl (fun hb => ?_) (fun hb => ?_)
  · replace H := H.1 (hb)
    exact H
  · replace H := H.2 (hb)
    refine Ex.pure 2 (fr2 := (69, [some (.ref 6), some (.long l1), none, u3, u4, some (.int l5), some (.int l6), some (.int l7)], [.ref 6, .ref 6])) rfl ?_
    refine Ex.getQ rfl (sg_6 hs) rfl ?_
    refine Ex.pure 1 (fr2 := (74, [some (.ref 6), some (.long l1), none, u3, u4, some (.int l5), some (.int l6), some (.int l7)], [.int l7, .ref 14, .ref 6])) rfl ?_
    refine Ex.ask (rest := [.ref 6]) (j := m_X0_exponentAt) (as := [.ref 14, .int l7]) (vst (a := 3) (b := 2) (c := 0) (rest := [.ref 6]) (vs := [.int l7]) rfl ⟨Nat.le_of_ble_eq_true rfl, Nat.le_of_ble_eq_true rfl⟩ rfl rfl (sg_14 hs)) ((t_X0_exponentAt (d := 0) (sg_14 hs) rfl (sg_16 hs) (by omega)).mono (by omega) (fun _ _ z => z)) ?_
    rintro _ h0 ⟨rfl, e0⟩
    rw [e0]
    show Ex d [] tb_X2_addPair (77, [some (.ref 6), some (.long l1), none, u3, u4, some (.int l5), some (.int l6), some (.int l7)], [.int (g_I h 16 64 l7), .ref 6]) h _
    refine Ex.pure 2 (fr2 := (80, [some (.ref 6), some (.long l1), none, u3, u4, some (.int l5), some (.int l6), some (.int l7)], [.int 5, .int l6, .int (g_I h 16 64 l7), .ref 6])) rfl ?_
    refine Ex.cal (rest := []) (j := m_X2_order) (as := [.ref 6, .int (g_I h 16 64 l7), .int l6, .int 5]) (vst (a := 34) (b := 4) (c := 2) (rest := []) (vs := [.int (g_I h 16 64 l7), .int l6, .int 5]) rfl ⟨Nat.le_of_ble_eq_true rfl, Nat.le_of_ble_eq_true rfl⟩ rfl rfl (sg_6 hs)) (H.imp ?_)
    intro rv h3 H
    obtain ⟨x4, rfl, H⟩ := H
    obtain ⟨hs, H⟩ := H
    show Ex d [] tb_X2_addPair (83, [some (.ref 6), some (.long l1), none, u3, u4, some (.int l5), some (.int l6), some (.int l7)], [.int x4]) h3 _
    refine Ex.br (x := (105, [some (.ref 6), some (.long l1), none, u3, u4, some (.int l5), some (.int l6), some (.int l7)], [])) (y := (86, [some (.ref 6), some (.long l1), none, u3, u4, some (.int l5), some (.int l6), some (.int l7)], [])) (b := ¬ x4 = 0) rfl (fun hb => ?_) (fun hb => ?_)
    · replace H := H.1 (hb)
      exact H
    · replace H := H.2 (hb)
      refine Ex.pure 1 (fr2 := (87, [some (.ref 6), some (.long l1), none, u3, u4, some (.int l5), some (.int l6), some (.int l7)], [.ref 6])) rfl ?_
      refine Ex.getQ rfl (sg_6 hs) rfl ?_
      refine Ex.pure 2 (fr2 := (93, [some (.ref 6), some (.long l1), none, u3, u4, some (.int l5), some (.int l6), some (.int l7)], [.long l1, .int l7, .ref 14])) rfl ?_
      refine Ex.ask (rest := []) (j := m_X0_raise) (as := [.ref 14, .int l7, .long l1]) (vst (a := 7) (b := 3) (c := 0) (rest := []) (vs := [.int l7, .long l1]) rfl ⟨Nat.le_of_ble_eq_true rfl, Nat.le_of_ble_eq_true rfl⟩ rfl rfl (sg_14 hs)) ((t_X0_raise (d := 0) (sg_D14 hs).1 rfl (sg_D14 hs).2.1 (by omega)).mono (by omega) (fun _ _ z => z)) ?_
      rintro _ h5 ⟨rfl, e5⟩
      replace H := H h5 e5
      replace hs : Sg h5.1 y := by rw [e5, p_J_sh]; exact hs
      show Ex d [] tb_X2_addPair (96, [some (.ref 6), some (.long l1), none, u3, u4, some (.int l5), some (.int l6), some (.int l7)], []) h5 _
      refine Ex.pure 2 (fr2 := (99, [some (.ref 6), some (.long l1), none, u3, u4, some (.int l5), some (.int l6), some (.int l7)], [.int l5, .ref 6])) rfl ?_
      refine Ex.putI rfl (sg_6 hs) ?_
      obtain ⟨h6, e6⟩ : ∃ z : XH, z = (x_setI h5 6 4 l5) := ⟨_, rfl⟩
      rw [← e6]
      replace H := H h6 e6
      replace hs : Sg h6.1 y := by rw [e6]; exact hs
      refine Ex.pure 1 (fr2 := (117, [some (.ref 6), some (.long l1), none, u3, u4, some (.int l5), some (.int l6), some (.int l7)], [])) rfl ?_
      exact Ex.vret rfl H
theorem w_X2_addPair_105 {d : Nat} {h : XH} {y : Nat → Nat} {K : XK} {E : XE} {l1 : Int64} {u3 : Option Value} {u4 : Option Value} {u5 : Option Value} {l6 : Int32} {l7 : Int32} (hd : 20 ≤ d) (hs : Sg h.1 y) (H : (Ca d m_X0_insert [.ref 14, .int l7, .long l1, .int l6] h (fun rv h1 => rv = none ∧ Sg h1.1 y ∧ K none h1) E)) : b_X2_addPair_105 d 6 l1 u3 u4 u5 l6 l7 h K E := by
  show Ex d [] tb_X2_addPair (105, [some (.ref 6), some (.long l1), none, u3, u4, u5, some (.int l6), some (.int l7)], []) h _
  refine Ex.pure 1 (fr2 := (106, [some (.ref 6), some (.long l1), none, u3, u4, u5, some (.int l6), some (.int l7)], [.ref 6])) rfl ?_
  refine Ex.getQ rfl (sg_6 hs) rfl ?_
  refine Ex.pure 3 (fr2 := (114, [some (.ref 6), some (.long l1), none, u3, u4, u5, some (.int l6), some (.int l7)], [.int l6, .long l1, .int l7, .ref 14])) rfl ?_
  refine Ex.cal (rest := []) (j := m_X0_insert) (as := [.ref 14, .int l7, .long l1, .int l6]) (vst (a := 6) (b := 4) (c := 0) (rest := []) (vs := [.int l7, .long l1, .int l6]) rfl ⟨Nat.le_of_ble_eq_true rfl, Nat.le_of_ble_eq_true rfl⟩ rfl rfl (sg_14 hs)) (H.imp ?_)
  intro rv h1 H
  obtain ⟨rfl, H⟩ := H
  obtain ⟨hs, H⟩ := H
  show Ex d [] tb_X2_addPair (117, [some (.ref 6), some (.long l1), none, u3, u4, u5, some (.int l6), some (.int l7)], []) h1 _
  exact Ex.vret rfl H
theorem w_X2_stepped {d : Nat} {h : XH} {y : Nat → Nat} {K : XK} {E : XE} {a : Int32} {b : Int32} (hd : 20 ≤ d) (hs : Sg h.1 y) (H : (Ca d m_X2_lower [.ref 6, .int a, .int b, .int 5] h (fun rv h1 => ∃ x2, rv = some (.int x2) ∧ ∃ y3 : Nat → Nat, Sg h1.1 y3 ∧ K (some (.int x2)) h1) E)) : Ca (d + 1) m_X2_stepped [.ref 6, .int a, .int b] h K E := by
  refine Ca.of ⟨by show 3 ≤ 3; omega, rfl⟩ ?_
  show Ex d [] tb_X2_stepped (0, [some (.ref 6), some (.int a), some (.int b)], []) h _
  refine Ex.pure 4 (fr2 := (4, [some (.ref 6), some (.int a), some (.int b)], [.int 5, .int b, .int a, .ref 6])) rfl ?_
  refine Ex.cal (rest := []) (j := m_X2_lower) (as := [.ref 6, .int a, .int b, .int 5]) (vst (a := 36) (b := 4) (c := 2) (rest := []) (vs := [.int a, .int b, .int 5]) rfl ⟨Nat.le_of_ble_eq_true rfl, Nat.le_of_ble_eq_true rfl⟩ rfl rfl (sg_6 hs)) (H.imp ?_)
  intro rv h1 H
  obtain ⟨x2, rfl, H⟩ := H
  obtain ⟨y3, hs, H⟩ := H
  show Ex d [] tb_X2_stepped (7, [some (.ref 6), some (.int a), some (.int b)], [.int x2]) h1 _
  exact Ex.iret rfl (Or.inl rfl) H
def b_X2_lower_66 (d : Nat) (r_0 : Nat) (u1 : Option Value) (u2 : Option Value) (u3 : Option Value) (u4 : Option Value) (l5 : Int32) (s0 : Int64) (r_7 : Nat) (h : XH) (K : XK) (E : XE) : Prop := Ex d [] tb_X2_lower (66, [some (.ref r_0), u1, u2, u3, u4, some (.int l5)], [.long s0, .ref r_7]) h (Po K E)
def b_X2_lower_71 (d : Nat) (r_0 : Nat) (u1 : Option Value) (u2 : Option Value) (u3 : Option Value) (u4 : Option Value) (u5 : Option Value) (h : XH) (K : XK) (E : XE) : Prop := Ex d [] tb_X2_lower (71, [some (.ref r_0), u1, u2, u3, u4, u5], []) h (Po K E)
theorem w_X2_lower {d : Nat} {h : XH} {y : Nat → Nat} {K : XK} {E : XE} {a : Int32} {b : Int32} {n : Int32} (hd : 20 ≤ d) (hs : Sg h.1 y) (H : (a = 0 → K (some (.int 0)) h) ∧ (¬ (a = 0) → (0 < n → (Ca d m_X2_lower [.ref 6, .int (xp h y a ((pw h y a) - 1)), .int b, .int (n - 1)] h (fun rv h3 => ∃ x4, rv = some (.int x4) ∧ ∃ y5 : Nat → Nat, Sg h3.1 y5 ∧ (Ca d m_X2_draftLess [.ref 6, .int a, .int 1] h3 (fun rv h6 => rv = none ∧ Sg h6.1 y5 ∧ ((xp h y a ((pw h y a) - 1)) = 0 → b_X2_lower_71 d 6 (some (.int a)) (some (.int b)) (some (.int n)) (some (.int (xp h y a ((pw h y a) - 1)))) (some (.int x4)) h6 K E) ∧ (¬ ((xp h y a ((pw h y a) - 1)) = 0) → (Ca d m_X2_finiteTail [.ref 6, .int (xp h y a ((pw h y a) - 1))] h6 (fun rv h8 => ∃ x9, rv = some (.int x9) ∧ Sg h8.1 y5 ∧ (x9 ≤ 0 → b_X2_lower_66 d 6 (some (.int a)) (some (.int b)) (some (.int n)) (some (.int (xp h y a ((pw h y a) - 1)))) x4 1 11 h8 K E) ∧ (¬ (x9 ≤ 0) → b_X2_lower_66 d 6 (some (.int a)) (some (.int b)) (some (.int n)) (some (.int (xp h y a ((pw h y a) - 1)))) x4 ((b : Int32).toInt64) 11 h8 K E)) E))) E)) E)) ∧ (¬ (0 < n) → K (some (.int 0)) h))) : Ca (d + 1) m_X2_lower [.ref 6, .int a, .int b, .int n] h K E := by
  refine Ca.of ⟨by show 4 ≤ 6; omega, rfl⟩ ?_
  show Ex d [] tb_X2_lower (0, [some (.ref 6), some (.int a), some (.int b), some (.int n), none, none], []) h _
  refine Ex.pure 1 (fr2 := (1, [some (.ref 6), some (.int a), some (.int b), some (.int n), none, none], [.int a])) rfl ?_
  refine Ex.br (x := (8, [some (.ref 6), some (.int a), some (.int b), some (.int n), none, none], [])) (y := (4, [some (.ref 6), some (.int a), some (.int b), some (.int n), none, none], [])) (b := a = 0) rfl (fun hb => ?_) (fun hb => ?_)
  · replace H := H.1 (hb)
    refine Ex.pure 1 (fr2 := (9, [some (.ref 6), some (.int a), some (.int b), some (.int n), none, none], [.int 0])) rfl ?_
    exact Ex.iret rfl (Or.inl rfl) H
  · replace H := H.2 (hb)
    refine Ex.pure 1 (fr2 := (5, [some (.ref 6), some (.int a), some (.int b), some (.int n), none, none], [.int n])) rfl ?_
    refine Ex.br (x := (10, [some (.ref 6), some (.int a), some (.int b), some (.int n), none, none], [])) (y := (8, [some (.ref 6), some (.int a), some (.int b), some (.int n), none, none], [])) (b := 0 < n) rfl (fun hb => ?_) (fun hb => ?_)
    · replace H := H.1 (hb)
      refine Ex.pure 4 (fr2 := (14, [some (.ref 6), some (.int a), some (.int b), some (.int n), none, none], [.int a, .ref 6, .int a, .ref 6])) rfl ?_
      refine Ex.ask (rest := [.int a, .ref 6]) (j := m_X2_powersOf) (as := [.ref 6, .int a]) (vst (a := 22) (b := 2) (c := 2) (rest := [.int a, .ref 6]) (vs := [.int a]) rfl ⟨Nat.le_of_ble_eq_true rfl, Nat.le_of_ble_eq_true rfl⟩ rfl rfl (sg_6 hs)) ((t_X2_powersOf (d := 0) (sg_6 hs) rfl (sg_y0 hs) (sg_l0 hs)).mono (by omega) (fun _ _ z => z)) ?_
      rintro _ h0 ⟨rfl, e0⟩
      rw [e0]
      show Ex d [] tb_X2_lower (17, [some (.ref 6), some (.int a), some (.int b), some (.int n), none, none], [.int (pw h y a), .int a, .ref 6]) h _
      refine Ex.pure 2 (fr2 := (19, [some (.ref 6), some (.int a), some (.int b), some (.int n), none, none], [.int ((pw h y a) - 1), .int a, .ref 6])) rfl ?_
      refine Ex.ask (rest := []) (j := m_X2_exponentOf) (as := [.ref 6, .int a, .int ((pw h y a) - 1)]) (vst (a := 24) (b := 3) (c := 2) (rest := []) (vs := [.int a, .int ((pw h y a) - 1)]) rfl ⟨Nat.le_of_ble_eq_true rfl, Nat.le_of_ble_eq_true rfl⟩ rfl rfl (sg_6 hs)) ((t_X2_exponentOf (d := 0) (sg_6 hs) rfl rfl (sg_y0 hs) (sg_l0 hs) (sg_y3 hs) (sg_l3 hs)).mono (by omega) (fun _ _ z => z)) ?_
      rintro _ h0 ⟨rfl, e0⟩
      rw [e0]
      show Ex d [] tb_X2_lower (22, [some (.ref 6), some (.int a), some (.int b), some (.int n), none, none], [.int (xp h y a ((pw h y a) - 1))]) h _
      refine Ex.pure 7 (fr2 := (31, [some (.ref 6), some (.int a), some (.int b), some (.int n), some (.int (xp h y a ((pw h y a) - 1))), none], [.int (n - 1), .int b, .int (xp h y a ((pw h y a) - 1)), .ref 6])) rfl ?_
      refine Ex.cal (rest := []) (j := m_X2_lower) (as := [.ref 6, .int (xp h y a ((pw h y a) - 1)), .int b, .int (n - 1)]) (vst (a := 36) (b := 4) (c := 2) (rest := []) (vs := [.int (xp h y a ((pw h y a) - 1)), .int b, .int (n - 1)]) rfl ⟨Nat.le_of_ble_eq_true rfl, Nat.le_of_ble_eq_true rfl⟩ rfl rfl (sg_6 hs)) (H.imp ?_)
      intro rv h3 H
      obtain ⟨x4, rfl, H⟩ := H
      obtain ⟨y5, hs, H⟩ := H
      show Ex d [] tb_X2_lower (34, [some (.ref 6), some (.int a), some (.int b), some (.int n), some (.int (xp h y a ((pw h y a) - 1))), none], [.int x4]) h3 _
      refine Ex.pure 4 (fr2 := (39, [some (.ref 6), some (.int a), some (.int b), some (.int n), some (.int (xp h y a ((pw h y a) - 1))), some (.int x4)], [.int 1, .int a, .ref 6])) rfl ?_
      refine Ex.cal (rest := []) (j := m_X2_draftLess) (as := [.ref 6, .int a, .int 1]) (vst (a := 41) (b := 3) (c := 2) (rest := []) (vs := [.int a, .int 1]) rfl ⟨Nat.le_of_ble_eq_true rfl, Nat.le_of_ble_eq_true rfl⟩ rfl rfl (sg_6 hs)) (H.imp ?_)
      intro rv h6 H
      obtain ⟨rfl, H⟩ := H
      obtain ⟨hs, H⟩ := H
      show Ex d [] tb_X2_lower (42, [some (.ref 6), some (.int a), some (.int b), some (.int n), some (.int (xp h y a ((pw h y a) - 1))), some (.int x4)], []) h6 _
      refine Ex.pure 1 (fr2 := (44, [some (.ref 6), some (.int a), some (.int b), some (.int n), some (.int (xp h y a ((pw h y a) - 1))), some (.int x4)], [.int (xp h y a ((pw h y a) - 1))])) rfl ?_
      refine Ex.br (x := (71, [some (.ref 6), some (.int a), some (.int b), some (.int n), some (.int (xp h y a ((pw h y a) - 1))), some (.int x4)], [])) (y := (47, [some (.ref 6), some (.int a), some (.int b), some (.int n), some (.int (xp h y a ((pw h y a) - 1))), some (.int x4)], [])) (b := (xp h y a ((pw h y a) - 1)) = 0) rfl (fun hb => ?_) (fun hb => ?_)
      · replace H := H.1 (hb)
        exact H
      · replace H := H.2 (hb)
        refine Ex.pure 1 (fr2 := (48, [some (.ref 6), some (.int a), some (.int b), some (.int n), some (.int (xp h y a ((pw h y a) - 1))), some (.int x4)], [.ref 6])) rfl ?_
        refine Ex.getQ rfl (sg_6 hs) rfl ?_
        refine Ex.pure 2 (fr2 := (54, [some (.ref 6), some (.int a), some (.int b), some (.int n), some (.int (xp h y a ((pw h y a) - 1))), some (.int x4)], [.int (xp h y a ((pw h y a) - 1)), .ref 6, .ref 11])) rfl ?_
        refine Ex.cal (rest := [.ref 11]) (j := m_X2_finiteTail) (as := [.ref 6, .int (xp h y a ((pw h y a) - 1))]) (vst (a := 39) (b := 2) (c := 2) (rest := [.ref 11]) (vs := [.int (xp h y a ((pw h y a) - 1))]) rfl ⟨Nat.le_of_ble_eq_true rfl, Nat.le_of_ble_eq_true rfl⟩ rfl rfl (sg_6 hs)) (H.imp ?_)
        intro rv h8 H
        obtain ⟨x9, rfl, H⟩ := H
        obtain ⟨hs, H⟩ := H
        show Ex d [] tb_X2_lower (57, [some (.ref 6), some (.int a), some (.int b), some (.int n), some (.int (xp h y a ((pw h y a) - 1))), some (.int x4)], [.int x9, .ref 11]) h8 _
        refine Ex.br (x := (65, [some (.ref 6), some (.int a), some (.int b), some (.int n), some (.int (xp h y a ((pw h y a) - 1))), some (.int x4)], [.ref 11])) (y := (60, [some (.ref 6), some (.int a), some (.int b), some (.int n), some (.int (xp h y a ((pw h y a) - 1))), some (.int x4)], [.ref 11])) (b := x9 ≤ 0) rfl (fun hb => ?_) (fun hb => ?_)
        · replace H := H.1 (hb)
          refine Ex.pure 1 (fr2 := (66, [some (.ref 6), some (.int a), some (.int b), some (.int n), some (.int (xp h y a ((pw h y a) - 1))), some (.int x4)], [.long 1, .ref 11])) rfl ?_
          exact H
        · replace H := H.2 (hb)
          refine Ex.pure 3 (fr2 := (66, [some (.ref 6), some (.int a), some (.int b), some (.int n), some (.int (xp h y a ((pw h y a) - 1))), some (.int x4)], [.long ((b : Int32).toInt64), .ref 11])) rfl ?_
          exact H
    · replace H := H.2 (hb)
      refine Ex.pure 1 (fr2 := (9, [some (.ref 6), some (.int a), some (.int b), some (.int n), none, none], [.int 0])) rfl ?_
      exact Ex.iret rfl (Or.inl rfl) H
theorem w_X2_lower_66 {d : Nat} {h : XH} {y : Nat → Nat} {K : XK} {E : XE} {u1 : Option Value} {u2 : Option Value} {u3 : Option Value} {u4 : Option Value} {l5 : Int32} {s0 : Int64} (hd : 20 ≤ d) (hs : Sg h.1 y) (H : (∀ h1 : XH, h1 = (a_Dr h 11 (11 + 1) (11 + 2) 64 s0 l5) → b_X2_lower_71 d 6 (u1) (u2) (u3) (u4) (some (.int l5)) h1 K E)) : b_X2_lower_66 d 6 u1 u2 u3 u4 l5 s0 11 h K E := by
  show Ex d [] tb_X2_lower (66, [some (.ref 6), u1, u2, u3, u4, some (.int l5)], [.long s0, .ref 11]) h _
  refine Ex.pure 1 (fr2 := (68, [some (.ref 6), u1, u2, u3, u4, some (.int l5)], [.int l5, .long s0, .ref 11])) rfl ?_
  refine Ex.ask (rest := []) (j := m_X0_add) (as := [.ref 11, .long s0, .int l5]) (vst (a := 5) (b := 3) (c := 0) (rest := []) (vs := [.long s0, .int l5]) rfl ⟨Nat.le_of_ble_eq_true rfl, Nat.le_of_ble_eq_true rfl⟩ rfl rfl (sg_11 hs)) ((t_X0_add (d := 0) (sg_D11 hs).1 rfl rfl (sg_D11 hs).2.1 (sg_D11 hs).2.2 (by omega) (by omega)).mono (by omega) (fun _ _ z => z)) ?_
  rintro _ h1 ⟨rfl, e1⟩
  replace H := H h1 e1
  replace hs : Sg h1.1 y := by rw [e1, a_Dr_sh]; exact hs
  show Ex d [] tb_X2_lower (71, [some (.ref 6), u1, u2, u3, u4, some (.int l5)], []) h1 _
  exact H
theorem w_X2_lower_71 {d : Nat} {h : XH} {y : Nat → Nat} {K : XK} {E : XE} {u1 : Option Value} {u2 : Option Value} {u3 : Option Value} {u4 : Option Value} {u5 : Option Value} (hd : 20 ≤ d) (hs : Sg h.1 y) (H : (Ca d m_X2_made [.ref 6, .ref 11] h (fun rv h1 => ∃ x2, rv = some (.int x2) ∧ ∃ y3 : Nat → Nat, Sg h1.1 y3 ∧ K (some (.int x2)) h1) E)) : b_X2_lower_71 d 6 u1 u2 u3 u4 u5 h K E := by
  show Ex d [] tb_X2_lower (71, [some (.ref 6), u1, u2, u3, u4, u5], []) h _
  refine Ex.pure 2 (fr2 := (73, [some (.ref 6), u1, u2, u3, u4, u5], [.ref 6, .ref 6])) rfl ?_
  refine Ex.getQ rfl (sg_6 hs) rfl ?_
  refine Ex.cal (rest := []) (j := m_X2_made) (as := [.ref 6, .ref 11]) (vst (a := 43) (b := 2) (c := 2) (rest := []) (vs := [.ref 11]) rfl ⟨Nat.le_of_ble_eq_true rfl, Nat.le_of_ble_eq_true rfl⟩ rfl rfl (sg_6 hs)) (H.imp ?_)
  intro rv h1 H
  obtain ⟨x2, rfl, H⟩ := H
  obtain ⟨y3, hs, H⟩ := H
  show Ex d [] tb_X2_lower (79, [some (.ref 6), u1, u2, u3, u4, u5], [.int x2]) h1 _
  exact Ex.iret rfl (Or.inl rfl) H
def b_X2_stepsToZero_6 (d : Nat) (r_0 : Nat) (u1 : Option Value) (l2 : Int32) (l3 : Int32) (l4 : Int32) (l5 : Int32) (u6 : Option Value) (u7 : Option Value) (h : XH) (K : XK) (E : XE) : Prop := Ex d [] tb_X2_stepsToZero (6, [some (.ref r_0), u1, some (.int l2), some (.int l3), some (.int l4), some (.int l5), u6, u7], []) h (Po K E)
def b_X2_stepsToZero_66 (d : Nat) (r_0 : Nat) (u1 : Option Value) (l2 : Int32) (l3 : Int32) (u4 : Option Value) (l5 : Int32) (u6 : Option Value) (l7 : Int32) (s0 : Int32) (h : XH) (K : XK) (E : XE) : Prop := Ex d [] tb_X2_stepsToZero (66, [some (.ref r_0), u1, some (.int l2), some (.int l3), u4, some (.int l5), u6, some (.int l7)], [.int s0]) h (Po K E)
def b_X2_stepsToZero_78 (d : Nat) (r_0 : Nat) (u1 : Option Value) (u2 : Option Value) (u3 : Option Value) (l4 : Int32) (l5 : Int32) (u6 : Option Value) (u7 : Option Value) (h : XH) (K : XK) (E : XE) : Prop := Ex d [] tb_X2_stepsToZero (78, [some (.ref r_0), u1, u2, u3, some (.int l4), some (.int l5), u6, u7], []) h (Po K E)
theorem w_X2_stepsToZero {d : Nat} {h : XH} {y : Nat → Nat} {K : XK} {E : XE} {a : Int32} {b : Int32} {n : Int32} (hd : 20 ≤ d) (hs : Sg h.1 y) (H : b_X2_stepsToZero_6 d 6 (some (.int a)) b n a 0 none none h K E) : Ca (d + 1) m_X2_stepsToZero [.ref 6, .int a, .int b, .int n] h K E := by
  refine Ca.of ⟨by show 4 ≤ 8; omega, rfl⟩ ?_
  show Ex d [] tb_X2_stepsToZero (0, [some (.ref 6), some (.int a), some (.int b), some (.int n), none, none, none, none], []) h _
  refine Ex.pure 4 (fr2 := (6, [some (.ref 6), some (.int a), some (.int b), some (.int n), some (.int a), some (.int 0), none, none], [])) rfl ?_
  exact H
theorem w_X2_stepsToZero_6 {d : Nat} {h : XH} {y : Nat → Nat} {K : XK} {E : XE} {u1 : Option Value} {l2 : Int32} {l3 : Int32} {l4 : Int32} {l5 : Int32} {u6 : Option Value} {u7 : Option Value} (hd : 20 ≤ d) (hs : Sg h.1 y) (H : (l4 = 0 → b_X2_stepsToZero_78 d 6 (u1) (some (.int l2)) (some (.int l3)) l4 l5 (u6) (u7) h K E) ∧ (¬ (l4 = 0) → (l3 ≤ l5 → b_X2_stepsToZero_78 d 6 (u1) (some (.int l2)) (some (.int l3)) l4 l5 (u6) (u7) h K E) ∧ (¬ (l3 ≤ l5) → (Ca d m_X2_finiteTail [.ref 6, .int l4] h (fun rv h1 => ∃ x2, rv = some (.int x2) ∧ Sg h1.1 y ∧ (x2 ≤ 0 → (Ca d m_X2_stepped [.ref 6, .int l4, .int (l2 + l5)] h1 (fun rv h3 => ∃ x4, rv = some (.int x4) ∧ ∃ y5 : Nat → Nat, Sg h3.1 y5 ∧ b_X2_stepsToZero_66 d 6 (u1) l2 l3 (some (.int l4)) l5 (some (.int x2)) (mxI 1 (mnI x2 (l3 - l5))) x4 h3 K E) E)) ∧ (¬ (x2 ≤ 0) → (Ca d m_X2_lessened [.ref 6, .int l4, .int (mxI 1 (mnI x2 (l3 - l5)))] h1 (fun rv h6 => ∃ x7, rv = some (.int x7) ∧ ∃ y8 : Nat → Nat, Sg h6.1 y8 ∧ b_X2_stepsToZero_66 d 6 (u1) l2 l3 (some (.int l4)) l5 (some (.int x2)) (mxI 1 (mnI x2 (l3 - l5))) x7 h6 K E) E))) E)))) : b_X2_stepsToZero_6 d 6 u1 l2 l3 l4 l5 u6 u7 h K E := by
  show Ex d [] tb_X2_stepsToZero (6, [some (.ref 6), u1, some (.int l2), some (.int l3), some (.int l4), some (.int l5), u6, u7], []) h _
  refine Ex.pure 1 (fr2 := (8, [some (.ref 6), u1, some (.int l2), some (.int l3), some (.int l4), some (.int l5), u6, u7], [.int l4])) rfl ?_
  refine Ex.br (x := (78, [some (.ref 6), u1, some (.int l2), some (.int l3), some (.int l4), some (.int l5), u6, u7], [])) (y := (11, [some (.ref 6), u1, some (.int l2), some (.int l3), some (.int l4), some (.int l5), u6, u7], [])) (b := l4 = 0) rfl (fun hb => ?_) (fun hb => ?_)
  · replace H := H.1 (hb)
    exact H
  · replace H := H.2 (hb)
    refine Ex.pure 2 (fr2 := (14, [some (.ref 6), u1, some (.int l2), some (.int l3), some (.int l4), some (.int l5), u6, u7], [.int l3, .int l5])) rfl ?_
    refine Ex.br (x := (78, [some (.ref 6), u1, some (.int l2), some (.int l3), some (.int l4), some (.int l5), u6, u7], [])) (y := (17, [some (.ref 6), u1, some (.int l2), some (.int l3), some (.int l4), some (.int l5), u6, u7], [])) (b := l3 ≤ l5) rfl (fun hb => ?_) (fun hb => ?_)
    · replace H := H.1 (hb)
      exact H
    · replace H := H.2 (hb)
      refine Ex.pure 2 (fr2 := (20, [some (.ref 6), u1, some (.int l2), some (.int l3), some (.int l4), some (.int l5), u6, u7], [.int l4, .ref 6])) rfl ?_
      refine Ex.cal (rest := []) (j := m_X2_finiteTail) (as := [.ref 6, .int l4]) (vst (a := 39) (b := 2) (c := 2) (rest := []) (vs := [.int l4]) rfl ⟨Nat.le_of_ble_eq_true rfl, Nat.le_of_ble_eq_true rfl⟩ rfl rfl (sg_6 hs)) (H.imp ?_)
      intro rv h1 H
      obtain ⟨x2, rfl, H⟩ := H
      obtain ⟨hs, H⟩ := H
      show Ex d [] tb_X2_stepsToZero (23, [some (.ref 6), u1, some (.int l2), some (.int l3), some (.int l4), some (.int l5), u6, u7], [.int x2]) h1 _
      refine Ex.pure 6 (fr2 := (32, [some (.ref 6), u1, some (.int l2), some (.int l3), some (.int l4), some (.int l5), some (.int x2), u7], [.int (l3 - l5), .int x2, .int 1])) rfl ?_
      refine Ex.st (r := some (.inl ((35, [some (.ref 6), u1, some (.int l2), some (.int l3), some (.int l4), some (.int l5), some (.int x2), u7], [.int (mnI x2 (l3 - l5)), .int 1]), h1))) (fun c => rfl) ?_
      show Ex d [] tb_X2_stepsToZero (35, [some (.ref 6), u1, some (.int l2), some (.int l3), some (.int l4), some (.int l5), some (.int x2), u7], [.int (mnI x2 (l3 - l5)), .int 1]) h1 _
      refine Ex.st (r := some (.inl ((38, [some (.ref 6), u1, some (.int l2), some (.int l3), some (.int l4), some (.int l5), some (.int x2), u7], [.int (mxI 1 (mnI x2 (l3 - l5)))]), h1))) (fun c => rfl) ?_
      show Ex d [] tb_X2_stepsToZero (38, [some (.ref 6), u1, some (.int l2), some (.int l3), some (.int l4), some (.int l5), some (.int x2), u7], [.int (mxI 1 (mnI x2 (l3 - l5)))]) h1 _
      refine Ex.pure 2 (fr2 := (42, [some (.ref 6), u1, some (.int l2), some (.int l3), some (.int l4), some (.int l5), some (.int x2), some (.int (mxI 1 (mnI x2 (l3 - l5))))], [.int x2])) rfl ?_
      refine Ex.br (x := (56, [some (.ref 6), u1, some (.int l2), some (.int l3), some (.int l4), some (.int l5), some (.int x2), some (.int (mxI 1 (mnI x2 (l3 - l5))))], [])) (y := (45, [some (.ref 6), u1, some (.int l2), some (.int l3), some (.int l4), some (.int l5), some (.int x2), some (.int (mxI 1 (mnI x2 (l3 - l5))))], [])) (b := x2 ≤ 0) rfl (fun hb => ?_) (fun hb => ?_)
      · replace H := H.1 (hb)
        refine Ex.pure 5 (fr2 := (63, [some (.ref 6), u1, some (.int l2), some (.int l3), some (.int l4), some (.int l5), some (.int x2), some (.int (mxI 1 (mnI x2 (l3 - l5))))], [.int (l2 + l5), .int l4, .ref 6])) rfl ?_
        refine Ex.cal (rest := []) (j := m_X2_stepped) (as := [.ref 6, .int l4, .int (l2 + l5)]) (vst (a := 35) (b := 3) (c := 2) (rest := []) (vs := [.int l4, .int (l2 + l5)]) rfl ⟨Nat.le_of_ble_eq_true rfl, Nat.le_of_ble_eq_true rfl⟩ rfl rfl (sg_6 hs)) (H.imp ?_)
        intro rv h3 H
        obtain ⟨x4, rfl, H⟩ := H
        obtain ⟨y5, hs, H⟩ := H
        show Ex d [] tb_X2_stepsToZero (66, [some (.ref 6), u1, some (.int l2), some (.int l3), some (.int l4), some (.int l5), some (.int x2), some (.int (mxI 1 (mnI x2 (l3 - l5))))], [.int x4]) h3 _
        exact H
      · replace H := H.2 (hb)
        refine Ex.pure 3 (fr2 := (50, [some (.ref 6), u1, some (.int l2), some (.int l3), some (.int l4), some (.int l5), some (.int x2), some (.int (mxI 1 (mnI x2 (l3 - l5))))], [.int (mxI 1 (mnI x2 (l3 - l5))), .int l4, .ref 6])) rfl ?_
        refine Ex.cal (rest := []) (j := m_X2_lessened) (as := [.ref 6, .int l4, .int (mxI 1 (mnI x2 (l3 - l5)))]) (vst (a := 38) (b := 3) (c := 2) (rest := []) (vs := [.int l4, .int (mxI 1 (mnI x2 (l3 - l5)))]) rfl ⟨Nat.le_of_ble_eq_true rfl, Nat.le_of_ble_eq_true rfl⟩ rfl rfl (sg_6 hs)) (H.imp ?_)
        intro rv h6 H
        obtain ⟨x7, rfl, H⟩ := H
        obtain ⟨y8, hs, H⟩ := H
        show Ex d [] tb_X2_stepsToZero (53, [some (.ref 6), u1, some (.int l2), some (.int l3), some (.int l4), some (.int l5), some (.int x2), some (.int (mxI 1 (mnI x2 (l3 - l5))))], [.int x7]) h6 _
        refine Ex.pure 1 (fr2 := (66, [some (.ref 6), u1, some (.int l2), some (.int l3), some (.int l4), some (.int l5), some (.int x2), some (.int (mxI 1 (mnI x2 (l3 - l5))))], [.int x7])) rfl ?_
        exact H
theorem w_X2_stepsToZero_66 {d : Nat} {h : XH} {y : Nat → Nat} {K : XK} {E : XE} {u1 : Option Value} {l2 : Int32} {l3 : Int32} {u4 : Option Value} {l5 : Int32} {u6 : Option Value} {l7 : Int32} {s0 : Int32} (hd : 20 ≤ d) (hs : Sg h.1 y) (H : b_X2_stepsToZero_6 d 6 (u1) l2 l3 s0 (l5 + l7) (u6) (some (.int l7)) h K E) : b_X2_stepsToZero_66 d 6 u1 l2 l3 u4 l5 u6 l7 s0 h K E := by
  show Ex d [] tb_X2_stepsToZero (66, [some (.ref 6), u1, some (.int l2), some (.int l3), u4, some (.int l5), u6, some (.int l7)], [.int s0]) h _
  refine Ex.pure 6 (fr2 := (6, [some (.ref 6), u1, some (.int l2), some (.int l3), some (.int s0), some (.int (l5 + l7)), u6, some (.int l7)], [])) rfl ?_
  exact H
theorem w_X2_stepsToZero_78 {d : Nat} {h : XH} {y : Nat → Nat} {K : XK} {E : XE} {u1 : Option Value} {u2 : Option Value} {u3 : Option Value} {l4 : Int32} {l5 : Int32} {u6 : Option Value} {u7 : Option Value} (hd : 20 ≤ d) (hs : Sg h.1 y) (H : (∀ h1 : XH, h1 = (x_setI h 6 4 (h.2.1 6 5)) → (¬ l4 = 0 → K (some (.int (-1))) h1) ∧ (¬ (¬ l4 = 0) → K (some (.int l5)) h1))) : b_X2_stepsToZero_78 d 6 u1 u2 u3 l4 l5 u6 u7 h K E := by
  show Ex d [] tb_X2_stepsToZero (78, [some (.ref 6), u1, u2, u3, some (.int l4), some (.int l5), u6, u7], []) h _
  refine Ex.pure 1 (fr2 := (79, [some (.ref 6), u1, u2, u3, some (.int l4), some (.int l5), u6, u7], [.ref 6])) rfl ?_
  refine Ex.ask (rest := []) (j := m_X2_forget) (as := [.ref 6]) (vst (a := 26) (b := 1) (c := 2) (rest := []) (vs := []) rfl ⟨Nat.le_of_ble_eq_true rfl, Nat.le_of_ble_eq_true rfl⟩ rfl rfl (sg_6 hs)) ((t_X2_forget (d := 0) (sg_6 hs)).mono (by omega) (fun _ _ z => z)) ?_
  rintro _ h1 ⟨rfl, e1⟩
  replace H := H h1 e1
  replace hs : Sg h1.1 y := by rw [e1]; exact hs
  show Ex d [] tb_X2_stepsToZero (82, [some (.ref 6), u1, u2, u3, some (.int l4), some (.int l5), u6, u7], []) h1 _
  refine Ex.pure 1 (fr2 := (84, [some (.ref 6), u1, u2, u3, some (.int l4), some (.int l5), u6, u7], [.int l4])) rfl ?_
  refine Ex.br (x := (92, [some (.ref 6), u1, u2, u3, some (.int l4), some (.int l5), u6, u7], [])) (y := (87, [some (.ref 6), u1, u2, u3, some (.int l4), some (.int l5), u6, u7], [])) (b := ¬ l4 = 0) rfl (fun hb => ?_) (fun hb => ?_)
  · replace H := H.1 (hb)
    refine Ex.pure 1 (fr2 := (93, [some (.ref 6), u1, u2, u3, some (.int l4), some (.int l5), u6, u7], [.int (-1)])) rfl ?_
    exact Ex.iret rfl (Or.inl rfl) H
  · replace H := H.2 (hb)
    refine Ex.pure 2 (fr2 := (93, [some (.ref 6), u1, u2, u3, some (.int l4), some (.int l5), u6, u7], [.int l5])) rfl ?_
    exact Ex.iret rfl (Or.inl rfl) H
theorem w_X2_lessened {d : Nat} {h : XH} {y : Nat → Nat} {K : XK} {E : XE} {a : Int32} {b : Int32} (hd : 20 ≤ d) (hs : Sg h.1 y) (H : (Ca d m_X2_draftLess [.ref 6, .int a, .int b] h (fun rv h1 => rv = none ∧ Sg h1.1 y ∧ (Ca d m_X2_made [.ref 6, .ref 11] h1 (fun rv h3 => ∃ x4, rv = some (.int x4) ∧ ∃ y5 : Nat → Nat, Sg h3.1 y5 ∧ K (some (.int x4)) h3) E)) E)) : Ca (d + 1) m_X2_lessened [.ref 6, .int a, .int b] h K E := by
  refine Ca.of ⟨by show 3 ≤ 3; omega, rfl⟩ ?_
  show Ex d [] tb_X2_lessened (0, [some (.ref 6), some (.int a), some (.int b)], []) h _
  refine Ex.pure 3 (fr2 := (3, [some (.ref 6), some (.int a), some (.int b)], [.int b, .int a, .ref 6])) rfl ?_
  refine Ex.cal (rest := []) (j := m_X2_draftLess) (as := [.ref 6, .int a, .int b]) (vst (a := 41) (b := 3) (c := 2) (rest := []) (vs := [.int a, .int b]) rfl ⟨Nat.le_of_ble_eq_true rfl, Nat.le_of_ble_eq_true rfl⟩ rfl rfl (sg_6 hs)) (H.imp ?_)
  intro rv h1 H
  obtain ⟨rfl, H⟩ := H
  obtain ⟨hs, H⟩ := H
  show Ex d [] tb_X2_lessened (6, [some (.ref 6), some (.int a), some (.int b)], []) h1 _
  refine Ex.pure 2 (fr2 := (8, [some (.ref 6), some (.int a), some (.int b)], [.ref 6, .ref 6])) rfl ?_
  refine Ex.getQ rfl (sg_6 hs) rfl ?_
  refine Ex.cal (rest := []) (j := m_X2_made) (as := [.ref 6, .ref 11]) (vst (a := 43) (b := 2) (c := 2) (rest := []) (vs := [.ref 11]) rfl ⟨Nat.le_of_ble_eq_true rfl, Nat.le_of_ble_eq_true rfl⟩ rfl rfl (sg_6 hs)) (H.imp ?_)
  intro rv h3 H
  obtain ⟨x4, rfl, H⟩ := H
  obtain ⟨y5, hs, H⟩ := H
  show Ex d [] tb_X2_lessened (14, [some (.ref 6), some (.int a), some (.int b)], [.int x4]) h3 _
  exact Ex.iret rfl (Or.inl rfl) H
