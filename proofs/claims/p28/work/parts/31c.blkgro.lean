/-! ===== layer 2: growths, tally and walk by blocks, written by a program ===== -/
theorem sg_y8 {T : List XT} {y : Nat → Nat} (hs : Sg T y) : T[y 8]? = some (0, 1, [some (y 8 + 1), some (y 8 + 2), none]) := (sg_Gn hs).1.1
theorem sg_y9 {T : List XT} {y : Nat → Nat} (hs : Sg T y) : T[y 9]? = some (0, 1, [some (y 9 + 1), some (y 9 + 2), none]) := (sg_Gn hs).2.1
theorem w_X1_add {d : Nat} {h : XH} {y : Nat → Nat} {K : XK} {E : XE} {q : Nat} {n : Nat} {v : Int64} {k : Int64} (hd : 20 ≤ d) (hs : Sg h.1 y) (ho_q : Gq h.1 q n) (hn_q : n < 2 ^ 31) (H : (v = 0 → K none h) ∧ (¬ (v = 0) → ((Int32.ofNat n) ≤ (h.2.1 q 2) → K none h) ∧ (¬ ((Int32.ofNat n) ≤ (h.2.1 q 2)) → (∀ h1 : XH, h1 = (p_J h (q + 1) n (h.2.1 q 2) v) → (∀ h2 : XH, h2 = (p_J h1 (q + 2) n (h1.2.1 q 2) k) → (∀ h3 : XH, h3 = (x_setI h2 q 2 ((h2.2.1 q 2) + 1)) → K none h3)))))) : Ca (d + 1) m_X1_add [.ref q, .long v, .long k] h K E := by
  refine Ca.of ⟨by show 5 ≤ 5; omega, rfl⟩ ?_
  show Ex d [] tb_X1_add (0, [some (.ref q), some (.long v), none, some (.long k), none], []) h _
  refine Ex.pure 3 (fr2 := (3, [some (.ref q), some (.long v), none, some (.long k), none], [.int (lg_cmp v 0)])) rfl ?_
  refine Ex.br (x := (52, [some (.ref q), some (.long v), none, some (.long k), none], [])) (y := (6, [some (.ref q), some (.long v), none, some (.long k), none], [])) (b := (lg_cmp v 0) = 0) rfl (fun hb => ?_) (fun hb => ?_)
  · replace H := H.1 ((lg_cmp_eq _ _).mp hb)
    exact Ex.vret rfl H
  · replace H := H.2 (fun z => hb ((lg_cmp_eq _ _).mpr z))
    refine Ex.pure 1 (fr2 := (7, [some (.ref q), some (.long v), none, some (.long k), none], [.ref q])) rfl ?_
    refine Ex.getI rfl (Or.inl rfl) ho_q.1 ?_
    refine Ex.pure 1 (fr2 := (11, [some (.ref q), some (.long v), none, some (.long k), none], [.ref q, .int (h.2.1 q 2)])) rfl ?_
    refine Ex.getQ rfl ho_q.1 rfl ?_
    refine Ex.alen rfl (by decide) ho_q.2.1 ?_
    refine Ex.br (x := (52, [some (.ref q), some (.long v), none, some (.long k), none], [])) (y := (18, [some (.ref q), some (.long v), none, some (.long k), none], [])) (b := (Int32.ofNat n) ≤ (h.2.1 q 2)) rfl (fun hb => ?_) (fun hb => ?_)
    · replace H := H.1 (hb)
      exact Ex.vret rfl H
    · replace H := H.2 (hb)
      refine Ex.pure 1 (fr2 := (19, [some (.ref q), some (.long v), none, some (.long k), none], [.ref q])) rfl ?_
      refine Ex.getQ rfl ho_q.1 rfl ?_
      refine Ex.pure 1 (fr2 := (23, [some (.ref q), some (.long v), none, some (.long k), none], [.ref q, .ref (q + 1)])) rfl ?_
      refine Ex.getI rfl (Or.inl rfl) ho_q.1 ?_
      refine Ex.pure 1 (fr2 := (27, [some (.ref q), some (.long v), none, some (.long k), none], [.long v, .int (h.2.1 q 2), .ref (q + 1)])) rfl ?_
      refine Ex.ask (rest := []) (j := m_X3_put_) (as := [.ref (q + 1), .int (h.2.1 q 2), .long v]) (fun c => rfl) ((t_X3_put_ (d := 0) ho_q.2.1 hn_q).mono (by omega) (fun _ _ z => z)) ?_
      rintro _ h1 ⟨rfl, e1⟩
      replace H := H h1 e1
      replace hs : Sg h1.1 y := by rw [e1, p_J_sh]; exact hs
      replace ho_q : Gq h1.1 q n := by rw [e1, p_J_sh]; exact ho_q
      show Ex d [] tb_X1_add (30, [some (.ref q), some (.long v), none, some (.long k), none], []) h1 _
      refine Ex.pure 1 (fr2 := (31, [some (.ref q), some (.long v), none, some (.long k), none], [.ref q])) rfl ?_
      refine Ex.getQ rfl ho_q.1 rfl ?_
      refine Ex.pure 1 (fr2 := (35, [some (.ref q), some (.long v), none, some (.long k), none], [.ref q, .ref (q + 2)])) rfl ?_
      refine Ex.getI rfl (Or.inl rfl) ho_q.1 ?_
      refine Ex.pure 1 (fr2 := (39, [some (.ref q), some (.long v), none, some (.long k), none], [.long k, .int (h1.2.1 q 2), .ref (q + 2)])) rfl ?_
      refine Ex.ask (rest := []) (j := m_X3_put_) (as := [.ref (q + 2), .int (h1.2.1 q 2), .long k]) (fun c => rfl) ((t_X3_put_ (d := 0) ho_q.2.2 hn_q).mono (by omega) (fun _ _ z => z)) ?_
      rintro _ h2 ⟨rfl, e2⟩
      replace H := H h2 e2
      replace hs : Sg h2.1 y := by rw [e2, p_J_sh]; exact hs
      replace ho_q : Gq h2.1 q n := by rw [e2, p_J_sh]; exact ho_q
      show Ex d [] tb_X1_add (42, [some (.ref q), some (.long v), none, some (.long k), none], []) h2 _
      refine Ex.pure 2 (fr2 := (44, [some (.ref q), some (.long v), none, some (.long k), none], [.ref q, .ref q])) rfl ?_
      refine Ex.getI rfl (Or.inl rfl) ho_q.1 ?_
      refine Ex.pure 2 (fr2 := (49, [some (.ref q), some (.long v), none, some (.long k), none], [.int ((h2.2.1 q 2) + 1), .ref q])) rfl ?_
      refine Ex.putI rfl ho_q.1 ?_
      obtain ⟨h3, e3⟩ : ∃ z : XH, z = (x_setI h2 q 2 ((h2.2.1 q 2) + 1)) := ⟨_, rfl⟩
      rw [← e3]
      replace H := H h3 e3
      replace hs : Sg h3.1 y := by rw [e3]; exact hs
      replace ho_q : Gq h3.1 q n := by rw [e3]; exact ho_q
      exact Ex.vret rfl H
def b_X1_copy_6 (d : Nat) (r_0 : Nat) (r_1 : Nat) (l2 : Int32) (h : XH) (K : XK) (E : XE) : Prop := Ex d [] tb_X1_copy (6, [some (.ref r_0), some (.ref r_1), some (.int l2)], []) h (Po K E)
theorem w_X1_copy {d : Nat} {h : XH} {y : Nat → Nat} {K : XK} {E : XE} {q : Nat} {n : Nat} {o : Nat} {n_o : Nat} (hd : 20 ≤ d) (hs : Sg h.1 y) (ho_q : Gq h.1 q n) (hn_q : n < 2 ^ 31) (ho_o : Gq h.1 o n_o) (hn_o : n_o < 2 ^ 31) (H : (∀ h1 : XH, h1 = (x_setI h q 2 0) → b_X1_copy_6 d q o 0 h1 K E)) : Ca (d + 1) m_X1_copy [.ref q, .ref o] h K E := by
  refine Ca.of ⟨by show 2 ≤ 3; omega, rfl⟩ ?_
  show Ex d [] tb_X1_copy (0, [some (.ref q), some (.ref o), none], []) h _
  refine Ex.pure 1 (fr2 := (1, [some (.ref q), some (.ref o), none], [.ref q])) rfl ?_
  refine Ex.ask (rest := []) (j := m_X1_restart) (as := [.ref q]) (vst (a := 14) (b := 1) (c := 1) (rest := []) (vs := []) rfl ⟨Nat.le_of_ble_eq_true rfl, Nat.le_of_ble_eq_true rfl⟩ rfl rfl ho_q.1) ((t_X1_restart (d := 0) ho_q.1).mono (by omega) (fun _ _ z => z)) ?_
  rintro _ h1 ⟨rfl, e1⟩
  replace H := H h1 e1
  replace hs : Sg h1.1 y := by rw [e1]; exact hs
  replace ho_q : Gq h1.1 q n := by rw [e1]; exact ho_q
  replace ho_o : Gq h1.1 o n_o := by rw [e1]; exact ho_o
  show Ex d [] tb_X1_copy (4, [some (.ref q), some (.ref o), none], []) h1 _
  refine Ex.pure 2 (fr2 := (6, [some (.ref q), some (.ref o), some (.int 0)], [])) rfl ?_
  exact H
theorem w_X1_copy_6 {d : Nat} {h : XH} {y : Nat → Nat} {K : XK} {E : XE} {q : Nat} {n : Nat} {o : Nat} {n_o : Nat} {l2 : Int32} (hd : 20 ≤ d) (hs : Sg h.1 y) (ho_q : Gq h.1 q n) (hn_q : n < 2 ^ 31) (ho_o : Gq h.1 o n_o) (hn_o : n_o < 2 ^ 31) (H : ((h.2.1 o 2) ≤ l2 → K none h) ∧ (¬ ((h.2.1 o 2) ≤ l2) → (Ca d m_X1_add [.ref q, .long (g_J h (o + 1) n_o l2), .long (g_J h (o + 2) n_o l2)] h (fun rv h4 => rv = none ∧ Sg h4.1 y ∧ Gq h4.1 q n ∧ Gq h4.1 o n_o ∧ b_X1_copy_6 d q o (l2 + 1) h4 K E) E))) : b_X1_copy_6 d q o l2 h K E := by
  show Ex d [] tb_X1_copy (6, [some (.ref q), some (.ref o), some (.int l2)], []) h _
  refine Ex.pure 2 (fr2 := (8, [some (.ref q), some (.ref o), some (.int l2)], [.ref o, .int l2])) rfl ?_
  refine Ex.ask (rest := [.int l2]) (j := m_X1_count) (as := [.ref o]) (vst (a := 11) (b := 1) (c := 1) (rest := [.int l2]) (vs := []) rfl ⟨Nat.le_of_ble_eq_true rfl, Nat.le_of_ble_eq_true rfl⟩ rfl rfl ho_o.1) ((t_X1_count (d := 0) ho_o.1).mono (by omega) (fun _ _ z => z)) ?_
  rintro _ h0 ⟨rfl, e0⟩
  rw [e0]
  show Ex d [] tb_X1_copy (11, [some (.ref q), some (.ref o), some (.int l2)], [.int (h.2.1 o 2), .int l2]) h _
  refine Ex.br (x := (34, [some (.ref q), some (.ref o), some (.int l2)], [])) (y := (14, [some (.ref q), some (.ref o), some (.int l2)], [])) (b := (h.2.1 o 2) ≤ l2) rfl (fun hb => ?_) (fun hb => ?_)
  · replace H := H.1 (hb)
    exact Ex.vret rfl H
  · replace H := H.2 (hb)
    refine Ex.pure 3 (fr2 := (17, [some (.ref q), some (.ref o), some (.int l2)], [.int l2, .ref o, .ref q])) rfl ?_
    refine Ex.ask (rest := [.ref q]) (j := m_X1_timesAt) (as := [.ref o, .int l2]) (vst (a := 12) (b := 2) (c := 1) (rest := [.ref q]) (vs := [.int l2]) rfl ⟨Nat.le_of_ble_eq_true rfl, Nat.le_of_ble_eq_true rfl⟩ rfl rfl ho_o.1) ((t_X1_timesAt (d := 0) ho_o.1 rfl ho_o.2.1 hn_o).mono (by omega) (fun _ _ z => z)) ?_
    rintro _ h0 ⟨rfl, e0⟩
    rw [e0]
    show Ex d [] tb_X1_copy (20, [some (.ref q), some (.ref o), some (.int l2)], [.long (g_J h (o + 1) n_o l2), .ref q]) h _
    refine Ex.pure 2 (fr2 := (22, [some (.ref q), some (.ref o), some (.int l2)], [.int l2, .ref o, .long (g_J h (o + 1) n_o l2), .ref q])) rfl ?_
    refine Ex.ask (rest := [.long (g_J h (o + 1) n_o l2), .ref q]) (j := m_X1_keyAt) (as := [.ref o, .int l2]) (vst (a := 13) (b := 2) (c := 1) (rest := [.long (g_J h (o + 1) n_o l2), .ref q]) (vs := [.int l2]) rfl ⟨Nat.le_of_ble_eq_true rfl, Nat.le_of_ble_eq_true rfl⟩ rfl rfl ho_o.1) ((t_X1_keyAt (d := 0) ho_o.1 rfl ho_o.2.2 hn_o).mono (by omega) (fun _ _ z => z)) ?_
    rintro _ h0 ⟨rfl, e0⟩
    rw [e0]
    show Ex d [] tb_X1_copy (25, [some (.ref q), some (.ref o), some (.int l2)], [.long (g_J h (o + 2) n_o l2), .long (g_J h (o + 1) n_o l2), .ref q]) h _
    refine Ex.cal (rest := []) (j := m_X1_add) (as := [.ref q, .long (g_J h (o + 1) n_o l2), .long (g_J h (o + 2) n_o l2)]) (vst (a := 15) (b := 3) (c := 1) (rest := []) (vs := [.long (g_J h (o + 1) n_o l2), .long (g_J h (o + 2) n_o l2)]) rfl ⟨Nat.le_of_ble_eq_true rfl, Nat.le_of_ble_eq_true rfl⟩ rfl rfl ho_q.1) (H.imp ?_)
    intro rv h4 H
    obtain ⟨rfl, H⟩ := H
    obtain ⟨hs, H⟩ := H
    obtain ⟨ho_q, H⟩ := H
    obtain ⟨ho_o, H⟩ := H
    show Ex d [] tb_X1_copy (28, [some (.ref q), some (.ref o), some (.int l2)], []) h4 _
    refine Ex.pure 2 (fr2 := (6, [some (.ref q), some (.ref o), some (.int (l2 + 1))], [])) rfl ?_
    exact H
def b_X1_fits_14 (d : Nat) (r_0 : Nat) (u1 : Option Value) (u2 : Option Value) (s0 : Int32) (h : XH) (K : XK) (E : XE) : Prop := Ex d [] tb_X1_fits (14, [some (.ref r_0), u1, u2], [.int s0]) h (Po K E)
def b_X1_fits_17 (d : Nat) (r_0 : Nat) (l1 : Int32) (l2 : Int32) (h : XH) (K : XK) (E : XE) : Prop := Ex d [] tb_X1_fits (17, [some (.ref r_0), some (.int l1), some (.int l2)], []) h (Po K E)
def b_X1_fits_68 (d : Nat) (r_0 : Nat) (u1 : Option Value) (l2 : Int32) (h : XH) (K : XK) (E : XE) : Prop := Ex d [] tb_X1_fits (68, [some (.ref r_0), u1, some (.int l2)], []) h (Po K E)
def b_X1_fits_69 (d : Nat) (r_0 : Nat) (u1 : Option Value) (l2 : Int32) (s0 : Int32) (h : XH) (K : XK) (E : XE) : Prop := Ex d [] tb_X1_fits (69, [some (.ref r_0), u1, some (.int l2)], [.int s0]) h (Po K E)
theorem w_X1_fits {d : Nat} {h : XH} {y : Nat → Nat} {K : XK} {E : XE} {q : Nat} {n : Nat} (hd : 20 ≤ d) (hs : Sg h.1 y) (ho_q : Gq h.1 q n) (hn_q : n < 2 ^ 31) (H : (20 < (h.2.1 q 2) → b_X1_fits_14 d q none none 0 h K E) ∧ (¬ (20 < (h.2.1 q 2)) → b_X1_fits_14 d q none none 1 h K E)) : Ca (d + 1) m_X1_fits [.ref q] h K E := by
  refine Ca.of ⟨by show 1 ≤ 3; omega, rfl⟩ ?_
  show Ex d [] tb_X1_fits (0, [some (.ref q), none, none], []) h _
  refine Ex.pure 1 (fr2 := (1, [some (.ref q), none, none], [.ref q])) rfl ?_
  refine Ex.getI rfl (Or.inl rfl) ho_q.1 ?_
  refine Ex.pure 1 (fr2 := (6, [some (.ref q), none, none], [.int 20, .int (h.2.1 q 2)])) rfl ?_
  refine Ex.br (x := (13, [some (.ref q), none, none], [])) (y := (9, [some (.ref q), none, none], [])) (b := 20 < (h.2.1 q 2)) rfl (fun hb => ?_) (fun hb => ?_)
  · replace H := H.1 (hb)
    refine Ex.pure 1 (fr2 := (14, [some (.ref q), none, none], [.int 0])) rfl ?_
    exact H
  · replace H := H.2 (hb)
    refine Ex.pure 2 (fr2 := (14, [some (.ref q), none, none], [.int 1])) rfl ?_
    exact H
theorem w_X1_fits_14 {d : Nat} {h : XH} {y : Nat → Nat} {K : XK} {E : XE} {q : Nat} {n : Nat} {u1 : Option Value} {u2 : Option Value} {s0 : Int32} (hd : 20 ≤ d) (hs : Sg h.1 y) (ho_q : Gq h.1 q n) (hn_q : n < 2 ^ 31) (H : b_X1_fits_17 d q s0 0 h K E) : b_X1_fits_14 d q u1 u2 s0 h K E := by
  show Ex d [] tb_X1_fits (14, [some (.ref q), u1, u2], [.int s0]) h _
  refine Ex.pure 3 (fr2 := (17, [some (.ref q), some (.int s0), some (.int 0)], [])) rfl ?_
  exact H
theorem w_X1_fits_17 {d : Nat} {h : XH} {y : Nat → Nat} {K : XK} {E : XE} {q : Nat} {n : Nat} {l1 : Int32} {l2 : Int32} (hd : 20 ≤ d) (hs : Sg h.1 y) (ho_q : Gq h.1 q n) (hn_q : n < 2 ^ 31) (H : ((h.2.1 q 2) ≤ l2 → (l1 = 0 ∨ l1 = 1) ∧ K (some (.int l1)) h) ∧ (¬ ((h.2.1 q 2) ≤ l2) → (l1 = 0 → b_X1_fits_68 d q (some (.int l1)) l2 h K E) ∧ (¬ (l1 = 0) → ((g_J h (q + 1) n l2) < (-100000000) → b_X1_fits_68 d q (some (.int l1)) l2 h K E) ∧ (¬ ((g_J h (q + 1) n l2) < (-100000000)) → (100000000 < (g_J h (q + 1) n l2) → b_X1_fits_68 d q (some (.int l1)) l2 h K E) ∧ (¬ (100000000 < (g_J h (q + 1) n l2)) → (Ca d m_X1_exponentsFit [.long (g_J h (q + 2) n l2)] h (fun rv h4 => ∃ x5, rv = some (.int x5) ∧ Sg h4.1 y ∧ Gq h4.1 q n ∧ (x5 = 0 → b_X1_fits_68 d q (some (.int l1)) l2 h4 K E) ∧ (¬ (x5 = 0) → b_X1_fits_69 d q (some (.int l1)) l2 1 h4 K E)) E)))))) : b_X1_fits_17 d q l1 l2 h K E := by
  show Ex d [] tb_X1_fits (17, [some (.ref q), some (.int l1), some (.int l2)], []) h _
  refine Ex.pure 2 (fr2 := (19, [some (.ref q), some (.int l1), some (.int l2)], [.ref q, .int l2])) rfl ?_
  refine Ex.getI rfl (Or.inl rfl) ho_q.1 ?_
  refine Ex.br (x := (76, [some (.ref q), some (.int l1), some (.int l2)], [])) (y := (25, [some (.ref q), some (.int l1), some (.int l2)], [])) (b := (h.2.1 q 2) ≤ l2) rfl (fun hb => ?_) (fun hb => ?_)
  · replace H := H.1 (hb)
    refine Ex.pure 1 (fr2 := (77, [some (.ref q), some (.int l1), some (.int l2)], [.int l1])) rfl ?_
    exact Ex.iret rfl (Or.inr ⟨rfl, H.1⟩) H.2
  · replace H := H.2 (hb)
    refine Ex.pure 1 (fr2 := (26, [some (.ref q), some (.int l1), some (.int l2)], [.int l1])) rfl ?_
    refine Ex.br (x := (68, [some (.ref q), some (.int l1), some (.int l2)], [])) (y := (29, [some (.ref q), some (.int l1), some (.int l2)], [])) (b := l1 = 0) rfl (fun hb => ?_) (fun hb => ?_)
    · replace H := H.1 (hb)
      exact H
    · replace H := H.2 (hb)
      refine Ex.pure 2 (fr2 := (31, [some (.ref q), some (.int l1), some (.int l2)], [.int l2, .ref q])) rfl ?_
      refine Ex.ask (rest := []) (j := m_X1_timesAt) (as := [.ref q, .int l2]) (vst (a := 12) (b := 2) (c := 1) (rest := []) (vs := [.int l2]) rfl ⟨Nat.le_of_ble_eq_true rfl, Nat.le_of_ble_eq_true rfl⟩ rfl rfl ho_q.1) ((t_X1_timesAt (d := 0) ho_q.1 rfl ho_q.2.1 hn_q).mono (by omega) (fun _ _ z => z)) ?_
      rintro _ h0 ⟨rfl, e0⟩
      rw [e0]
      show Ex d [] tb_X1_fits (34, [some (.ref q), some (.int l1), some (.int l2)], [.long (g_J h (q + 1) n l2)]) h _
      refine Ex.pure 2 (fr2 := (38, [some (.ref q), some (.int l1), some (.int l2)], [.int (lg_cmp (g_J h (q + 1) n l2) (-100000000))])) rfl ?_
      refine Ex.br (x := (68, [some (.ref q), some (.int l1), some (.int l2)], [])) (y := (41, [some (.ref q), some (.int l1), some (.int l2)], [])) (b := (lg_cmp (g_J h (q + 1) n l2) (-100000000)) < 0) rfl (fun hb => ?_) (fun hb => ?_)
      · replace H := H.1 ((lg_cmp_lt _ _).mp hb)
        exact H
      · replace H := H.2 (fun z => hb ((lg_cmp_lt _ _).mpr z))
        refine Ex.pure 2 (fr2 := (43, [some (.ref q), some (.int l1), some (.int l2)], [.int l2, .ref q])) rfl ?_
        refine Ex.ask (rest := []) (j := m_X1_timesAt) (as := [.ref q, .int l2]) (vst (a := 12) (b := 2) (c := 1) (rest := []) (vs := [.int l2]) rfl ⟨Nat.le_of_ble_eq_true rfl, Nat.le_of_ble_eq_true rfl⟩ rfl rfl ho_q.1) ((t_X1_timesAt (d := 0) ho_q.1 rfl ho_q.2.1 hn_q).mono (by omega) (fun _ _ z => z)) ?_
        rintro _ h0 ⟨rfl, e0⟩
        rw [e0]
        show Ex d [] tb_X1_fits (46, [some (.ref q), some (.int l1), some (.int l2)], [.long (g_J h (q + 1) n l2)]) h _
        refine Ex.pure 2 (fr2 := (50, [some (.ref q), some (.int l1), some (.int l2)], [.int (lg_cmp (g_J h (q + 1) n l2) 100000000)])) rfl ?_
        refine Ex.br (x := (68, [some (.ref q), some (.int l1), some (.int l2)], [])) (y := (53, [some (.ref q), some (.int l1), some (.int l2)], [])) (b := 0 < (lg_cmp (g_J h (q + 1) n l2) 100000000)) rfl (fun hb => ?_) (fun hb => ?_)
        · replace H := H.1 ((lg_cmp_gt _ _).mp hb)
          exact H
        · replace H := H.2 (fun z => hb ((lg_cmp_gt _ _).mpr z))
          refine Ex.pure 2 (fr2 := (55, [some (.ref q), some (.int l1), some (.int l2)], [.int l2, .ref q])) rfl ?_
          refine Ex.ask (rest := []) (j := m_X1_keyAt) (as := [.ref q, .int l2]) (vst (a := 13) (b := 2) (c := 1) (rest := []) (vs := [.int l2]) rfl ⟨Nat.le_of_ble_eq_true rfl, Nat.le_of_ble_eq_true rfl⟩ rfl rfl ho_q.1) ((t_X1_keyAt (d := 0) ho_q.1 rfl ho_q.2.2 hn_q).mono (by omega) (fun _ _ z => z)) ?_
          rintro _ h0 ⟨rfl, e0⟩
          rw [e0]
          show Ex d [] tb_X1_fits (58, [some (.ref q), some (.int l1), some (.int l2)], [.long (g_J h (q + 2) n l2)]) h _
          refine Ex.cal (rest := []) (j := m_X1_exponentsFit) (as := [.long (g_J h (q + 2) n l2)]) (fun c => rfl) (H.imp ?_)
          intro rv h4 H
          obtain ⟨x5, rfl, H⟩ := H
          obtain ⟨hs, H⟩ := H
          obtain ⟨ho_q, H⟩ := H
          show Ex d [] tb_X1_fits (61, [some (.ref q), some (.int l1), some (.int l2)], [.int x5]) h4 _
          refine Ex.br (x := (68, [some (.ref q), some (.int l1), some (.int l2)], [])) (y := (64, [some (.ref q), some (.int l1), some (.int l2)], [])) (b := x5 = 0) rfl (fun hb => ?_) (fun hb => ?_)
          · replace H := H.1 (hb)
            exact H
          · replace H := H.2 (hb)
            refine Ex.pure 2 (fr2 := (69, [some (.ref q), some (.int l1), some (.int l2)], [.int 1])) rfl ?_
            exact H
theorem w_X1_fits_68 {d : Nat} {h : XH} {y : Nat → Nat} {K : XK} {E : XE} {q : Nat} {n : Nat} {u1 : Option Value} {l2 : Int32} (hd : 20 ≤ d) (hs : Sg h.1 y) (ho_q : Gq h.1 q n) (hn_q : n < 2 ^ 31) (H : b_X1_fits_69 d q (u1) l2 0 h K E) : b_X1_fits_68 d q u1 l2 h K E := by
  show Ex d [] tb_X1_fits (68, [some (.ref q), u1, some (.int l2)], []) h _
  refine Ex.pure 1 (fr2 := (69, [some (.ref q), u1, some (.int l2)], [.int 0])) rfl ?_
  exact H
theorem w_X1_fits_69 {d : Nat} {h : XH} {y : Nat → Nat} {K : XK} {E : XE} {q : Nat} {n : Nat} {u1 : Option Value} {l2 : Int32} {s0 : Int32} (hd : 20 ≤ d) (hs : Sg h.1 y) (ho_q : Gq h.1 q n) (hn_q : n < 2 ^ 31) (H : b_X1_fits_17 d q s0 (l2 + 1) h K E) : b_X1_fits_69 d q u1 l2 s0 h K E := by
  show Ex d [] tb_X1_fits (69, [some (.ref q), u1, some (.int l2)], [.int s0]) h _
  refine Ex.pure 3 (fr2 := (17, [some (.ref q), some (.int s0), some (.int (l2 + 1))], [])) rfl ?_
  exact H
def b_X1_exponentsFit_4 (d : Nat) (l0 : Int64) (l2 : Int32) (l3 : Int32) (u4 : Option Value) (h : XH) (K : XK) (E : XE) : Prop := Ex d [] tb_X1_exponentsFit (4, [some (.long l0), none, some (.int l2), some (.int l3), u4], []) h (Po K E)
def b_X1_exponentsFit_38 (d : Nat) (l0 : Int64) (u2 : Option Value) (l3 : Int32) (u4 : Option Value) (h : XH) (K : XK) (E : XE) : Prop := Ex d [] tb_X1_exponentsFit (38, [some (.long l0), none, u2, some (.int l3), u4], []) h (Po K E)
def b_X1_exponentsFit_39 (d : Nat) (l0 : Int64) (u2 : Option Value) (l3 : Int32) (u4 : Option Value) (s0 : Int32) (h : XH) (K : XK) (E : XE) : Prop := Ex d [] tb_X1_exponentsFit (39, [some (.long l0), none, u2, some (.int l3), u4], [.int s0]) h (Po K E)
theorem w_X1_exponentsFit {d : Nat} {h : XH} {y : Nat → Nat} {K : XK} {E : XE} {k : Int64} (hd : 20 ≤ d) (hs : Sg h.1 y) (H : b_X1_exponentsFit_4 d k 1 1 none h K E) : Ca (d + 1) m_X1_exponentsFit [.long k] h K E := by
  refine Ca.of ⟨by show 2 ≤ 5; omega, rfl⟩ ?_
  show Ex d [] tb_X1_exponentsFit (0, [some (.long k), none, none, none, none], []) h _
  refine Ex.pure 4 (fr2 := (4, [some (.long k), none, some (.int 1), some (.int 1), none], [])) rfl ?_
  exact H
theorem w_X1_exponentsFit_4 {d : Nat} {h : XH} {y : Nat → Nat} {K : XK} {E : XE} {l0 : Int64} {l2 : Int32} {l3 : Int32} {u4 : Option Value} (hd : 20 ≤ d) (hs : Sg h.1 y) (H : (4 < l3 → (l2 = 0 ∨ l2 = 1) ∧ K (some (.int l2)) h) ∧ (¬ (4 < l3) → (l2 = 0 → b_X1_exponentsFit_38 d l0 (some (.int l2)) l3 (some (.int (xpin l0 l3))) h K E) ∧ (¬ (l2 = 0) → ((xpin l0 l3) < (-99) → b_X1_exponentsFit_38 d l0 (some (.int l2)) l3 (some (.int (xpin l0 l3))) h K E) ∧ (¬ ((xpin l0 l3) < (-99)) → (99 < (xpin l0 l3) → b_X1_exponentsFit_38 d l0 (some (.int l2)) l3 (some (.int (xpin l0 l3))) h K E) ∧ (¬ (99 < (xpin l0 l3)) → b_X1_exponentsFit_39 d l0 (some (.int l2)) l3 (some (.int (xpin l0 l3))) 1 h K E))))) : b_X1_exponentsFit_4 d l0 l2 l3 u4 h K E := by
  show Ex d [] tb_X1_exponentsFit (4, [some (.long l0), none, some (.int l2), some (.int l3), u4], []) h _
  refine Ex.pure 2 (fr2 := (6, [some (.long l0), none, some (.int l2), some (.int l3), u4], [.int 4, .int l3])) rfl ?_
  refine Ex.br (x := (46, [some (.long l0), none, some (.int l2), some (.int l3), u4], [])) (y := (9, [some (.long l0), none, some (.int l2), some (.int l3), u4], [])) (b := 4 < l3) rfl (fun hb => ?_) (fun hb => ?_)
  · replace H := H.1 (hb)
    refine Ex.pure 1 (fr2 := (47, [some (.long l0), none, some (.int l2), some (.int l3), u4], [.int l2])) rfl ?_
    exact Ex.iret rfl (Or.inr ⟨rfl, H.1⟩) H.2
  · replace H := H.2 (hb)
    refine Ex.pure 2 (fr2 := (11, [some (.long l0), none, some (.int l2), some (.int l3), u4], [.int l3, .long l0])) rfl ?_
    refine Ex.ask (rest := []) (j := m_X1_exponentIn) (as := [.long l0, .int l3]) (fun c => rfl) ((t_X1_exponentIn hs).mono (by omega) (fun _ _ z => z)) ?_
    rintro _ h0 ⟨rfl, e0⟩
    rw [e0]
    show Ex d [] tb_X1_exponentsFit (14, [some (.long l0), none, some (.int l2), some (.int l3), u4], [.int (xpin l0 l3)]) h _
    refine Ex.pure 2 (fr2 := (17, [some (.long l0), none, some (.int l2), some (.int l3), some (.int (xpin l0 l3))], [.int l2])) rfl ?_
    refine Ex.br (x := (38, [some (.long l0), none, some (.int l2), some (.int l3), some (.int (xpin l0 l3))], [])) (y := (20, [some (.long l0), none, some (.int l2), some (.int l3), some (.int (xpin l0 l3))], [])) (b := l2 = 0) rfl (fun hb => ?_) (fun hb => ?_)
    · replace H := H.1 (hb)
      exact H
    · replace H := H.2 (hb)
      refine Ex.pure 2 (fr2 := (24, [some (.long l0), none, some (.int l2), some (.int l3), some (.int (xpin l0 l3))], [.int (-99), .int (xpin l0 l3)])) rfl ?_
      refine Ex.br (x := (38, [some (.long l0), none, some (.int l2), some (.int l3), some (.int (xpin l0 l3))], [])) (y := (27, [some (.long l0), none, some (.int l2), some (.int l3), some (.int (xpin l0 l3))], [])) (b := (xpin l0 l3) < (-99)) rfl (fun hb => ?_) (fun hb => ?_)
      · replace H := H.1 (hb)
        exact H
      · replace H := H.2 (hb)
        refine Ex.pure 2 (fr2 := (31, [some (.long l0), none, some (.int l2), some (.int l3), some (.int (xpin l0 l3))], [.int 99, .int (xpin l0 l3)])) rfl ?_
        refine Ex.br (x := (38, [some (.long l0), none, some (.int l2), some (.int l3), some (.int (xpin l0 l3))], [])) (y := (34, [some (.long l0), none, some (.int l2), some (.int l3), some (.int (xpin l0 l3))], [])) (b := 99 < (xpin l0 l3)) rfl (fun hb => ?_) (fun hb => ?_)
        · replace H := H.1 (hb)
          exact H
        · replace H := H.2 (hb)
          refine Ex.pure 2 (fr2 := (39, [some (.long l0), none, some (.int l2), some (.int l3), some (.int (xpin l0 l3))], [.int 1])) rfl ?_
          exact H
theorem w_X1_exponentsFit_38 {d : Nat} {h : XH} {y : Nat → Nat} {K : XK} {E : XE} {l0 : Int64} {u2 : Option Value} {l3 : Int32} {u4 : Option Value} (hd : 20 ≤ d) (hs : Sg h.1 y) (H : b_X1_exponentsFit_39 d l0 (u2) l3 (u4) 0 h K E) : b_X1_exponentsFit_38 d l0 u2 l3 u4 h K E := by
  show Ex d [] tb_X1_exponentsFit (38, [some (.long l0), none, u2, some (.int l3), u4], []) h _
  refine Ex.pure 1 (fr2 := (39, [some (.long l0), none, u2, some (.int l3), u4], [.int 0])) rfl ?_
  exact H
theorem w_X1_exponentsFit_39 {d : Nat} {h : XH} {y : Nat → Nat} {K : XK} {E : XE} {l0 : Int64} {u2 : Option Value} {l3 : Int32} {u4 : Option Value} {s0 : Int32} (hd : 20 ≤ d) (hs : Sg h.1 y) (H : b_X1_exponentsFit_4 d l0 s0 (l3 + 1) (u4) h K E) : b_X1_exponentsFit_39 d l0 u2 l3 u4 s0 h K E := by
  show Ex d [] tb_X1_exponentsFit (39, [some (.long l0), none, u2, some (.int l3), u4], [.int s0]) h _
  refine Ex.pure 3 (fr2 := (4, [some (.long l0), none, some (.int s0), some (.int (l3 + 1)), u4], [])) rfl ?_
  exact H
def b_X1_comparedWith_14 (d : Nat) (r_0 : Nat) (r_1 : Nat) (l2 : Int32) (l3 : Int32) (u4 : Option Value) (u5 : Option Value) (u6 : Option Value) (u7 : Option Value) (u8 : Option Value) (u9 : Option Value) (u10 : Option Value) (u11 : Option Value) (h : XH) (K : XK) (E : XE) : Prop := Ex d [] tb_X1_comparedWith (14, [some (.ref r_0), some (.ref r_1), some (.int l2), some (.int l3), u4, u5, u6, u7, u8, u9, u10, u11], []) h (Po K E)
def b_X1_comparedWith_36 (d : Nat) (r_0 : Nat) (r_1 : Nat) (l2 : Int32) (l3 : Int32) (u4 : Option Value) (u5 : Option Value) (u6 : Option Value) (u7 : Option Value) (u8 : Option Value) (u9 : Option Value) (u10 : Option Value) (u11 : Option Value) (s0 : Int64) (h : XH) (K : XK) (E : XE) : Prop := Ex d [] tb_X1_comparedWith (36, [some (.ref r_0), some (.ref r_1), some (.int l2), some (.int l3), u4, u5, u6, u7, u8, u9, u10, u11], [.long s0]) h (Po K E)
def b_X1_comparedWith_55 (d : Nat) (r_0 : Nat) (r_1 : Nat) (l2 : Int32) (l3 : Int32) (l4 : Int64) (u6 : Option Value) (u7 : Option Value) (u8 : Option Value) (u9 : Option Value) (u10 : Option Value) (u11 : Option Value) (s0 : Int64) (h : XH) (K : XK) (E : XE) : Prop := Ex d [] tb_X1_comparedWith (55, [some (.ref r_0), some (.ref r_1), some (.int l2), some (.int l3), some (.long l4), none, u6, u7, u8, u9, u10, u11], [.long s0]) h (Po K E)
def b_X1_comparedWith_74 (d : Nat) (r_0 : Nat) (r_1 : Nat) (l2 : Int32) (l3 : Int32) (l4 : Int64) (l6 : Int64) (u8 : Option Value) (u9 : Option Value) (u10 : Option Value) (u11 : Option Value) (s0 : Int64) (h : XH) (K : XK) (E : XE) : Prop := Ex d [] tb_X1_comparedWith (74, [some (.ref r_0), some (.ref r_1), some (.int l2), some (.int l3), some (.long l4), none, some (.long l6), none, u8, u9, u10, u11], [.long s0]) h (Po K E)
def b_X1_comparedWith_93 (d : Nat) (r_0 : Nat) (r_1 : Nat) (l2 : Int32) (l3 : Int32) (u4 : Option Value) (u5 : Option Value) (u6 : Option Value) (u7 : Option Value) (l8 : Int64) (u10 : Option Value) (u11 : Option Value) (s0 : Int64) (h : XH) (K : XK) (E : XE) : Prop := Ex d [] tb_X1_comparedWith (93, [some (.ref r_0), some (.ref r_1), some (.int l2), some (.int l3), u4, u5, u6, u7, some (.long l8), none, u10, u11], [.long s0]) h (Po K E)
theorem w_X1_comparedWith {d : Nat} {h : XH} {y : Nat → Nat} {K : XK} {E : XE} {q : Nat} {n : Nat} {o : Nat} {n_o : Nat} (hd : 20 ≤ d) (hs : Sg h.1 y) (ho_q : Gq h.1 q n) (hn_q : n < 2 ^ 31) (ho_o : Gq h.1 o n_o) (hn_o : n_o < 2 ^ 31) (H : b_X1_comparedWith_14 d q o (mxI (h.2.1 q 2) (h.2.1 o 2)) 0 none none none none none none none none h K E) : Ca (d + 1) m_X1_comparedWith [.ref q, .ref o] h K E := by
  refine Ca.of ⟨by show 2 ≤ 12; omega, rfl⟩ ?_
  show Ex d [] tb_X1_comparedWith (0, [some (.ref q), some (.ref o), none, none, none, none, none, none, none, none, none, none], []) h _
  refine Ex.pure 1 (fr2 := (1, [some (.ref q), some (.ref o), none, none, none, none, none, none, none, none, none, none], [.ref q])) rfl ?_
  refine Ex.getI rfl (Or.inl rfl) ho_q.1 ?_
  refine Ex.pure 1 (fr2 := (5, [some (.ref q), some (.ref o), none, none, none, none, none, none, none, none, none, none], [.ref o, .int (h.2.1 q 2)])) rfl ?_
  refine Ex.ask (rest := [.int (h.2.1 q 2)]) (j := m_X1_count) (as := [.ref o]) (vst (a := 11) (b := 1) (c := 1) (rest := [.int (h.2.1 q 2)]) (vs := []) rfl ⟨Nat.le_of_ble_eq_true rfl, Nat.le_of_ble_eq_true rfl⟩ rfl rfl ho_o.1) ((t_X1_count (d := 0) ho_o.1).mono (by omega) (fun _ _ z => z)) ?_
  rintro _ h0 ⟨rfl, e0⟩
  rw [e0]
  show Ex d [] tb_X1_comparedWith (8, [some (.ref q), some (.ref o), none, none, none, none, none, none, none, none, none, none], [.int (h.2.1 o 2), .int (h.2.1 q 2)]) h _
  refine Ex.st (r := some (.inl ((11, [some (.ref q), some (.ref o), none, none, none, none, none, none, none, none, none, none], [.int (mxI (h.2.1 q 2) (h.2.1 o 2))]), h))) (fun c => rfl) ?_
  show Ex d [] tb_X1_comparedWith (11, [some (.ref q), some (.ref o), none, none, none, none, none, none, none, none, none, none], [.int (mxI (h.2.1 q 2) (h.2.1 o 2))]) h _
  refine Ex.pure 3 (fr2 := (14, [some (.ref q), some (.ref o), some (.int (mxI (h.2.1 q 2) (h.2.1 o 2))), some (.int 0), none, none, none, none, none, none, none, none], [])) rfl ?_
  exact H
theorem w_X1_comparedWith_14 {d : Nat} {h : XH} {y : Nat → Nat} {K : XK} {E : XE} {q : Nat} {n : Nat} {o : Nat} {n_o : Nat} {l2 : Int32} {l3 : Int32} {u4 : Option Value} {u5 : Option Value} {u6 : Option Value} {u7 : Option Value} {u8 : Option Value} {u9 : Option Value} {u10 : Option Value} {u11 : Option Value} (hd : 20 ≤ d) (hs : Sg h.1 y) (ho_q : Gq h.1 q n) (hn_q : n < 2 ^ 31) (ho_o : Gq h.1 o n_o) (hn_o : n_o < 2 ^ 31) (H : (l2 ≤ l3 → K (some (.int 0)) h) ∧ (¬ (l2 ≤ l3) → ((h.2.1 q 2) ≤ l3 → b_X1_comparedWith_36 d q o l2 l3 (u4) (u5) (u6) (u7) (u8) (u9) (u10) (u11) 0 h K E) ∧ (¬ ((h.2.1 q 2) ≤ l3) → b_X1_comparedWith_36 d q o l2 l3 (u4) (u5) (u6) (u7) (u8) (u9) (u10) (u11) (g_J h (q + 2) n l3) h K E))) : b_X1_comparedWith_14 d q o l2 l3 u4 u5 u6 u7 u8 u9 u10 u11 h K E := by
  show Ex d [] tb_X1_comparedWith (14, [some (.ref q), some (.ref o), some (.int l2), some (.int l3), u4, u5, u6, u7, u8, u9, u10, u11], []) h _
  refine Ex.pure 2 (fr2 := (16, [some (.ref q), some (.ref o), some (.int l2), some (.int l3), u4, u5, u6, u7, u8, u9, u10, u11], [.int l2, .int l3])) rfl ?_
  refine Ex.br (x := (117, [some (.ref q), some (.ref o), some (.int l2), some (.int l3), u4, u5, u6, u7, u8, u9, u10, u11], [])) (y := (19, [some (.ref q), some (.ref o), some (.int l2), some (.int l3), u4, u5, u6, u7, u8, u9, u10, u11], [])) (b := l2 ≤ l3) rfl (fun hb => ?_) (fun hb => ?_)
  · replace H := H.1 (hb)
    refine Ex.pure 1 (fr2 := (118, [some (.ref q), some (.ref o), some (.int l2), some (.int l3), u4, u5, u6, u7, u8, u9, u10, u11], [.int 0])) rfl ?_
    exact Ex.iret rfl (Or.inl rfl) H
  · replace H := H.2 (hb)
    refine Ex.pure 2 (fr2 := (21, [some (.ref q), some (.ref o), some (.int l2), some (.int l3), u4, u5, u6, u7, u8, u9, u10, u11], [.ref q, .int l3])) rfl ?_
    refine Ex.getI rfl (Or.inl rfl) ho_q.1 ?_
    refine Ex.br (x := (35, [some (.ref q), some (.ref o), some (.int l2), some (.int l3), u4, u5, u6, u7, u8, u9, u10, u11], [])) (y := (27, [some (.ref q), some (.ref o), some (.int l2), some (.int l3), u4, u5, u6, u7, u8, u9, u10, u11], [])) (b := (h.2.1 q 2) ≤ l3) rfl (fun hb => ?_) (fun hb => ?_)
    · replace H := H.1 (hb)
      refine Ex.pure 1 (fr2 := (36, [some (.ref q), some (.ref o), some (.int l2), some (.int l3), u4, u5, u6, u7, u8, u9, u10, u11], [.long 0])) rfl ?_
      exact H
    · replace H := H.2 (hb)
      refine Ex.pure 2 (fr2 := (29, [some (.ref q), some (.ref o), some (.int l2), some (.int l3), u4, u5, u6, u7, u8, u9, u10, u11], [.int l3, .ref q])) rfl ?_
      refine Ex.ask (rest := []) (j := m_X1_keyAt) (as := [.ref q, .int l3]) (vst (a := 13) (b := 2) (c := 1) (rest := []) (vs := [.int l3]) rfl ⟨Nat.le_of_ble_eq_true rfl, Nat.le_of_ble_eq_true rfl⟩ rfl rfl ho_q.1) ((t_X1_keyAt (d := 0) ho_q.1 rfl ho_q.2.2 hn_q).mono (by omega) (fun _ _ z => z)) ?_
      rintro _ h0 ⟨rfl, e0⟩
      rw [e0]
      show Ex d [] tb_X1_comparedWith (32, [some (.ref q), some (.ref o), some (.int l2), some (.int l3), u4, u5, u6, u7, u8, u9, u10, u11], [.long (g_J h (q + 2) n l3)]) h _
      refine Ex.pure 1 (fr2 := (36, [some (.ref q), some (.ref o), some (.int l2), some (.int l3), u4, u5, u6, u7, u8, u9, u10, u11], [.long (g_J h (q + 2) n l3)])) rfl ?_
      exact H
theorem w_X1_comparedWith_36 {d : Nat} {h : XH} {y : Nat → Nat} {K : XK} {E : XE} {q : Nat} {n : Nat} {o : Nat} {n_o : Nat} {l2 : Int32} {l3 : Int32} {u4 : Option Value} {u5 : Option Value} {u6 : Option Value} {u7 : Option Value} {u8 : Option Value} {u9 : Option Value} {u10 : Option Value} {u11 : Option Value} {s0 : Int64} (hd : 20 ≤ d) (hs : Sg h.1 y) (ho_q : Gq h.1 q n) (hn_q : n < 2 ^ 31) (ho_o : Gq h.1 o n_o) (hn_o : n_o < 2 ^ 31) (H : ((h.2.1 o 2) ≤ l3 → b_X1_comparedWith_55 d q o l2 l3 s0 (u6) (u7) (u8) (u9) (u10) (u11) 0 h K E) ∧ (¬ ((h.2.1 o 2) ≤ l3) → b_X1_comparedWith_55 d q o l2 l3 s0 (u6) (u7) (u8) (u9) (u10) (u11) (g_J h (o + 2) n_o l3) h K E)) : b_X1_comparedWith_36 d q o l2 l3 u4 u5 u6 u7 u8 u9 u10 u11 s0 h K E := by
  show Ex d [] tb_X1_comparedWith (36, [some (.ref q), some (.ref o), some (.int l2), some (.int l3), u4, u5, u6, u7, u8, u9, u10, u11], [.long s0]) h _
  refine Ex.pure 3 (fr2 := (40, [some (.ref q), some (.ref o), some (.int l2), some (.int l3), some (.long s0), none, u6, u7, u8, u9, u10, u11], [.ref o, .int l3])) rfl ?_
  refine Ex.ask (rest := [.int l3]) (j := m_X1_count) (as := [.ref o]) (vst (a := 11) (b := 1) (c := 1) (rest := [.int l3]) (vs := []) rfl ⟨Nat.le_of_ble_eq_true rfl, Nat.le_of_ble_eq_true rfl⟩ rfl rfl ho_o.1) ((t_X1_count (d := 0) ho_o.1).mono (by omega) (fun _ _ z => z)) ?_
  rintro _ h0 ⟨rfl, e0⟩
  rw [e0]
  show Ex d [] tb_X1_comparedWith (43, [some (.ref q), some (.ref o), some (.int l2), some (.int l3), some (.long s0), none, u6, u7, u8, u9, u10, u11], [.int (h.2.1 o 2), .int l3]) h _
  refine Ex.br (x := (54, [some (.ref q), some (.ref o), some (.int l2), some (.int l3), some (.long s0), none, u6, u7, u8, u9, u10, u11], [])) (y := (46, [some (.ref q), some (.ref o), some (.int l2), some (.int l3), some (.long s0), none, u6, u7, u8, u9, u10, u11], [])) (b := (h.2.1 o 2) ≤ l3) rfl (fun hb => ?_) (fun hb => ?_)
  · replace H := H.1 (hb)
    refine Ex.pure 1 (fr2 := (55, [some (.ref q), some (.ref o), some (.int l2), some (.int l3), some (.long s0), none, u6, u7, u8, u9, u10, u11], [.long 0])) rfl ?_
    exact H
  · replace H := H.2 (hb)
    refine Ex.pure 2 (fr2 := (48, [some (.ref q), some (.ref o), some (.int l2), some (.int l3), some (.long s0), none, u6, u7, u8, u9, u10, u11], [.int l3, .ref o])) rfl ?_
    refine Ex.ask (rest := []) (j := m_X1_keyAt) (as := [.ref o, .int l3]) (vst (a := 13) (b := 2) (c := 1) (rest := []) (vs := [.int l3]) rfl ⟨Nat.le_of_ble_eq_true rfl, Nat.le_of_ble_eq_true rfl⟩ rfl rfl ho_o.1) ((t_X1_keyAt (d := 0) ho_o.1 rfl ho_o.2.2 hn_o).mono (by omega) (fun _ _ z => z)) ?_
    rintro _ h0 ⟨rfl, e0⟩
    rw [e0]
    show Ex d [] tb_X1_comparedWith (51, [some (.ref q), some (.ref o), some (.int l2), some (.int l3), some (.long s0), none, u6, u7, u8, u9, u10, u11], [.long (g_J h (o + 2) n_o l3)]) h _
    refine Ex.pure 1 (fr2 := (55, [some (.ref q), some (.ref o), some (.int l2), some (.int l3), some (.long s0), none, u6, u7, u8, u9, u10, u11], [.long (g_J h (o + 2) n_o l3)])) rfl ?_
    exact H
theorem w_X1_comparedWith_55 {d : Nat} {h : XH} {y : Nat → Nat} {K : XK} {E : XE} {q : Nat} {n : Nat} {o : Nat} {n_o : Nat} {l2 : Int32} {l3 : Int32} {l4 : Int64} {u6 : Option Value} {u7 : Option Value} {u8 : Option Value} {u9 : Option Value} {u10 : Option Value} {u11 : Option Value} {s0 : Int64} (hd : 20 ≤ d) (hs : Sg h.1 y) (ho_q : Gq h.1 q n) (hn_q : n < 2 ^ 31) (ho_o : Gq h.1 o n_o) (hn_o : n_o < 2 ^ 31) (H : (l4 < s0 → b_X1_comparedWith_74 d q o l2 l3 l4 s0 (u8) (u9) (u10) (u11) 0 h K E) ∧ (¬ (l4 < s0) → b_X1_comparedWith_74 d q o l2 l3 l4 s0 (u8) (u9) (u10) (u11) (g_J h (q + 1) n l3) h K E)) : b_X1_comparedWith_55 d q o l2 l3 l4 u6 u7 u8 u9 u10 u11 s0 h K E := by
  show Ex d [] tb_X1_comparedWith (55, [some (.ref q), some (.ref o), some (.int l2), some (.int l3), some (.long l4), none, u6, u7, u8, u9, u10, u11], [.long s0]) h _
  refine Ex.pure 4 (fr2 := (62, [some (.ref q), some (.ref o), some (.int l2), some (.int l3), some (.long l4), none, some (.long s0), none, u8, u9, u10, u11], [.int (lg_cmp l4 s0)])) rfl ?_
  refine Ex.br (x := (73, [some (.ref q), some (.ref o), some (.int l2), some (.int l3), some (.long l4), none, some (.long s0), none, u8, u9, u10, u11], [])) (y := (65, [some (.ref q), some (.ref o), some (.int l2), some (.int l3), some (.long l4), none, some (.long s0), none, u8, u9, u10, u11], [])) (b := (lg_cmp l4 s0) < 0) rfl (fun hb => ?_) (fun hb => ?_)
  · replace H := H.1 ((lg_cmp_lt _ _).mp hb)
    refine Ex.pure 1 (fr2 := (74, [some (.ref q), some (.ref o), some (.int l2), some (.int l3), some (.long l4), none, some (.long s0), none, u8, u9, u10, u11], [.long 0])) rfl ?_
    exact H
  · replace H := H.2 (fun z => hb ((lg_cmp_lt _ _).mpr z))
    refine Ex.pure 2 (fr2 := (67, [some (.ref q), some (.ref o), some (.int l2), some (.int l3), some (.long l4), none, some (.long s0), none, u8, u9, u10, u11], [.int l3, .ref q])) rfl ?_
    refine Ex.ask (rest := []) (j := m_X1_timesAt) (as := [.ref q, .int l3]) (vst (a := 12) (b := 2) (c := 1) (rest := []) (vs := [.int l3]) rfl ⟨Nat.le_of_ble_eq_true rfl, Nat.le_of_ble_eq_true rfl⟩ rfl rfl ho_q.1) ((t_X1_timesAt (d := 0) ho_q.1 rfl ho_q.2.1 hn_q).mono (by omega) (fun _ _ z => z)) ?_
    rintro _ h0 ⟨rfl, e0⟩
    rw [e0]
    show Ex d [] tb_X1_comparedWith (70, [some (.ref q), some (.ref o), some (.int l2), some (.int l3), some (.long l4), none, some (.long s0), none, u8, u9, u10, u11], [.long (g_J h (q + 1) n l3)]) h _
    refine Ex.pure 1 (fr2 := (74, [some (.ref q), some (.ref o), some (.int l2), some (.int l3), some (.long l4), none, some (.long s0), none, u8, u9, u10, u11], [.long (g_J h (q + 1) n l3)])) rfl ?_
    exact H
theorem w_X1_comparedWith_74 {d : Nat} {h : XH} {y : Nat → Nat} {K : XK} {E : XE} {q : Nat} {n : Nat} {o : Nat} {n_o : Nat} {l2 : Int32} {l3 : Int32} {l4 : Int64} {l6 : Int64} {u8 : Option Value} {u9 : Option Value} {u10 : Option Value} {u11 : Option Value} {s0 : Int64} (hd : 20 ≤ d) (hs : Sg h.1 y) (ho_q : Gq h.1 q n) (hn_q : n < 2 ^ 31) (ho_o : Gq h.1 o n_o) (hn_o : n_o < 2 ^ 31) (H : (l6 < l4 → b_X1_comparedWith_93 d q o l2 l3 (some (.long l4)) none (some (.long l6)) none s0 (u10) (u11) 0 h K E) ∧ (¬ (l6 < l4) → b_X1_comparedWith_93 d q o l2 l3 (some (.long l4)) none (some (.long l6)) none s0 (u10) (u11) (g_J h (o + 1) n_o l3) h K E)) : b_X1_comparedWith_74 d q o l2 l3 l4 l6 u8 u9 u10 u11 s0 h K E := by
  show Ex d [] tb_X1_comparedWith (74, [some (.ref q), some (.ref o), some (.int l2), some (.int l3), some (.long l4), none, some (.long l6), none, u8, u9, u10, u11], [.long s0]) h _
  refine Ex.pure 4 (fr2 := (81, [some (.ref q), some (.ref o), some (.int l2), some (.int l3), some (.long l4), none, some (.long l6), none, some (.long s0), none, u10, u11], [.int (lg_cmp l6 l4)])) rfl ?_
  refine Ex.br (x := (92, [some (.ref q), some (.ref o), some (.int l2), some (.int l3), some (.long l4), none, some (.long l6), none, some (.long s0), none, u10, u11], [])) (y := (84, [some (.ref q), some (.ref o), some (.int l2), some (.int l3), some (.long l4), none, some (.long l6), none, some (.long s0), none, u10, u11], [])) (b := (lg_cmp l6 l4) < 0) rfl (fun hb => ?_) (fun hb => ?_)
  · replace H := H.1 ((lg_cmp_lt _ _).mp hb)
    refine Ex.pure 1 (fr2 := (93, [some (.ref q), some (.ref o), some (.int l2), some (.int l3), some (.long l4), none, some (.long l6), none, some (.long s0), none, u10, u11], [.long 0])) rfl ?_
    exact H
  · replace H := H.2 (fun z => hb ((lg_cmp_lt _ _).mpr z))
    refine Ex.pure 2 (fr2 := (86, [some (.ref q), some (.ref o), some (.int l2), some (.int l3), some (.long l4), none, some (.long l6), none, some (.long s0), none, u10, u11], [.int l3, .ref o])) rfl ?_
    refine Ex.ask (rest := []) (j := m_X1_timesAt) (as := [.ref o, .int l3]) (vst (a := 12) (b := 2) (c := 1) (rest := []) (vs := [.int l3]) rfl ⟨Nat.le_of_ble_eq_true rfl, Nat.le_of_ble_eq_true rfl⟩ rfl rfl ho_o.1) ((t_X1_timesAt (d := 0) ho_o.1 rfl ho_o.2.1 hn_o).mono (by omega) (fun _ _ z => z)) ?_
    rintro _ h0 ⟨rfl, e0⟩
    rw [e0]
    show Ex d [] tb_X1_comparedWith (89, [some (.ref q), some (.ref o), some (.int l2), some (.int l3), some (.long l4), none, some (.long l6), none, some (.long s0), none, u10, u11], [.long (g_J h (o + 1) n_o l3)]) h _
    refine Ex.pure 1 (fr2 := (93, [some (.ref q), some (.ref o), some (.int l2), some (.int l3), some (.long l4), none, some (.long l6), none, some (.long s0), none, u10, u11], [.long (g_J h (o + 1) n_o l3)])) rfl ?_
    exact H
theorem w_X1_comparedWith_93 {d : Nat} {h : XH} {y : Nat → Nat} {K : XK} {E : XE} {q : Nat} {n : Nat} {o : Nat} {n_o : Nat} {l2 : Int32} {l3 : Int32} {u4 : Option Value} {u5 : Option Value} {u6 : Option Value} {u7 : Option Value} {l8 : Int64} {u10 : Option Value} {u11 : Option Value} {s0 : Int64} (hd : 20 ≤ d) (hs : Sg h.1 y) (ho_q : Gq h.1 q n) (hn_q : n < 2 ^ 31) (ho_o : Gq h.1 o n_o) (hn_o : n_o < 2 ^ 31) (H : (l8 = s0 → b_X1_comparedWith_14 d q o l2 (l3 + 1) (u4) (u5) (u6) (u7) (some (.long l8)) none (some (.long s0)) none h K E) ∧ (¬ (l8 = s0) → K (some (.int (c_J l8 s0))) h)) : b_X1_comparedWith_93 d q o l2 l3 u4 u5 u6 u7 l8 u10 u11 s0 h K E := by
  show Ex d [] tb_X1_comparedWith (93, [some (.ref q), some (.ref o), some (.int l2), some (.int l3), u4, u5, u6, u7, some (.long l8), none, u10, u11], [.long s0]) h _
  refine Ex.pure 4 (fr2 := (100, [some (.ref q), some (.ref o), some (.int l2), some (.int l3), u4, u5, u6, u7, some (.long l8), none, some (.long s0), none], [.int (lg_cmp l8 s0)])) rfl ?_
  refine Ex.br (x := (111, [some (.ref q), some (.ref o), some (.int l2), some (.int l3), u4, u5, u6, u7, some (.long l8), none, some (.long s0), none], [])) (y := (103, [some (.ref q), some (.ref o), some (.int l2), some (.int l3), u4, u5, u6, u7, some (.long l8), none, some (.long s0), none], [])) (b := (lg_cmp l8 s0) = 0) rfl (fun hb => ?_) (fun hb => ?_)
  · replace H := H.1 ((lg_cmp_eq _ _).mp hb)
    refine Ex.pure 2 (fr2 := (14, [some (.ref q), some (.ref o), some (.int l2), some (.int (l3 + 1)), u4, u5, u6, u7, some (.long l8), none, some (.long s0), none], [])) rfl ?_
    exact H
  · replace H := H.2 (fun z => hb ((lg_cmp_eq _ _).mpr z))
    refine Ex.pure 2 (fr2 := (107, [some (.ref q), some (.ref o), some (.int l2), some (.int l3), u4, u5, u6, u7, some (.long l8), none, some (.long s0), none], [.long s0, .long l8])) rfl ?_
    refine Ex.ask (rest := []) (j := m_J13_compare_74951) (as := [.long l8, .long s0]) (fun c => rfl) ((t_J13_compare_74951 hs).mono (by omega) (fun _ _ z => z)) ?_
    rintro _ h0 ⟨rfl, e0⟩
    rw [e0]
    show Ex d [] tb_X1_comparedWith (110, [some (.ref q), some (.ref o), some (.int l2), some (.int l3), u4, u5, u6, u7, some (.long l8), none, some (.long s0), none], [.int (c_J l8 s0)]) h _
    exact Ex.iret rfl (Or.inl rfl) H
theorem w_X1_limit {d : Nat} {h : XH} {y : Nat → Nat} {K : XK} {E : XE} {q : Nat} {n : Nat} (hd : 20 ≤ d) (hs : Sg h.1 y) (ho_q : Gq h.1 q n) (hn_q : n < 2 ^ 31) (H : ((h.2.1 q 2) = 0 → K (some (.int 0)) h) ∧ (¬ ((h.2.1 q 2) = 0) → (550293209600 ≤ (g_J h (q + 2) n 0) → (¬ (g_J h (q + 2) n 0) = 550293209600 → ((g_J h (q + 1) n 0) ≤ 0 → K (some (.int 3)) h) ∧ (¬ ((g_J h (q + 1) n 0) ≤ 0) → K (some (.int 2)) h)) ∧ (¬ (¬ (g_J h (q + 2) n 0) = 550293209600) → K (some (.int 1)) h)) ∧ (¬ (550293209600 ≤ (g_J h (q + 2) n 0)) → K (some (.int 0)) h))) : Ca (d + 1) m_X1_limit [.ref q] h K E := by
  refine Ca.of ⟨by show 1 ≤ 1; omega, rfl⟩ ?_
  show Ex d [] tb_X1_limit (0, [some (.ref q)], []) h _
  refine Ex.pure 1 (fr2 := (1, [some (.ref q)], [.ref q])) rfl ?_
  refine Ex.getI rfl (Or.inl rfl) ho_q.1 ?_
  refine Ex.br (x := (19, [some (.ref q)], [])) (y := (7, [some (.ref q)], [])) (b := (h.2.1 q 2) = 0) rfl (fun hb => ?_) (fun hb => ?_)
  · replace H := H.1 (hb)
    refine Ex.pure 1 (fr2 := (20, [some (.ref q)], [.int 0])) rfl ?_
    exact Ex.iret rfl (Or.inl rfl) H
  · replace H := H.2 (hb)
    refine Ex.pure 2 (fr2 := (9, [some (.ref q)], [.int 0, .ref q])) rfl ?_
    refine Ex.ask (rest := []) (j := m_X1_keyAt) (as := [.ref q, .int 0]) (vst (a := 13) (b := 2) (c := 1) (rest := []) (vs := [.int 0]) rfl ⟨Nat.le_of_ble_eq_true rfl, Nat.le_of_ble_eq_true rfl⟩ rfl rfl ho_q.1) ((t_X1_keyAt (d := 0) ho_q.1 rfl ho_q.2.2 hn_q).mono (by omega) (fun _ _ z => z)) ?_
    rintro _ h0 ⟨rfl, e0⟩
    rw [e0]
    show Ex d [] tb_X1_limit (12, [some (.ref q)], [.long (g_J h (q + 2) n 0)]) h _
    refine Ex.pure 2 (fr2 := (16, [some (.ref q)], [.int (lg_cmp (g_J h (q + 2) n 0) 550293209600)])) rfl ?_
    refine Ex.br (x := (21, [some (.ref q)], [])) (y := (19, [some (.ref q)], [])) (b := 0 ≤ (lg_cmp (g_J h (q + 2) n 0) 550293209600)) rfl (fun hb => ?_) (fun hb => ?_)
    · replace H := H.1 ((lg_cmp_ge _ _).mp hb)
      refine Ex.pure 2 (fr2 := (23, [some (.ref q)], [.int 0, .ref q])) rfl ?_
      refine Ex.ask (rest := []) (j := m_X1_keyAt) (as := [.ref q, .int 0]) (vst (a := 13) (b := 2) (c := 1) (rest := []) (vs := [.int 0]) rfl ⟨Nat.le_of_ble_eq_true rfl, Nat.le_of_ble_eq_true rfl⟩ rfl rfl ho_q.1) ((t_X1_keyAt (d := 0) ho_q.1 rfl ho_q.2.2 hn_q).mono (by omega) (fun _ _ z => z)) ?_
      rintro _ h0 ⟨rfl, e0⟩
      rw [e0]
      show Ex d [] tb_X1_limit (26, [some (.ref q)], [.long (g_J h (q + 2) n 0)]) h _
      refine Ex.pure 2 (fr2 := (30, [some (.ref q)], [.int (lg_cmp (g_J h (q + 2) n 0) 550293209600)])) rfl ?_
      refine Ex.br (x := (35, [some (.ref q)], [])) (y := (33, [some (.ref q)], [])) (b := ¬ (lg_cmp (g_J h (q + 2) n 0) 550293209600) = 0) rfl (fun hb => ?_) (fun hb => ?_)
      · replace H := H.1 (fun z => hb ((lg_cmp_eq _ _).mpr z))
        refine Ex.pure 2 (fr2 := (37, [some (.ref q)], [.int 0, .ref q])) rfl ?_
        refine Ex.ask (rest := []) (j := m_X1_timesAt) (as := [.ref q, .int 0]) (vst (a := 12) (b := 2) (c := 1) (rest := []) (vs := [.int 0]) rfl ⟨Nat.le_of_ble_eq_true rfl, Nat.le_of_ble_eq_true rfl⟩ rfl rfl ho_q.1) ((t_X1_timesAt (d := 0) ho_q.1 rfl ho_q.2.1 hn_q).mono (by omega) (fun _ _ z => z)) ?_
        rintro _ h0 ⟨rfl, e0⟩
        rw [e0]
        show Ex d [] tb_X1_limit (40, [some (.ref q)], [.long (g_J h (q + 1) n 0)]) h _
        refine Ex.pure 2 (fr2 := (42, [some (.ref q)], [.int (lg_cmp (g_J h (q + 1) n 0) 0)])) rfl ?_
        refine Ex.br (x := (49, [some (.ref q)], [])) (y := (45, [some (.ref q)], [])) (b := (lg_cmp (g_J h (q + 1) n 0) 0) ≤ 0) rfl (fun hb => ?_) (fun hb => ?_)
        · replace H := H.1 ((lg_cmp_le _ _).mp hb)
          refine Ex.pure 1 (fr2 := (50, [some (.ref q)], [.int 3])) rfl ?_
          exact Ex.iret rfl (Or.inl rfl) H
        · replace H := H.2 (fun z => hb ((lg_cmp_le _ _).mpr z))
          refine Ex.pure 2 (fr2 := (50, [some (.ref q)], [.int 2])) rfl ?_
          exact Ex.iret rfl (Or.inl rfl) H
      · replace H := H.2 (fun z => hb (fun w => z ((lg_cmp_eq _ _).mp w)))
        refine Ex.pure 1 (fr2 := (34, [some (.ref q)], [.int 1])) rfl ?_
        exact Ex.iret rfl (Or.inl rfl) H
    · replace H := H.2 (fun z => hb ((lg_cmp_ge _ _).mpr z))
      refine Ex.pure 1 (fr2 := (20, [some (.ref q)], [.int 0])) rfl ?_
      exact Ex.iret rfl (Or.inl rfl) H
theorem w_X4_restart {d : Nat} {h : XH} {y : Nat → Nat} {K : XK} {E : XE} (hd : 20 ≤ d) (hs : Sg h.1 y) (H : (∀ h1 : XH, h1 = (x_setI h (y 8) 2 0) → K none h1)) : Ca (d + 1) m_X4_restart [.ref 19] h K E := by
  refine Ca.of ⟨by show 1 ≤ 1; omega, rfl⟩ ?_
  show Ex d [] tb_X4_restart (0, [some (.ref 19)], []) h _
  refine Ex.pure 1 (fr2 := (1, [some (.ref 19)], [.ref 19])) rfl ?_
  refine Ex.getQ rfl (sg_19 hs) rfl ?_
  refine Ex.ask (rest := []) (j := m_X1_restart) (as := [.ref (y 8)]) (vst (a := 14) (b := 1) (c := 1) (rest := []) (vs := []) rfl ⟨Nat.le_of_ble_eq_true rfl, Nat.le_of_ble_eq_true rfl⟩ rfl rfl (sg_y8 hs)) ((t_X1_restart (d := 0) (sg_y8 hs)).mono (by omega) (fun _ _ z => z)) ?_
  rintro _ h1 ⟨rfl, e1⟩
  replace H := H h1 e1
  replace hs : Sg h1.1 y := by rw [e1]; exact hs
  show Ex d [] tb_X4_restart (7, [some (.ref 19)], []) h1 _
  exact Ex.vret rfl H
theorem w_X4_addPart {d : Nat} {h : XH} {y : Nat → Nat} {K : XK} {E : XE} {v : Int64} {k : Int64} (hd : 20 ≤ d) (hs : Sg h.1 y) (H : (∀ h1 : XH, h1 = (x_setI h 26 2 0) → (Ca d m_X1_add [.ref 26, .long v, .long k] h1 (fun rv h2 => rv = none ∧ Sg h2.1 y ∧ (Ca d m_X4_addRow [.ref 19] h2 (fun rv h4 => rv = none ∧ ∃ y6 : Nat → Nat, Sg h4.1 y6 ∧ K none h4) E)) E))) : Ca (d + 1) m_X4_addPart [.ref 19, .long v, .long k] h K E := by
  refine Ca.of ⟨by show 5 ≤ 5; omega, rfl⟩ ?_
  show Ex d [] tb_X4_addPart (0, [some (.ref 19), some (.long v), none, some (.long k), none], []) h _
  refine Ex.pure 1 (fr2 := (1, [some (.ref 19), some (.long v), none, some (.long k), none], [.ref 19])) rfl ?_
  refine Ex.getQ rfl (sg_19 hs) rfl ?_
  refine Ex.ask (rest := []) (j := m_X1_restart) (as := [.ref 26]) (vst (a := 14) (b := 1) (c := 1) (rest := []) (vs := []) rfl ⟨Nat.le_of_ble_eq_true rfl, Nat.le_of_ble_eq_true rfl⟩ rfl rfl (sg_26 hs)) ((t_X1_restart (d := 0) (sg_26 hs)).mono (by omega) (fun _ _ z => z)) ?_
  rintro _ h1 ⟨rfl, e1⟩
  replace H := H h1 e1
  replace hs : Sg h1.1 y := by rw [e1]; exact hs
  show Ex d [] tb_X4_addPart (7, [some (.ref 19), some (.long v), none, some (.long k), none], []) h1 _
  refine Ex.pure 1 (fr2 := (8, [some (.ref 19), some (.long v), none, some (.long k), none], [.ref 19])) rfl ?_
  refine Ex.getQ rfl (sg_19 hs) rfl ?_
  refine Ex.pure 2 (fr2 := (13, [some (.ref 19), some (.long v), none, some (.long k), none], [.long k, .long v, .ref 26])) rfl ?_
  refine Ex.cal (rest := []) (j := m_X1_add) (as := [.ref 26, .long v, .long k]) (vst (a := 15) (b := 3) (c := 1) (rest := []) (vs := [.long v, .long k]) rfl ⟨Nat.le_of_ble_eq_true rfl, Nat.le_of_ble_eq_true rfl⟩ rfl rfl (sg_26 hs)) (H.imp ?_)
  intro rv h2 H
  obtain ⟨rfl, H⟩ := H
  obtain ⟨hs, H⟩ := H
  show Ex d [] tb_X4_addPart (16, [some (.ref 19), some (.long v), none, some (.long k), none], []) h2 _
  refine Ex.pure 1 (fr2 := (17, [some (.ref 19), some (.long v), none, some (.long k), none], [.ref 19])) rfl ?_
  refine Ex.cal (rest := []) (j := m_X4_addRow) (as := [.ref 19]) (vst (a := 58) (b := 1) (c := 3) (rest := []) (vs := []) rfl ⟨Nat.le_of_ble_eq_true rfl, Nat.le_of_ble_eq_true rfl⟩ rfl rfl (sg_19 hs)) (H.imp ?_)
  intro rv h4 H
  obtain ⟨rfl, H⟩ := H
  obtain ⟨y6, hs, H⟩ := H
  show Ex d [] tb_X4_addPart (20, [some (.ref 19), some (.long v), none, some (.long k), none], []) h4 _
  exact Ex.vret rfl H
def b_X4_addMultiple_10 (d : Nat) (r_0 : Nat) (r_1 : Nat) (l2 : Int64) (l4 : Int64) (l6 : Int32) (h : XH) (K : XK) (E : XE) : Prop := Ex d [] tb_X4_addMultiple (10, [some (.ref r_0), some (.ref r_1), some (.long l2), none, some (.long l4), none, some (.int l6)], []) h (Po K E)
theorem w_X4_addMultiple {d : Nat} {h : XH} {y : Nat → Nat} {K : XK} {E : XE} {o : Nat} {n_o : Nat} {v : Int64} {k : Int64} (hd : 20 ≤ d) (hs : Sg h.1 y) (ho_o : Gq h.1 o n_o) (hn_o : n_o < 2 ^ 31) (H : (∀ h1 : XH, h1 = (x_setI h 26 2 0) → b_X4_addMultiple_10 d 19 o v k 0 h1 K E)) : Ca (d + 1) m_X4_addMultiple [.ref 19, .ref o, .long v, .long k] h K E := by
  refine Ca.of ⟨by show 6 ≤ 7; omega, rfl⟩ ?_
  show Ex d [] tb_X4_addMultiple (0, [some (.ref 19), some (.ref o), some (.long v), none, some (.long k), none, none], []) h _
  refine Ex.pure 1 (fr2 := (1, [some (.ref 19), some (.ref o), some (.long v), none, some (.long k), none, none], [.ref 19])) rfl ?_
  refine Ex.getQ rfl (sg_19 hs) rfl ?_
  refine Ex.ask (rest := []) (j := m_X1_restart) (as := [.ref 26]) (vst (a := 14) (b := 1) (c := 1) (rest := []) (vs := []) rfl ⟨Nat.le_of_ble_eq_true rfl, Nat.le_of_ble_eq_true rfl⟩ rfl rfl (sg_26 hs)) ((t_X1_restart (d := 0) (sg_26 hs)).mono (by omega) (fun _ _ z => z)) ?_
  rintro _ h1 ⟨rfl, e1⟩
  replace H := H h1 e1
  replace hs : Sg h1.1 y := by rw [e1]; exact hs
  replace ho_o : Gq h1.1 o n_o := by rw [e1]; exact ho_o
  show Ex d [] tb_X4_addMultiple (7, [some (.ref 19), some (.ref o), some (.long v), none, some (.long k), none, none], []) h1 _
  refine Ex.pure 2 (fr2 := (10, [some (.ref 19), some (.ref o), some (.long v), none, some (.long k), none, some (.int 0)], [])) rfl ?_
  exact H
theorem w_X4_addMultiple_10 {d : Nat} {h : XH} {y : Nat → Nat} {K : XK} {E : XE} {o : Nat} {n_o : Nat} {l2 : Int64} {l4 : Int64} {l6 : Int32} (hd : 20 ≤ d) (hs : Sg h.1 y) (ho_o : Gq h.1 o n_o) (hn_o : n_o < 2 ^ 31) (H : ((h.2.1 o 2) ≤ l6 → (Ca d m_X4_addRow [.ref 19] h (fun rv h2 => rv = none ∧ ∃ y4 : Nat → Nat, Sg h2.1 y4 ∧ Gq h2.1 o n_o ∧ K none h2) E)) ∧ (¬ ((h.2.1 o 2) ≤ l6) → (Ca d m_X1_add [.ref 26, .long ((g_J h (o + 1) n_o l6) * l2), .long (((g_J h (o + 2) n_o l6) + l4) - 550293209600)] h (fun rv h7 => rv = none ∧ Sg h7.1 y ∧ Gq h7.1 o n_o ∧ b_X4_addMultiple_10 d 19 o l2 l4 (l6 + 1) h7 K E) E))) : b_X4_addMultiple_10 d 19 o l2 l4 l6 h K E := by
  show Ex d [] tb_X4_addMultiple (10, [some (.ref 19), some (.ref o), some (.long l2), none, some (.long l4), none, some (.int l6)], []) h _
  refine Ex.pure 2 (fr2 := (13, [some (.ref 19), some (.ref o), some (.long l2), none, some (.long l4), none, some (.int l6)], [.ref o, .int l6])) rfl ?_
  refine Ex.ask (rest := [.int l6]) (j := m_X1_count) (as := [.ref o]) (vst (a := 11) (b := 1) (c := 1) (rest := [.int l6]) (vs := []) rfl ⟨Nat.le_of_ble_eq_true rfl, Nat.le_of_ble_eq_true rfl⟩ rfl rfl ho_o.1) ((t_X1_count (d := 0) ho_o.1).mono (by omega) (fun _ _ z => z)) ?_
  rintro _ h0 ⟨rfl, e0⟩
  rw [e0]
  show Ex d [] tb_X4_addMultiple (16, [some (.ref 19), some (.ref o), some (.long l2), none, some (.long l4), none, some (.int l6)], [.int (h.2.1 o 2), .int l6]) h _
  refine Ex.br (x := (53, [some (.ref 19), some (.ref o), some (.long l2), none, some (.long l4), none, some (.int l6)], [])) (y := (19, [some (.ref 19), some (.ref o), some (.long l2), none, some (.long l4), none, some (.int l6)], [])) (b := (h.2.1 o 2) ≤ l6) rfl (fun hb => ?_) (fun hb => ?_)
  · replace H := H.1 (hb)
    refine Ex.pure 1 (fr2 := (54, [some (.ref 19), some (.ref o), some (.long l2), none, some (.long l4), none, some (.int l6)], [.ref 19])) rfl ?_
    refine Ex.cal (rest := []) (j := m_X4_addRow) (as := [.ref 19]) (vst (a := 58) (b := 1) (c := 3) (rest := []) (vs := []) rfl ⟨Nat.le_of_ble_eq_true rfl, Nat.le_of_ble_eq_true rfl⟩ rfl rfl (sg_19 hs)) (H.imp ?_)
    intro rv h2 H
    obtain ⟨rfl, H⟩ := H
    obtain ⟨y4, hs, H⟩ := H
    obtain ⟨ho_o, H⟩ := H
    show Ex d [] tb_X4_addMultiple (57, [some (.ref 19), some (.ref o), some (.long l2), none, some (.long l4), none, some (.int l6)], []) h2 _
    exact Ex.vret rfl H
  · replace H := H.2 (hb)
    refine Ex.pure 1 (fr2 := (20, [some (.ref 19), some (.ref o), some (.long l2), none, some (.long l4), none, some (.int l6)], [.ref 19])) rfl ?_
    refine Ex.getQ rfl (sg_19 hs) rfl ?_
    refine Ex.pure 2 (fr2 := (26, [some (.ref 19), some (.ref o), some (.long l2), none, some (.long l4), none, some (.int l6)], [.int l6, .ref o, .ref 26])) rfl ?_
    refine Ex.ask (rest := [.ref 26]) (j := m_X1_timesAt) (as := [.ref o, .int l6]) (vst (a := 12) (b := 2) (c := 1) (rest := [.ref 26]) (vs := [.int l6]) rfl ⟨Nat.le_of_ble_eq_true rfl, Nat.le_of_ble_eq_true rfl⟩ rfl rfl ho_o.1) ((t_X1_timesAt (d := 0) ho_o.1 rfl ho_o.2.1 hn_o).mono (by omega) (fun _ _ z => z)) ?_
    rintro _ h0 ⟨rfl, e0⟩
    rw [e0]
    show Ex d [] tb_X4_addMultiple (29, [some (.ref 19), some (.ref o), some (.long l2), none, some (.long l4), none, some (.int l6)], [.long (g_J h (o + 1) n_o l6), .ref 26]) h _
    refine Ex.pure 4 (fr2 := (34, [some (.ref 19), some (.ref o), some (.long l2), none, some (.long l4), none, some (.int l6)], [.int l6, .ref o, .long ((g_J h (o + 1) n_o l6) * l2), .ref 26])) rfl ?_
    refine Ex.ask (rest := [.long ((g_J h (o + 1) n_o l6) * l2), .ref 26]) (j := m_X1_keyAt) (as := [.ref o, .int l6]) (vst (a := 13) (b := 2) (c := 1) (rest := [.long ((g_J h (o + 1) n_o l6) * l2), .ref 26]) (vs := [.int l6]) rfl ⟨Nat.le_of_ble_eq_true rfl, Nat.le_of_ble_eq_true rfl⟩ rfl rfl ho_o.1) ((t_X1_keyAt (d := 0) ho_o.1 rfl ho_o.2.2 hn_o).mono (by omega) (fun _ _ z => z)) ?_
    rintro _ h0 ⟨rfl, e0⟩
    rw [e0]
    show Ex d [] tb_X4_addMultiple (37, [some (.ref 19), some (.ref o), some (.long l2), none, some (.long l4), none, some (.int l6)], [.long (g_J h (o + 2) n_o l6), .long ((g_J h (o + 1) n_o l6) * l2), .ref 26]) h _
    refine Ex.pure 4 (fr2 := (44, [some (.ref 19), some (.ref o), some (.long l2), none, some (.long l4), none, some (.int l6)], [.long (((g_J h (o + 2) n_o l6) + l4) - 550293209600), .long ((g_J h (o + 1) n_o l6) * l2), .ref 26])) rfl ?_
    refine Ex.cal (rest := []) (j := m_X1_add) (as := [.ref 26, .long ((g_J h (o + 1) n_o l6) * l2), .long (((g_J h (o + 2) n_o l6) + l4) - 550293209600)]) (vst (a := 15) (b := 3) (c := 1) (rest := []) (vs := [.long ((g_J h (o + 1) n_o l6) * l2), .long (((g_J h (o + 2) n_o l6) + l4) - 550293209600)]) rfl ⟨Nat.le_of_ble_eq_true rfl, Nat.le_of_ble_eq_true rfl⟩ rfl rfl (sg_26 hs)) (H.imp ?_)
    intro rv h7 H
    obtain ⟨rfl, H⟩ := H
    obtain ⟨hs, H⟩ := H
    obtain ⟨ho_o, H⟩ := H
    show Ex d [] tb_X4_addMultiple (47, [some (.ref 19), some (.ref o), some (.long l2), none, some (.long l4), none, some (.int l6)], []) h7 _
    refine Ex.pure 2 (fr2 := (10, [some (.ref 19), some (.ref o), some (.long l2), none, some (.long l4), none, some (.int (l6 + 1))], [])) rfl ?_
    exact H
def b_X4_addSlopes_11 (d : Nat) (r_0 : Nat) (r_1 : Nat) (l2 : Int32) (u3 : Option Value) (u4 : Option Value) (u5 : Option Value) (u6 : Option Value) (u7 : Option Value) (s0 : Int32) (s1 : Int32) (h : XH) (K : XK) (E : XE) : Prop := Ex d [] tb_X4_addSlopes (11, [some (.ref r_0), some (.ref r_1), some (.int l2), u3, u4, u5, u6, u7], [.int s0, .int s1]) h (Po K E)
def b_X4_addSlopes_21 (d : Nat) (r_0 : Nat) (r_1 : Nat) (l2 : Int32) (u3 : Option Value) (u4 : Option Value) (u5 : Option Value) (u6 : Option Value) (u7 : Option Value) (s0 : Int32) (s1 : Int32) (s2 : Int32) (h : XH) (K : XK) (E : XE) : Prop := Ex d [] tb_X4_addSlopes (21, [some (.ref r_0), some (.ref r_1), some (.int l2), u3, u4, u5, u6, u7], [.int s0, .int s1, .int s2]) h (Po K E)
def b_X4_addSlopes_31 (d : Nat) (r_0 : Nat) (r_1 : Nat) (l2 : Int32) (u3 : Option Value) (u4 : Option Value) (u5 : Option Value) (u6 : Option Value) (u7 : Option Value) (s0 : Int32) (s1 : Int32) (s2 : Int32) (s3 : Int32) (h : XH) (K : XK) (E : XE) : Prop := Ex d [] tb_X4_addSlopes (31, [some (.ref r_0), some (.ref r_1), some (.int l2), u3, u4, u5, u6, u7], [.int s0, .int s1, .int s2, .int s3]) h (Po K E)
def b_X4_addSlopes_45 (d : Nat) (r_0 : Nat) (r_1 : Nat) (l2 : Int32) (l3 : Int64) (l5 : Int32) (u6 : Option Value) (u7 : Option Value) (h : XH) (K : XK) (E : XE) : Prop := Ex d [] tb_X4_addSlopes (45, [some (.ref r_0), some (.ref r_1), some (.int l2), some (.long l3), none, some (.int l5), u6, u7], []) h (Po K E)
theorem w_X4_addSlopes {d : Nat} {h : XH} {y : Nat → Nat} {K : XK} {E : XE} {o : Nat} {n_o : Nat} {w : Int32} (hd : 20 ≤ d) (hs : Sg h.1 y) (ho_o : Gq h.1 o n_o) (hn_o : n_o < 2 ^ 31) (H : (w < 2 → b_X4_addSlopes_11 d 19 o w none none none none none 0 0 h K E) ∧ (¬ (w < 2) → b_X4_addSlopes_11 d 19 o w none none none none none (-1) 0 h K E)) : Ca (d + 1) m_X4_addSlopes [.ref 19, .ref o, .int w] h K E := by
  refine Ca.of ⟨by show 3 ≤ 8; omega, rfl⟩ ?_
  show Ex d [] tb_X4_addSlopes (0, [some (.ref 19), some (.ref o), some (.int w), none, none, none, none, none], []) h _
  refine Ex.pure 3 (fr2 := (3, [some (.ref 19), some (.ref o), some (.int w), none, none, none, none, none], [.int 2, .int w, .int 0])) rfl ?_
  refine Ex.br (x := (10, [some (.ref 19), some (.ref o), some (.int w), none, none, none, none, none], [.int 0])) (y := (6, [some (.ref 19), some (.ref o), some (.int w), none, none, none, none, none], [.int 0])) (b := w < 2) rfl (fun hb => ?_) (fun hb => ?_)
  · replace H := H.1 (hb)
    refine Ex.pure 1 (fr2 := (11, [some (.ref 19), some (.ref o), some (.int w), none, none, none, none, none], [.int 0, .int 0])) rfl ?_
    exact H
  · replace H := H.2 (hb)
    refine Ex.pure 2 (fr2 := (11, [some (.ref 19), some (.ref o), some (.int w), none, none, none, none, none], [.int (-1), .int 0])) rfl ?_
    exact H
theorem w_X4_addSlopes_11 {d : Nat} {h : XH} {y : Nat → Nat} {K : XK} {E : XE} {o : Nat} {n_o : Nat} {l2 : Int32} {u3 : Option Value} {u4 : Option Value} {u5 : Option Value} {u6 : Option Value} {u7 : Option Value} {s0 : Int32} {s1 : Int32} (hd : 20 ≤ d) (hs : Sg h.1 y) (ho_o : Gq h.1 o n_o) (hn_o : n_o < 2 ^ 31) (H : (l2 < 3 → b_X4_addSlopes_21 d 19 o l2 (u3) (u4) (u5) (u6) (u7) 0 s0 s1 h K E) ∧ (¬ (l2 < 3) → b_X4_addSlopes_21 d 19 o l2 (u3) (u4) (u5) (u6) (u7) (-1) s0 s1 h K E)) : b_X4_addSlopes_11 d 19 o l2 u3 u4 u5 u6 u7 s0 s1 h K E := by
  show Ex d [] tb_X4_addSlopes (11, [some (.ref 19), some (.ref o), some (.int l2), u3, u4, u5, u6, u7], [.int s0, .int s1]) h _
  refine Ex.pure 2 (fr2 := (13, [some (.ref 19), some (.ref o), some (.int l2), u3, u4, u5, u6, u7], [.int 3, .int l2, .int s0, .int s1])) rfl ?_
  refine Ex.br (x := (20, [some (.ref 19), some (.ref o), some (.int l2), u3, u4, u5, u6, u7], [.int s0, .int s1])) (y := (16, [some (.ref 19), some (.ref o), some (.int l2), u3, u4, u5, u6, u7], [.int s0, .int s1])) (b := l2 < 3) rfl (fun hb => ?_) (fun hb => ?_)
  · replace H := H.1 (hb)
    refine Ex.pure 1 (fr2 := (21, [some (.ref 19), some (.ref o), some (.int l2), u3, u4, u5, u6, u7], [.int 0, .int s0, .int s1])) rfl ?_
    exact H
  · replace H := H.2 (hb)
    refine Ex.pure 2 (fr2 := (21, [some (.ref 19), some (.ref o), some (.int l2), u3, u4, u5, u6, u7], [.int (-1), .int s0, .int s1])) rfl ?_
    exact H
theorem w_X4_addSlopes_21 {d : Nat} {h : XH} {y : Nat → Nat} {K : XK} {E : XE} {o : Nat} {n_o : Nat} {l2 : Int32} {u3 : Option Value} {u4 : Option Value} {u5 : Option Value} {u6 : Option Value} {u7 : Option Value} {s0 : Int32} {s1 : Int32} {s2 : Int32} (hd : 20 ≤ d) (hs : Sg h.1 y) (ho_o : Gq h.1 o n_o) (hn_o : n_o < 2 ^ 31) (H : (l2 < 4 → b_X4_addSlopes_31 d 19 o l2 (u3) (u4) (u5) (u6) (u7) 0 s0 s1 s2 h K E) ∧ (¬ (l2 < 4) → b_X4_addSlopes_31 d 19 o l2 (u3) (u4) (u5) (u6) (u7) (-1) s0 s1 s2 h K E)) : b_X4_addSlopes_21 d 19 o l2 u3 u4 u5 u6 u7 s0 s1 s2 h K E := by
  show Ex d [] tb_X4_addSlopes (21, [some (.ref 19), some (.ref o), some (.int l2), u3, u4, u5, u6, u7], [.int s0, .int s1, .int s2]) h _
  refine Ex.pure 2 (fr2 := (23, [some (.ref 19), some (.ref o), some (.int l2), u3, u4, u5, u6, u7], [.int 4, .int l2, .int s0, .int s1, .int s2])) rfl ?_
  refine Ex.br (x := (30, [some (.ref 19), some (.ref o), some (.int l2), u3, u4, u5, u6, u7], [.int s0, .int s1, .int s2])) (y := (26, [some (.ref 19), some (.ref o), some (.int l2), u3, u4, u5, u6, u7], [.int s0, .int s1, .int s2])) (b := l2 < 4) rfl (fun hb => ?_) (fun hb => ?_)
  · replace H := H.1 (hb)
    refine Ex.pure 1 (fr2 := (31, [some (.ref 19), some (.ref o), some (.int l2), u3, u4, u5, u6, u7], [.int 0, .int s0, .int s1, .int s2])) rfl ?_
    exact H
  · replace H := H.2 (hb)
    refine Ex.pure 2 (fr2 := (31, [some (.ref 19), some (.ref o), some (.int l2), u3, u4, u5, u6, u7], [.int (-1), .int s0, .int s1, .int s2])) rfl ?_
    exact H
theorem w_X4_addSlopes_31 {d : Nat} {h : XH} {y : Nat → Nat} {K : XK} {E : XE} {o : Nat} {n_o : Nat} {l2 : Int32} {u3 : Option Value} {u4 : Option Value} {u5 : Option Value} {u6 : Option Value} {u7 : Option Value} {s0 : Int32} {s1 : Int32} {s2 : Int32} {s3 : Int32} (hd : 20 ≤ d) (hs : Sg h.1 y) (ho_o : Gq h.1 o n_o) (hn_o : n_o < 2 ^ 31) (H : (∀ h2 : XH, h2 = (x_setI h 26 2 0) → b_X4_addSlopes_45 d 19 o l2 (keyv s3 s2 s1 s0) 0 (u6) (u7) h2 K E)) : b_X4_addSlopes_31 d 19 o l2 u3 u4 u5 u6 u7 s0 s1 s2 s3 h K E := by
  show Ex d [] tb_X4_addSlopes (31, [some (.ref 19), some (.ref o), some (.int l2), u3, u4, u5, u6, u7], [.int s0, .int s1, .int s2, .int s3]) h _
  refine Ex.ask (rest := []) (j := m_X1_keyOf) (as := [.int s3, .int s2, .int s1, .int s0]) (fun c => rfl) ((t_X1_keyOf hs).mono (by omega) (fun _ _ z => z)) ?_
  rintro _ h0 ⟨rfl, e0⟩
  rw [e0]
  show Ex d [] tb_X4_addSlopes (34, [some (.ref 19), some (.ref o), some (.int l2), u3, u4, u5, u6, u7], [.long (keyv s3 s2 s1 s0)]) h _
  refine Ex.pure 2 (fr2 := (36, [some (.ref 19), some (.ref o), some (.int l2), some (.long (keyv s3 s2 s1 s0)), none, u5, u6, u7], [.ref 19])) rfl ?_
  refine Ex.getQ rfl (sg_19 hs) rfl ?_
  refine Ex.ask (rest := []) (j := m_X1_restart) (as := [.ref 26]) (vst (a := 14) (b := 1) (c := 1) (rest := []) (vs := []) rfl ⟨Nat.le_of_ble_eq_true rfl, Nat.le_of_ble_eq_true rfl⟩ rfl rfl (sg_26 hs)) ((t_X1_restart (d := 0) (sg_26 hs)).mono (by omega) (fun _ _ z => z)) ?_
  rintro _ h2 ⟨rfl, e2⟩
  replace H := H h2 e2
  replace hs : Sg h2.1 y := by rw [e2]; exact hs
  replace ho_o : Gq h2.1 o n_o := by rw [e2]; exact ho_o
  show Ex d [] tb_X4_addSlopes (42, [some (.ref 19), some (.ref o), some (.int l2), some (.long (keyv s3 s2 s1 s0)), none, u5, u6, u7], []) h2 _
  refine Ex.pure 2 (fr2 := (45, [some (.ref 19), some (.ref o), some (.int l2), some (.long (keyv s3 s2 s1 s0)), none, some (.int 0), u6, u7], [])) rfl ?_
  exact H
theorem w_X4_addSlopes_45 {d : Nat} {h : XH} {y : Nat → Nat} {K : XK} {E : XE} {o : Nat} {n_o : Nat} {l2 : Int32} {l3 : Int64} {l5 : Int32} {u6 : Option Value} {u7 : Option Value} (hd : 20 ≤ d) (hs : Sg h.1 y) (ho_o : Gq h.1 o n_o) (hn_o : n_o < 2 ^ 31) (H : ((h.2.1 o 2) ≤ l5 → (Ca d m_X4_addRow [.ref 19] h (fun rv h2 => rv = none ∧ ∃ y4 : Nat → Nat, Sg h2.1 y4 ∧ Gq h2.1 o n_o ∧ K none h2) E)) ∧ (¬ ((h.2.1 o 2) ≤ l5) → (Ca d m_X1_add [.ref 26, .long ((g_J h (o + 1) n_o l5) * ((xpin (g_J h (o + 2) n_o l5) l2) : Int32).toInt64), .long (((g_J h (o + 2) n_o l5) + l3) - 550293209600)] h (fun rv h8 => rv = none ∧ Sg h8.1 y ∧ Gq h8.1 o n_o ∧ b_X4_addSlopes_45 d 19 o l2 l3 (l5 + 1) (some (.long (g_J h (o + 2) n_o l5))) none h8 K E) E))) : b_X4_addSlopes_45 d 19 o l2 l3 l5 u6 u7 h K E := by
  show Ex d [] tb_X4_addSlopes (45, [some (.ref 19), some (.ref o), some (.int l2), some (.long l3), none, some (.int l5), u6, u7], []) h _
  refine Ex.pure 2 (fr2 := (48, [some (.ref 19), some (.ref o), some (.int l2), some (.long l3), none, some (.int l5), u6, u7], [.ref o, .int l5])) rfl ?_
  refine Ex.ask (rest := [.int l5]) (j := m_X1_count) (as := [.ref o]) (vst (a := 11) (b := 1) (c := 1) (rest := [.int l5]) (vs := []) rfl ⟨Nat.le_of_ble_eq_true rfl, Nat.le_of_ble_eq_true rfl⟩ rfl rfl ho_o.1) ((t_X1_count (d := 0) ho_o.1).mono (by omega) (fun _ _ z => z)) ?_
  rintro _ h0 ⟨rfl, e0⟩
  rw [e0]
  show Ex d [] tb_X4_addSlopes (51, [some (.ref 19), some (.ref o), some (.int l2), some (.long l3), none, some (.int l5), u6, u7], [.int (h.2.1 o 2), .int l5]) h _
  refine Ex.br (x := (97, [some (.ref 19), some (.ref o), some (.int l2), some (.long l3), none, some (.int l5), u6, u7], [])) (y := (54, [some (.ref 19), some (.ref o), some (.int l2), some (.long l3), none, some (.int l5), u6, u7], [])) (b := (h.2.1 o 2) ≤ l5) rfl (fun hb => ?_) (fun hb => ?_)
  · replace H := H.1 (hb)
    refine Ex.pure 1 (fr2 := (98, [some (.ref 19), some (.ref o), some (.int l2), some (.long l3), none, some (.int l5), u6, u7], [.ref 19])) rfl ?_
    refine Ex.cal (rest := []) (j := m_X4_addRow) (as := [.ref 19]) (vst (a := 58) (b := 1) (c := 3) (rest := []) (vs := []) rfl ⟨Nat.le_of_ble_eq_true rfl, Nat.le_of_ble_eq_true rfl⟩ rfl rfl (sg_19 hs)) (H.imp ?_)
    intro rv h2 H
    obtain ⟨rfl, H⟩ := H
    obtain ⟨y4, hs, H⟩ := H
    obtain ⟨ho_o, H⟩ := H
    show Ex d [] tb_X4_addSlopes (101, [some (.ref 19), some (.ref o), some (.int l2), some (.long l3), none, some (.int l5), u6, u7], []) h2 _
    exact Ex.vret rfl H
  · replace H := H.2 (hb)
    refine Ex.pure 2 (fr2 := (57, [some (.ref 19), some (.ref o), some (.int l2), some (.long l3), none, some (.int l5), u6, u7], [.int l5, .ref o])) rfl ?_
    refine Ex.ask (rest := []) (j := m_X1_keyAt) (as := [.ref o, .int l5]) (vst (a := 13) (b := 2) (c := 1) (rest := []) (vs := [.int l5]) rfl ⟨Nat.le_of_ble_eq_true rfl, Nat.le_of_ble_eq_true rfl⟩ rfl rfl ho_o.1) ((t_X1_keyAt (d := 0) ho_o.1 rfl ho_o.2.2 hn_o).mono (by omega) (fun _ _ z => z)) ?_
    rintro _ h0 ⟨rfl, e0⟩
    rw [e0]
    show Ex d [] tb_X4_addSlopes (60, [some (.ref 19), some (.ref o), some (.int l2), some (.long l3), none, some (.int l5), u6, u7], [.long (g_J h (o + 2) n_o l5)]) h _
    refine Ex.pure 2 (fr2 := (63, [some (.ref 19), some (.ref o), some (.int l2), some (.long l3), none, some (.int l5), some (.long (g_J h (o + 2) n_o l5)), none], [.ref 19])) rfl ?_
    refine Ex.getQ rfl (sg_19 hs) rfl ?_
    refine Ex.pure 2 (fr2 := (69, [some (.ref 19), some (.ref o), some (.int l2), some (.long l3), none, some (.int l5), some (.long (g_J h (o + 2) n_o l5)), none], [.int l5, .ref o, .ref 26])) rfl ?_
    refine Ex.ask (rest := [.ref 26]) (j := m_X1_timesAt) (as := [.ref o, .int l5]) (vst (a := 12) (b := 2) (c := 1) (rest := [.ref 26]) (vs := [.int l5]) rfl ⟨Nat.le_of_ble_eq_true rfl, Nat.le_of_ble_eq_true rfl⟩ rfl rfl ho_o.1) ((t_X1_timesAt (d := 0) ho_o.1 rfl ho_o.2.1 hn_o).mono (by omega) (fun _ _ z => z)) ?_
    rintro _ h0 ⟨rfl, e0⟩
    rw [e0]
    show Ex d [] tb_X4_addSlopes (72, [some (.ref 19), some (.ref o), some (.int l2), some (.long l3), none, some (.int l5), some (.long (g_J h (o + 2) n_o l5)), none], [.long (g_J h (o + 1) n_o l5), .ref 26]) h _
    refine Ex.pure 2 (fr2 := (75, [some (.ref 19), some (.ref o), some (.int l2), some (.long l3), none, some (.int l5), some (.long (g_J h (o + 2) n_o l5)), none], [.int l2, .long (g_J h (o + 2) n_o l5), .long (g_J h (o + 1) n_o l5), .ref 26])) rfl ?_
    refine Ex.ask (rest := [.long (g_J h (o + 1) n_o l5), .ref 26]) (j := m_X1_exponentIn) (as := [.long (g_J h (o + 2) n_o l5), .int l2]) (fun c => rfl) ((t_X1_exponentIn hs).mono (by omega) (fun _ _ z => z)) ?_
    rintro _ h0 ⟨rfl, e0⟩
    rw [e0]
    show Ex d [] tb_X4_addSlopes (78, [some (.ref 19), some (.ref o), some (.int l2), some (.long l3), none, some (.int l5), some (.long (g_J h (o + 2) n_o l5)), none], [.int (xpin (g_J h (o + 2) n_o l5) l2), .long (g_J h (o + 1) n_o l5), .ref 26]) h _
    refine Ex.pure 7 (fr2 := (88, [some (.ref 19), some (.ref o), some (.int l2), some (.long l3), none, some (.int l5), some (.long (g_J h (o + 2) n_o l5)), none], [.long (((g_J h (o + 2) n_o l5) + l3) - 550293209600), .long ((g_J h (o + 1) n_o l5) * ((xpin (g_J h (o + 2) n_o l5) l2) : Int32).toInt64), .ref 26])) rfl ?_
    refine Ex.cal (rest := []) (j := m_X1_add) (as := [.ref 26, .long ((g_J h (o + 1) n_o l5) * ((xpin (g_J h (o + 2) n_o l5) l2) : Int32).toInt64), .long (((g_J h (o + 2) n_o l5) + l3) - 550293209600)]) (vst (a := 15) (b := 3) (c := 1) (rest := []) (vs := [.long ((g_J h (o + 1) n_o l5) * ((xpin (g_J h (o + 2) n_o l5) l2) : Int32).toInt64), .long (((g_J h (o + 2) n_o l5) + l3) - 550293209600)]) rfl ⟨Nat.le_of_ble_eq_true rfl, Nat.le_of_ble_eq_true rfl⟩ rfl rfl (sg_26 hs)) (H.imp ?_)
    intro rv h8 H
    obtain ⟨rfl, H⟩ := H
    obtain ⟨hs, H⟩ := H
    obtain ⟨ho_o, H⟩ := H
    show Ex d [] tb_X4_addSlopes (91, [some (.ref 19), some (.ref o), some (.int l2), some (.long l3), none, some (.int l5), some (.long (g_J h (o + 2) n_o l5)), none], []) h8 _
    refine Ex.pure 2 (fr2 := (45, [some (.ref 19), some (.ref o), some (.int l2), some (.long l3), none, some (.int (l5 + 1)), some (.long (g_J h (o + 2) n_o l5)), none], [])) rfl ?_
    exact H
theorem w_X5_restart {d : Nat} {h : XH} {y : Nat → Nat} {K : XK} {E : XE} (hd : 20 ≤ d) (hs : Sg h.1 y) (H : (∀ h1 : XH, h1 = (x_setJ h 18 0 0) → (∀ h2 : XH, h2 = (x_setJ h1 18 1 (-1099511627776)) → (∀ h3 : XH, h3 = (x_setJ h2 18 2 1099511627776) → (∀ h4 : XH, h4 = (x_setI h3 18 3 0) → K none h4))))) : Ca (d + 1) m_X5_restart [.ref 18] h K E := by
  refine Ca.of ⟨by show 1 ≤ 1; omega, rfl⟩ ?_
  show Ex d [] tb_X5_restart (0, [some (.ref 18)], []) h _
  refine Ex.pure 2 (fr2 := (2, [some (.ref 18)], [.long 0, .ref 18])) rfl ?_
  refine Ex.putJ rfl (sg_18 hs) ?_
  obtain ⟨h1, e1⟩ : ∃ z : XH, z = (x_setJ h 18 0 0) := ⟨_, rfl⟩
  rw [← e1]
  replace H := H h1 e1
  replace hs : Sg h1.1 y := by rw [e1]; exact hs
  refine Ex.pure 2 (fr2 := (9, [some (.ref 18)], [.long (-1099511627776), .ref 18])) rfl ?_
  refine Ex.putJ rfl (sg_18 hs) ?_
  obtain ⟨h2, e2⟩ : ∃ z : XH, z = (x_setJ h1 18 1 (-1099511627776)) := ⟨_, rfl⟩
  rw [← e2]
  replace H := H h2 e2
  replace hs : Sg h2.1 y := by rw [e2]; exact hs
  refine Ex.pure 2 (fr2 := (16, [some (.ref 18)], [.long 1099511627776, .ref 18])) rfl ?_
  refine Ex.putJ rfl (sg_18 hs) ?_
  obtain ⟨h3, e3⟩ : ∃ z : XH, z = (x_setJ h2 18 2 1099511627776) := ⟨_, rfl⟩
  rw [← e3]
  replace H := H h3 e3
  replace hs : Sg h3.1 y := by rw [e3]; exact hs
  refine Ex.pure 2 (fr2 := (21, [some (.ref 18)], [.int 0, .ref 18])) rfl ?_
  refine Ex.putI rfl (sg_18 hs) ?_
  obtain ⟨h4, e4⟩ : ∃ z : XH, z = (x_setI h3 18 3 0) := ⟨_, rfl⟩
  rw [← e4]
  replace H := H h4 e4
  replace hs : Sg h4.1 y := by rw [e4]; exact hs
  exact Ex.vret rfl H
def b_X5_along_6 (d : Nat) (r_0 : Nat) (l1 : Int32) (l2 : Int32) (l3 : Int32) (h : XH) (K : XK) (E : XE) : Prop := Ex d [] tb_X5_along (6, [some (.ref r_0), some (.int l1), some (.int l2), some (.int l3)], []) h (Po K E)
def b_X5_along_25 (d : Nat) (r_0 : Nat) (l1 : Int32) (l2 : Int32) (l3 : Int32) (s0 : Int32) (r_5 : Nat) (h : XH) (K : XK) (E : XE) : Prop := Ex d [] tb_X5_along (25, [some (.ref r_0), some (.int l1), some (.int l2), some (.int l3)], [.int s0, .ref r_5]) h (Po K E)
theorem w_X5_along {d : Nat} {h : XH} {y : Nat → Nat} {K : XK} {E : XE} {a : Int32} {b : Int32} (hd : 20 ≤ d) (hs : Sg h.1 y) (H : (Ca d m_X5_restart [.ref 18] h (fun rv h1 => rv = none ∧ Sg h1.1 y ∧ b_X5_along_6 d 18 a b 0 h1 K E) E)) : Ca (d + 1) m_X5_along [.ref 18, .int a, .int b] h K E := by
  refine Ca.of ⟨by show 3 ≤ 4; omega, rfl⟩ ?_
  show Ex d [] tb_X5_along (0, [some (.ref 18), some (.int a), some (.int b), none], []) h _
  refine Ex.pure 1 (fr2 := (1, [some (.ref 18), some (.int a), some (.int b), none], [.ref 18])) rfl ?_
  refine Ex.cal (rest := []) (j := m_X5_restart) (as := [.ref 18]) (vst (a := 62) (b := 1) (c := 4) (rest := []) (vs := []) rfl ⟨Nat.le_of_ble_eq_true rfl, Nat.le_of_ble_eq_true rfl⟩ rfl rfl (sg_18 hs)) (H.imp ?_)
  intro rv h1 H
  obtain ⟨rfl, H⟩ := H
  obtain ⟨hs, H⟩ := H
  show Ex d [] tb_X5_along (4, [some (.ref 18), some (.int a), some (.int b), none], []) h1 _
  refine Ex.pure 2 (fr2 := (6, [some (.ref 18), some (.int a), some (.int b), some (.int 0)], [])) rfl ?_
  exact H
theorem w_X5_along_6 {d : Nat} {h : XH} {y : Nat → Nat} {K : XK} {E : XE} {l1 : Int32} {l2 : Int32} {l3 : Int32} (hd : 20 ≤ d) (hs : Sg h.1 y) (H : (l2 ≤ l3 → K none h) ∧ (¬ (l2 ≤ l3) → (((l1 >>> (l3 &&& 31)) &&& 1) = 0 → b_X5_along_25 d 18 l1 l2 l3 0 18 h K E) ∧ (¬ (((l1 >>> (l3 &&& 31)) &&& 1) = 0) → b_X5_along_25 d 18 l1 l2 l3 1 18 h K E))) : b_X5_along_6 d 18 l1 l2 l3 h K E := by
  show Ex d [] tb_X5_along (6, [some (.ref 18), some (.int l1), some (.int l2), some (.int l3)], []) h _
  refine Ex.pure 2 (fr2 := (8, [some (.ref 18), some (.int l1), some (.int l2), some (.int l3)], [.int l2, .int l3])) rfl ?_
  refine Ex.br (x := (35, [some (.ref 18), some (.int l1), some (.int l2), some (.int l3)], [])) (y := (11, [some (.ref 18), some (.int l1), some (.int l2), some (.int l3)], [])) (b := l2 ≤ l3) rfl (fun hb => ?_) (fun hb => ?_)
  · replace H := H.1 (hb)
    exact Ex.vret rfl H
  · replace H := H.2 (hb)
    refine Ex.pure 6 (fr2 := (17, [some (.ref 18), some (.int l1), some (.int l2), some (.int l3)], [.int ((l1 >>> (l3 &&& 31)) &&& 1), .ref 18])) rfl ?_
    refine Ex.br (x := (24, [some (.ref 18), some (.int l1), some (.int l2), some (.int l3)], [.ref 18])) (y := (20, [some (.ref 18), some (.int l1), some (.int l2), some (.int l3)], [.ref 18])) (b := ((l1 >>> (l3 &&& 31)) &&& 1) = 0) rfl (fun hb => ?_) (fun hb => ?_)
    · replace H := H.1 (hb)
      refine Ex.pure 1 (fr2 := (25, [some (.ref 18), some (.int l1), some (.int l2), some (.int l3)], [.int 0, .ref 18])) rfl ?_
      exact H
    · replace H := H.2 (hb)
      refine Ex.pure 2 (fr2 := (25, [some (.ref 18), some (.int l1), some (.int l2), some (.int l3)], [.int 1, .ref 18])) rfl ?_
      exact H
theorem w_X5_along_25 {d : Nat} {h : XH} {y : Nat → Nat} {K : XK} {E : XE} {l1 : Int32} {l2 : Int32} {l3 : Int32} {s0 : Int32} (hd : 20 ≤ d) (hs : Sg h.1 y) (H : (Ca d m_X5_goes [.ref 18, .int s0] h (fun rv h1 => ∃ x2, rv = some (.int x2) ∧ Sg h1.1 y ∧ b_X5_along_6 d 18 l1 l2 (l3 + 1) h1 K E) E)) : b_X5_along_25 d 18 l1 l2 l3 s0 18 h K E := by
  show Ex d [] tb_X5_along (25, [some (.ref 18), some (.int l1), some (.int l2), some (.int l3)], [.int s0, .ref 18]) h _
  refine Ex.cal (rest := []) (j := m_X5_goes) (as := [.ref 18, .int s0]) (vst (a := 66) (b := 2) (c := 4) (rest := []) (vs := [.int s0]) rfl ⟨Nat.le_of_ble_eq_true rfl, Nat.le_of_ble_eq_true rfl⟩ rfl rfl (sg_18 hs)) (H.imp ?_)
  intro rv h1 H
  obtain ⟨x2, rfl, H⟩ := H
  obtain ⟨hs, H⟩ := H
  show Ex d [] tb_X5_along (28, [some (.ref 18), some (.int l1), some (.int l2), some (.int l3)], [.int x2]) h1 _
  refine Ex.pure 3 (fr2 := (6, [some (.ref 18), some (.int l1), some (.int l2), some (.int (l3 + 1))], [])) rfl ?_
  exact H
def b_X5_toward_16 (d : Nat) (r_0 : Nat) (l1 : Int64) (u3 : Option Value) (l4 : Int32) (l5 : Int32) (h : XH) (K : XK) (E : XE) : Prop := Ex d [] tb_X5_toward (16, [some (.ref r_0), some (.long l1), none, u3, some (.int l4), some (.int l5)], []) h (Po K E)
def b_X5_toward_47 (d : Nat) (r_0 : Nat) (l1 : Int64) (u3 : Option Value) (l4 : Int32) (l5 : Int32) (s0 : Int32) (r_6 : Nat) (h : XH) (K : XK) (E : XE) : Prop := Ex d [] tb_X5_toward (47, [some (.ref r_0), some (.long l1), none, u3, some (.int l4), some (.int l5)], [.int s0, .ref r_6]) h (Po K E)
theorem w_X5_toward {d : Nat} {h : XH} {y : Nat → Nat} {K : XK} {E : XE} {a : Int64} {b : Int32} (hd : 20 ≤ d) (hs : Sg h.1 y) (H : (Ca d m_X5_restart [.ref 18] h (fun rv h1 => rv = none ∧ Sg h1.1 y ∧ b_X5_toward_16 d 18 a (some (.int b)) (mnI b 300) 0 h1 K E) E)) : Ca (d + 1) m_X5_toward [.ref 18, .long a, .int b] h K E := by
  refine Ca.of ⟨by show 4 ≤ 6; omega, rfl⟩ ?_
  show Ex d [] tb_X5_toward (0, [some (.ref 18), some (.long a), none, some (.int b), none, none], []) h _
  refine Ex.pure 1 (fr2 := (1, [some (.ref 18), some (.long a), none, some (.int b), none, none], [.ref 18])) rfl ?_
  refine Ex.cal (rest := []) (j := m_X5_restart) (as := [.ref 18]) (vst (a := 62) (b := 1) (c := 4) (rest := []) (vs := []) rfl ⟨Nat.le_of_ble_eq_true rfl, Nat.le_of_ble_eq_true rfl⟩ rfl rfl (sg_18 hs)) (H.imp ?_)
  intro rv h1 H
  obtain ⟨rfl, H⟩ := H
  obtain ⟨hs, H⟩ := H
  show Ex d [] tb_X5_toward (4, [some (.ref 18), some (.long a), none, some (.int b), none, none], []) h1 _
  refine Ex.pure 2 (fr2 := (8, [some (.ref 18), some (.long a), none, some (.int b), none, none], [.int 300, .int b])) rfl ?_
  refine Ex.st (r := some (.inl ((11, [some (.ref 18), some (.long a), none, some (.int b), none, none], [.int (mnI b 300)]), h1))) (fun c => rfl) ?_
  show Ex d [] tb_X5_toward (11, [some (.ref 18), some (.long a), none, some (.int b), none, none], [.int (mnI b 300)]) h1 _
  refine Ex.pure 3 (fr2 := (16, [some (.ref 18), some (.long a), none, some (.int b), some (.int (mnI b 300)), some (.int 0)], [])) rfl ?_
  exact H
theorem w_X5_toward_16 {d : Nat} {h : XH} {y : Nat → Nat} {K : XK} {E : XE} {l1 : Int64} {u3 : Option Value} {l4 : Int32} {l5 : Int32} (hd : 20 ≤ d) (hs : Sg h.1 y) (H : (l4 ≤ l5 → K none h) ∧ (¬ (l4 ≤ l5) → ((h.2.2.1 18 0) = l1 → K none h) ∧ (¬ ((h.2.2.1 18 0) = l1) → (l1 ≤ (h.2.2.1 18 0) → b_X5_toward_47 d 18 l1 (u3) l4 l5 0 18 h K E) ∧ (¬ (l1 ≤ (h.2.2.1 18 0)) → b_X5_toward_47 d 18 l1 (u3) l4 l5 1 18 h K E)))) : b_X5_toward_16 d 18 l1 u3 l4 l5 h K E := by
  show Ex d [] tb_X5_toward (16, [some (.ref 18), some (.long l1), none, u3, some (.int l4), some (.int l5)], []) h _
  refine Ex.pure 2 (fr2 := (20, [some (.ref 18), some (.long l1), none, u3, some (.int l4), some (.int l5)], [.int l4, .int l5])) rfl ?_
  refine Ex.br (x := (57, [some (.ref 18), some (.long l1), none, u3, some (.int l4), some (.int l5)], [])) (y := (23, [some (.ref 18), some (.long l1), none, u3, some (.int l4), some (.int l5)], [])) (b := l4 ≤ l5) rfl (fun hb => ?_) (fun hb => ?_)
  · replace H := H.1 (hb)
    exact Ex.vret rfl H
  · replace H := H.2 (hb)
    refine Ex.pure 1 (fr2 := (24, [some (.ref 18), some (.long l1), none, u3, some (.int l4), some (.int l5)], [.ref 18])) rfl ?_
    refine Ex.getJ rfl (sg_18 hs) ?_
    refine Ex.pure 2 (fr2 := (29, [some (.ref 18), some (.long l1), none, u3, some (.int l4), some (.int l5)], [.int (lg_cmp (h.2.2.1 18 0) l1)])) rfl ?_
    refine Ex.br (x := (57, [some (.ref 18), some (.long l1), none, u3, some (.int l4), some (.int l5)], [])) (y := (32, [some (.ref 18), some (.long l1), none, u3, some (.int l4), some (.int l5)], [])) (b := (lg_cmp (h.2.2.1 18 0) l1) = 0) rfl (fun hb => ?_) (fun hb => ?_)
    · replace H := H.1 ((lg_cmp_eq _ _).mp hb)
      exact Ex.vret rfl H
    · replace H := H.2 (fun z => hb ((lg_cmp_eq _ _).mpr z))
      refine Ex.pure 3 (fr2 := (35, [some (.ref 18), some (.long l1), none, u3, some (.int l4), some (.int l5)], [.ref 18, .long l1, .ref 18])) rfl ?_
      refine Ex.getJ rfl (sg_18 hs) ?_
      refine Ex.pure 1 (fr2 := (39, [some (.ref 18), some (.long l1), none, u3, some (.int l4), some (.int l5)], [.int (lg_cmp l1 (h.2.2.1 18 0)), .ref 18])) rfl ?_
      refine Ex.br (x := (46, [some (.ref 18), some (.long l1), none, u3, some (.int l4), some (.int l5)], [.ref 18])) (y := (42, [some (.ref 18), some (.long l1), none, u3, some (.int l4), some (.int l5)], [.ref 18])) (b := (lg_cmp l1 (h.2.2.1 18 0)) ≤ 0) rfl (fun hb => ?_) (fun hb => ?_)
      · replace H := H.1 ((lg_cmp_le _ _).mp hb)
        refine Ex.pure 1 (fr2 := (47, [some (.ref 18), some (.long l1), none, u3, some (.int l4), some (.int l5)], [.int 0, .ref 18])) rfl ?_
        exact H
      · replace H := H.2 (fun z => hb ((lg_cmp_le _ _).mpr z))
        refine Ex.pure 2 (fr2 := (47, [some (.ref 18), some (.long l1), none, u3, some (.int l4), some (.int l5)], [.int 1, .ref 18])) rfl ?_
        exact H
theorem w_X5_toward_47 {d : Nat} {h : XH} {y : Nat → Nat} {K : XK} {E : XE} {l1 : Int64} {u3 : Option Value} {l4 : Int32} {l5 : Int32} {s0 : Int32} (hd : 20 ≤ d) (hs : Sg h.1 y) (H : (Ca d m_X5_goes [.ref 18, .int s0] h (fun rv h1 => ∃ x2, rv = some (.int x2) ∧ Sg h1.1 y ∧ b_X5_toward_16 d 18 l1 (u3) l4 (l5 + 1) h1 K E) E)) : b_X5_toward_47 d 18 l1 u3 l4 l5 s0 18 h K E := by
  show Ex d [] tb_X5_toward (47, [some (.ref 18), some (.long l1), none, u3, some (.int l4), some (.int l5)], [.int s0, .ref 18]) h _
  refine Ex.cal (rest := []) (j := m_X5_goes) (as := [.ref 18, .int s0]) (vst (a := 66) (b := 2) (c := 4) (rest := []) (vs := [.int s0]) rfl ⟨Nat.le_of_ble_eq_true rfl, Nat.le_of_ble_eq_true rfl⟩ rfl rfl (sg_18 hs)) (H.imp ?_)
  intro rv h1 H
  obtain ⟨x2, rfl, H⟩ := H
  obtain ⟨hs, H⟩ := H
  show Ex d [] tb_X5_toward (50, [some (.ref 18), some (.long l1), none, u3, some (.int l4), some (.int l5)], [.int x2]) h1 _
  refine Ex.pure 3 (fr2 := (16, [some (.ref 18), some (.long l1), none, u3, some (.int l4), some (.int (l5 + 1))], [])) rfl ?_
  exact H
def b_X5_between_10 (d : Nat) (r_0 : Nat) (l1 : Int64) (l3 : Int64) (l5 : Int32) (l6 : Int32) (h : XH) (K : XK) (E : XE) : Prop := Ex d [] tb_X5_between (10, [some (.ref r_0), some (.long l1), none, some (.long l3), none, some (.int l5), some (.int l6)], []) h (Po K E)
def b_X5_between_41 (d : Nat) (r_0 : Nat) (l1 : Int64) (l3 : Int64) (u5 : Option Value) (l6 : Int32) (h : XH) (K : XK) (E : XE) : Prop := Ex d [] tb_X5_between (41, [some (.ref r_0), some (.long l1), none, some (.long l3), none, u5, some (.int l6)], []) h (Po K E)
def b_X5_between_56 (d : Nat) (r_0 : Nat) (l1 : Int64) (l3 : Int64) (u5 : Option Value) (l6 : Int32) (s0 : Int32) (r_6 : Nat) (h : XH) (K : XK) (E : XE) : Prop := Ex d [] tb_X5_between (56, [some (.ref r_0), some (.long l1), none, some (.long l3), none, u5, some (.int l6)], [.int s0, .ref r_6]) h (Po K E)
theorem w_X5_between {d : Nat} {h : XH} {y : Nat → Nat} {K : XK} {E : XE} {a : Int64} {b : Int64} (hd : 20 ≤ d) (hs : Sg h.1 y) (H : (Ca d m_X5_restart [.ref 18] h (fun rv h1 => rv = none ∧ Sg h1.1 y ∧ b_X5_between_10 d 18 a b 1 0 h1 K E) E)) : Ca (d + 1) m_X5_between [.ref 18, .long a, .long b] h K E := by
  refine Ca.of ⟨by show 5 ≤ 7; omega, rfl⟩ ?_
  show Ex d [] tb_X5_between (0, [some (.ref 18), some (.long a), none, some (.long b), none, none, none], []) h _
  refine Ex.pure 1 (fr2 := (1, [some (.ref 18), some (.long a), none, some (.long b), none, none, none], [.ref 18])) rfl ?_
  refine Ex.cal (rest := []) (j := m_X5_restart) (as := [.ref 18]) (vst (a := 62) (b := 1) (c := 4) (rest := []) (vs := []) rfl ⟨Nat.le_of_ble_eq_true rfl, Nat.le_of_ble_eq_true rfl⟩ rfl rfl (sg_18 hs)) (H.imp ?_)
  intro rv h1 H
  obtain ⟨rfl, H⟩ := H
  obtain ⟨hs, H⟩ := H
  show Ex d [] tb_X5_between (4, [some (.ref 18), some (.long a), none, some (.long b), none, none, none], []) h1 _
  refine Ex.pure 4 (fr2 := (10, [some (.ref 18), some (.long a), none, some (.long b), none, some (.int 1), some (.int 0)], [])) rfl ?_
  exact H
theorem w_X5_between_10 {d : Nat} {h : XH} {y : Nat → Nat} {K : XK} {E : XE} {l1 : Int64} {l3 : Int64} {l5 : Int32} {l6 : Int32} (hd : 20 ≤ d) (hs : Sg h.1 y) (H : (300 ≤ l6 → (l5 = 0 ∨ l5 = 1) ∧ K (some (.int l5)) h) ∧ (¬ (300 ≤ l6) → (l5 = 0 → (l5 = 0 ∨ l5 = 1) ∧ K (some (.int l5)) h) ∧ (¬ (l5 = 0) → ((h.2.2.1 18 0) ≤ l1 → b_X5_between_41 d 18 l1 l3 (some (.int l5)) l6 h K E) ∧ (¬ ((h.2.2.1 18 0) ≤ l1) → ((h.2.2.1 18 0) < l3 → (l5 = 0 ∨ l5 = 1) ∧ K (some (.int l5)) h) ∧ (¬ ((h.2.2.1 18 0) < l3) → b_X5_between_41 d 18 l1 l3 (some (.int l5)) l6 h K E))))) : b_X5_between_10 d 18 l1 l3 l5 l6 h K E := by
  show Ex d [] tb_X5_between (10, [some (.ref 18), some (.long l1), none, some (.long l3), none, some (.int l5), some (.int l6)], []) h _
  refine Ex.pure 2 (fr2 := (15, [some (.ref 18), some (.long l1), none, some (.long l3), none, some (.int l5), some (.int l6)], [.int 300, .int l6])) rfl ?_
  refine Ex.br (x := (67, [some (.ref 18), some (.long l1), none, some (.long l3), none, some (.int l5), some (.int l6)], [])) (y := (18, [some (.ref 18), some (.long l1), none, some (.long l3), none, some (.int l5), some (.int l6)], [])) (b := 300 ≤ l6) rfl (fun hb => ?_) (fun hb => ?_)
  · replace H := H.1 (hb)
    refine Ex.pure 1 (fr2 := (69, [some (.ref 18), some (.long l1), none, some (.long l3), none, some (.int l5), some (.int l6)], [.int l5])) rfl ?_
    exact Ex.iret rfl (Or.inr ⟨rfl, H.1⟩) H.2
  · replace H := H.2 (hb)
    refine Ex.pure 1 (fr2 := (20, [some (.ref 18), some (.long l1), none, some (.long l3), none, some (.int l5), some (.int l6)], [.int l5])) rfl ?_
    refine Ex.br (x := (67, [some (.ref 18), some (.long l1), none, some (.long l3), none, some (.int l5), some (.int l6)], [])) (y := (23, [some (.ref 18), some (.long l1), none, some (.long l3), none, some (.int l5), some (.int l6)], [])) (b := l5 = 0) rfl (fun hb => ?_) (fun hb => ?_)
    · replace H := H.1 (hb)
      refine Ex.pure 1 (fr2 := (69, [some (.ref 18), some (.long l1), none, some (.long l3), none, some (.int l5), some (.int l6)], [.int l5])) rfl ?_
      exact Ex.iret rfl (Or.inr ⟨rfl, H.1⟩) H.2
    · replace H := H.2 (hb)
      refine Ex.pure 1 (fr2 := (24, [some (.ref 18), some (.long l1), none, some (.long l3), none, some (.int l5), some (.int l6)], [.ref 18])) rfl ?_
      refine Ex.getJ rfl (sg_18 hs) ?_
      refine Ex.pure 2 (fr2 := (29, [some (.ref 18), some (.long l1), none, some (.long l3), none, some (.int l5), some (.int l6)], [.int (lg_cmp (h.2.2.1 18 0) l1)])) rfl ?_
      refine Ex.br (x := (41, [some (.ref 18), some (.long l1), none, some (.long l3), none, some (.int l5), some (.int l6)], [])) (y := (32, [some (.ref 18), some (.long l1), none, some (.long l3), none, some (.int l5), some (.int l6)], [])) (b := (lg_cmp (h.2.2.1 18 0) l1) ≤ 0) rfl (fun hb => ?_) (fun hb => ?_)
      · replace H := H.1 ((lg_cmp_le _ _).mp hb)
        exact H
      · replace H := H.2 (fun z => hb ((lg_cmp_le _ _).mpr z))
        refine Ex.pure 1 (fr2 := (33, [some (.ref 18), some (.long l1), none, some (.long l3), none, some (.int l5), some (.int l6)], [.ref 18])) rfl ?_
        refine Ex.getJ rfl (sg_18 hs) ?_
        refine Ex.pure 2 (fr2 := (38, [some (.ref 18), some (.long l1), none, some (.long l3), none, some (.int l5), some (.int l6)], [.int (lg_cmp (h.2.2.1 18 0) l3)])) rfl ?_
        refine Ex.br (x := (67, [some (.ref 18), some (.long l1), none, some (.long l3), none, some (.int l5), some (.int l6)], [])) (y := (41, [some (.ref 18), some (.long l1), none, some (.long l3), none, some (.int l5), some (.int l6)], [])) (b := (lg_cmp (h.2.2.1 18 0) l3) < 0) rfl (fun hb => ?_) (fun hb => ?_)
        · replace H := H.1 ((lg_cmp_lt _ _).mp hb)
          refine Ex.pure 1 (fr2 := (69, [some (.ref 18), some (.long l1), none, some (.long l3), none, some (.int l5), some (.int l6)], [.int l5])) rfl ?_
          exact Ex.iret rfl (Or.inr ⟨rfl, H.1⟩) H.2
        · replace H := H.2 (fun z => hb ((lg_cmp_lt _ _).mpr z))
          exact H
theorem w_X5_between_41 {d : Nat} {h : XH} {y : Nat → Nat} {K : XK} {E : XE} {l1 : Int64} {l3 : Int64} {u5 : Option Value} {l6 : Int32} (hd : 20 ≤ d) (hs : Sg h.1 y) (H : (l1 < (h.2.2.1 18 0) → b_X5_between_56 d 18 l1 l3 (u5) l6 0 18 h K E) ∧ (¬ (l1 < (h.2.2.1 18 0)) → b_X5_between_56 d 18 l1 l3 (u5) l6 1 18 h K E)) : b_X5_between_41 d 18 l1 l3 u5 l6 h K E := by
  show Ex d [] tb_X5_between (41, [some (.ref 18), some (.long l1), none, some (.long l3), none, u5, some (.int l6)], []) h _
  refine Ex.pure 2 (fr2 := (43, [some (.ref 18), some (.long l1), none, some (.long l3), none, u5, some (.int l6)], [.ref 18, .ref 18])) rfl ?_
  refine Ex.getJ rfl (sg_18 hs) ?_
  refine Ex.pure 2 (fr2 := (48, [some (.ref 18), some (.long l1), none, some (.long l3), none, u5, some (.int l6)], [.int (lg_cmp (h.2.2.1 18 0) l1), .ref 18])) rfl ?_
  refine Ex.br (x := (55, [some (.ref 18), some (.long l1), none, some (.long l3), none, u5, some (.int l6)], [.ref 18])) (y := (51, [some (.ref 18), some (.long l1), none, some (.long l3), none, u5, some (.int l6)], [.ref 18])) (b := 0 < (lg_cmp (h.2.2.1 18 0) l1)) rfl (fun hb => ?_) (fun hb => ?_)
  · replace H := H.1 ((lg_cmp_gt _ _).mp hb)
    refine Ex.pure 1 (fr2 := (56, [some (.ref 18), some (.long l1), none, some (.long l3), none, u5, some (.int l6)], [.int 0, .ref 18])) rfl ?_
    exact H
  · replace H := H.2 (fun z => hb ((lg_cmp_gt _ _).mpr z))
    refine Ex.pure 2 (fr2 := (56, [some (.ref 18), some (.long l1), none, some (.long l3), none, u5, some (.int l6)], [.int 1, .ref 18])) rfl ?_
    exact H
theorem w_X5_between_56 {d : Nat} {h : XH} {y : Nat → Nat} {K : XK} {E : XE} {l1 : Int64} {l3 : Int64} {u5 : Option Value} {l6 : Int32} {s0 : Int32} (hd : 20 ≤ d) (hs : Sg h.1 y) (H : (Ca d m_X5_goes [.ref 18, .int s0] h (fun rv h1 => ∃ x2, rv = some (.int x2) ∧ Sg h1.1 y ∧ b_X5_between_10 d 18 l1 l3 x2 (l6 + 1) h1 K E) E)) : b_X5_between_56 d 18 l1 l3 u5 l6 s0 18 h K E := by
  show Ex d [] tb_X5_between (56, [some (.ref 18), some (.long l1), none, some (.long l3), none, u5, some (.int l6)], [.int s0, .ref 18]) h _
  refine Ex.cal (rest := []) (j := m_X5_goes) (as := [.ref 18, .int s0]) (vst (a := 66) (b := 2) (c := 4) (rest := []) (vs := [.int s0]) rfl ⟨Nat.le_of_ble_eq_true rfl, Nat.le_of_ble_eq_true rfl⟩ rfl rfl (sg_18 hs)) (H.imp ?_)
  intro rv h1 H
  obtain ⟨x2, rfl, H⟩ := H
  obtain ⟨hs, H⟩ := H
  show Ex d [] tb_X5_between (59, [some (.ref 18), some (.long l1), none, some (.long l3), none, u5, some (.int l6)], [.int x2]) h1 _
  refine Ex.pure 3 (fr2 := (10, [some (.ref 18), some (.long l1), none, some (.long l3), none, some (.int x2), some (.int (l6 + 1))], [])) rfl ?_
  exact H
def b_X5_goes_15 (d : Nat) (r_0 : Nat) (l1 : Int32) (u2 : Option Value) (u3 : Option Value) (u4 : Option Value) (u5 : Option Value) (u6 : Option Value) (u7 : Option Value) (u8 : Option Value) (s0 : Int64) (h : XH) (K : XK) (E : XE) : Prop := Ex d [] tb_X5_goes (15, [some (.ref r_0), some (.int l1), u2, u3, u4, u5, u6, u7, u8], [.long s0]) h (Po K E)
def b_X5_goes_32 (d : Nat) (r_0 : Nat) (l1 : Int32) (l2 : Int64) (u4 : Option Value) (u5 : Option Value) (u6 : Option Value) (u7 : Option Value) (u8 : Option Value) (h : XH) (K : XK) (E : XE) : Prop := Ex d [] tb_X5_goes (32, [some (.ref r_0), some (.int l1), some (.long l2), none, u4, u5, u6, u7, u8], []) h (Po K E)
def b_X5_goes_37 (d : Nat) (r_0 : Nat) (l1 : Int32) (l2 : Int64) (u4 : Option Value) (u5 : Option Value) (u6 : Option Value) (u7 : Option Value) (u8 : Option Value) (s0 : Int32) (h : XH) (K : XK) (E : XE) : Prop := Ex d [] tb_X5_goes (37, [some (.ref r_0), some (.int l1), some (.long l2), none, u4, u5, u6, u7, u8], [.int s0]) h (Po K E)
def b_X5_goes_63 (d : Nat) (r_0 : Nat) (l1 : Int32) (u2 : Option Value) (u3 : Option Value) (l4 : Int32) (l5 : Int64) (u7 : Option Value) (u8 : Option Value) (h : XH) (K : XK) (E : XE) : Prop := Ex d [] tb_X5_goes (63, [some (.ref r_0), some (.int l1), u2, u3, some (.int l4), some (.long l5), none, u7, u8], []) h (Po K E)
def b_X5_goes_92 (d : Nat) (r_0 : Nat) (l1 : Int32) (u2 : Option Value) (u3 : Option Value) (u4 : Option Value) (u5 : Option Value) (u6 : Option Value) (l7 : Int64) (s0 : Int64) (s1 : Int64) (r_10 : Nat) (h : XH) (K : XK) (E : XE) : Prop := Ex d [] tb_X5_goes (92, [some (.ref r_0), some (.int l1), u2, u3, u4, u5, u6, some (.long l7), none], [.long s0, .long s1, .ref r_10]) h (Po K E)
def b_X5_goes_114 (d : Nat) (r_0 : Nat) (l1 : Int32) (u2 : Option Value) (u3 : Option Value) (u4 : Option Value) (u5 : Option Value) (u6 : Option Value) (l7 : Int64) (h : XH) (K : XK) (E : XE) : Prop := Ex d [] tb_X5_goes (114, [some (.ref r_0), some (.int l1), u2, u3, u4, u5, u6, some (.long l7), none], []) h (Po K E)
def b_X5_goes_128 (d : Nat) (r_0 : Nat) (l1 : Int32) (u2 : Option Value) (u3 : Option Value) (u4 : Option Value) (u5 : Option Value) (u6 : Option Value) (l7 : Int64) (s0 : Int64) (r_9 : Nat) (h : XH) (K : XK) (E : XE) : Prop := Ex d [] tb_X5_goes (128, [some (.ref r_0), some (.int l1), u2, u3, u4, u5, u6, some (.long l7), none], [.long s0, .ref r_9]) h (Po K E)
def b_X5_goes_145 (d : Nat) (r_0 : Nat) (u1 : Option Value) (u2 : Option Value) (u3 : Option Value) (u4 : Option Value) (u5 : Option Value) (u6 : Option Value) (u7 : Option Value) (u8 : Option Value) (s0 : Int64) (r_10 : Nat) (h : XH) (K : XK) (E : XE) : Prop := Ex d [] tb_X5_goes (145, [some (.ref r_0), u1, u2, u3, u4, u5, u6, u7, u8], [.long s0, .ref r_10]) h (Po K E)
theorem w_X5_goes {d : Nat} {h : XH} {y : Nat → Nat} {K : XK} {E : XE} {a : Int32} (hd : 20 ≤ d) (hs : Sg h.1 y) (H : (a = 0 → b_X5_goes_15 d 18 a none none none none none none none (h.2.2.1 18 1) h K E) ∧ (¬ (a = 0) → b_X5_goes_15 d 18 a none none none none none none none (h.2.2.1 18 2) h K E)) : Ca (d + 1) m_X5_goes [.ref 18, .int a] h K E := by
  refine Ca.of ⟨by show 2 ≤ 9; omega, rfl⟩ ?_
  show Ex d [] tb_X5_goes (0, [some (.ref 18), some (.int a), none, none, none, none, none, none, none], []) h _
  refine Ex.pure 1 (fr2 := (1, [some (.ref 18), some (.int a), none, none, none, none, none, none, none], [.int a])) rfl ?_
  refine Ex.br (x := (11, [some (.ref 18), some (.int a), none, none, none, none, none, none, none], [])) (y := (4, [some (.ref 18), some (.int a), none, none, none, none, none, none, none], [])) (b := a = 0) rfl (fun hb => ?_) (fun hb => ?_)
  · replace H := H.1 (hb)
    refine Ex.pure 1 (fr2 := (12, [some (.ref 18), some (.int a), none, none, none, none, none, none, none], [.ref 18])) rfl ?_
    refine Ex.getJ rfl (sg_18 hs) ?_
    exact H
  · replace H := H.2 (hb)
    refine Ex.pure 1 (fr2 := (5, [some (.ref 18), some (.int a), none, none, none, none, none, none, none], [.ref 18])) rfl ?_
    refine Ex.getJ rfl (sg_18 hs) ?_
    refine Ex.pure 1 (fr2 := (15, [some (.ref 18), some (.int a), none, none, none, none, none, none, none], [.long (h.2.2.1 18 2)])) rfl ?_
    exact H
theorem w_X5_goes_15 {d : Nat} {h : XH} {y : Nat → Nat} {K : XK} {E : XE} {l1 : Int32} {u2 : Option Value} {u3 : Option Value} {u4 : Option Value} {u5 : Option Value} {u6 : Option Value} {u7 : Option Value} {u8 : Option Value} {s0 : Int64} (hd : 20 ≤ d) (hs : Sg h.1 y) (H : (s0 = 1099511627776 → b_X5_goes_32 d 18 l1 s0 (u4) (u5) (u6) (u7) (u8) h K E) ∧ (¬ (s0 = 1099511627776) → (¬ s0 = (-1099511627776) → b_X5_goes_37 d 18 l1 s0 (u4) (u5) (u6) (u7) (u8) 0 h K E) ∧ (¬ (¬ s0 = (-1099511627776)) → b_X5_goes_32 d 18 l1 s0 (u4) (u5) (u6) (u7) (u8) h K E))) : b_X5_goes_15 d 18 l1 u2 u3 u4 u5 u6 u7 u8 s0 h K E := by
  show Ex d [] tb_X5_goes (15, [some (.ref 18), some (.int l1), u2, u3, u4, u5, u6, u7, u8], [.long s0]) h _
  refine Ex.pure 4 (fr2 := (21, [some (.ref 18), some (.int l1), some (.long s0), none, u4, u5, u6, u7, u8], [.int (lg_cmp s0 1099511627776)])) rfl ?_
  refine Ex.br (x := (32, [some (.ref 18), some (.int l1), some (.long s0), none, u4, u5, u6, u7, u8], [])) (y := (24, [some (.ref 18), some (.int l1), some (.long s0), none, u4, u5, u6, u7, u8], [])) (b := (lg_cmp s0 1099511627776) = 0) rfl (fun hb => ?_) (fun hb => ?_)
  · replace H := H.1 ((lg_cmp_eq _ _).mp hb)
    exact H
  · replace H := H.2 (fun z => hb ((lg_cmp_eq _ _).mpr z))
    refine Ex.pure 3 (fr2 := (29, [some (.ref 18), some (.int l1), some (.long s0), none, u4, u5, u6, u7, u8], [.int (lg_cmp s0 (-1099511627776))])) rfl ?_
    refine Ex.br (x := (36, [some (.ref 18), some (.int l1), some (.long s0), none, u4, u5, u6, u7, u8], [])) (y := (32, [some (.ref 18), some (.int l1), some (.long s0), none, u4, u5, u6, u7, u8], [])) (b := ¬ (lg_cmp s0 (-1099511627776)) = 0) rfl (fun hb => ?_) (fun hb => ?_)
    · replace H := H.1 (fun z => hb ((lg_cmp_eq _ _).mpr z))
      refine Ex.pure 1 (fr2 := (37, [some (.ref 18), some (.int l1), some (.long s0), none, u4, u5, u6, u7, u8], [.int 0])) rfl ?_
      exact H
    · replace H := H.2 (fun z => hb (fun w => z ((lg_cmp_eq _ _).mp w)))
      exact H
theorem w_X5_goes_32 {d : Nat} {h : XH} {y : Nat → Nat} {K : XK} {E : XE} {l1 : Int32} {l2 : Int64} {u4 : Option Value} {u5 : Option Value} {u6 : Option Value} {u7 : Option Value} {u8 : Option Value} (hd : 20 ≤ d) (hs : Sg h.1 y) (H : b_X5_goes_37 d 18 l1 l2 (u4) (u5) (u6) (u7) (u8) 1 h K E) : b_X5_goes_32 d 18 l1 l2 u4 u5 u6 u7 u8 h K E := by
  show Ex d [] tb_X5_goes (32, [some (.ref 18), some (.int l1), some (.long l2), none, u4, u5, u6, u7, u8], []) h _
  refine Ex.pure 2 (fr2 := (37, [some (.ref 18), some (.int l1), some (.long l2), none, u4, u5, u6, u7, u8], [.int 1])) rfl ?_
  exact H
theorem w_X5_goes_37 {d : Nat} {h : XH} {y : Nat → Nat} {K : XK} {E : XE} {l1 : Int32} {l2 : Int64} {u4 : Option Value} {u5 : Option Value} {u6 : Option Value} {u7 : Option Value} {u8 : Option Value} {s0 : Int32} (hd : 20 ≤ d) (hs : Sg h.1 y) (H : (¬ s0 = 0 → b_X5_goes_63 d 18 l1 (some (.long l2)) none s0 (l2 - (h.2.2.1 18 0)) (u7) (u8) h K E) ∧ (¬ (¬ s0 = 0) → (((l2 - (h.2.2.1 18 0)) &&& 1) = 0 → b_X5_goes_63 d 18 l1 (some (.long l2)) none s0 (l2 - (h.2.2.1 18 0)) (u7) (u8) h K E) ∧ (¬ (((l2 - (h.2.2.1 18 0)) &&& 1) = 0) → K (some (.int 0)) h))) : b_X5_goes_37 d 18 l1 l2 u4 u5 u6 u7 u8 s0 h K E := by
  show Ex d [] tb_X5_goes (37, [some (.ref 18), some (.int l1), some (.long l2), none, u4, u5, u6, u7, u8], [.int s0]) h _
  refine Ex.pure 3 (fr2 := (41, [some (.ref 18), some (.int l1), some (.long l2), none, some (.int s0), u5, u6, u7, u8], [.ref 18, .long l2])) rfl ?_
  refine Ex.getJ rfl (sg_18 hs) ?_
  refine Ex.pure 3 (fr2 := (49, [some (.ref 18), some (.int l1), some (.long l2), none, some (.int s0), some (.long (l2 - (h.2.2.1 18 0))), none, u7, u8], [.int s0])) rfl ?_
  refine Ex.br (x := (63, [some (.ref 18), some (.int l1), some (.long l2), none, some (.int s0), some (.long (l2 - (h.2.2.1 18 0))), none, u7, u8], [])) (y := (52, [some (.ref 18), some (.int l1), some (.long l2), none, some (.int s0), some (.long (l2 - (h.2.2.1 18 0))), none, u7, u8], [])) (b := ¬ s0 = 0) rfl (fun hb => ?_) (fun hb => ?_)
  · replace H := H.1 (hb)
    exact H
  · replace H := H.2 (hb)
    refine Ex.pure 5 (fr2 := (58, [some (.ref 18), some (.int l1), some (.long l2), none, some (.int s0), some (.long (l2 - (h.2.2.1 18 0))), none, u7, u8], [.int (lg_cmp ((l2 - (h.2.2.1 18 0)) &&& 1) 0)])) rfl ?_
    refine Ex.br (x := (63, [some (.ref 18), some (.int l1), some (.long l2), none, some (.int s0), some (.long (l2 - (h.2.2.1 18 0))), none, u7, u8], [])) (y := (61, [some (.ref 18), some (.int l1), some (.long l2), none, some (.int s0), some (.long (l2 - (h.2.2.1 18 0))), none, u7, u8], [])) (b := (lg_cmp ((l2 - (h.2.2.1 18 0)) &&& 1) 0) = 0) rfl (fun hb => ?_) (fun hb => ?_)
    · replace H := H.1 ((lg_cmp_eq _ _).mp hb)
      exact H
    · replace H := H.2 (fun z => hb ((lg_cmp_eq _ _).mpr z))
      refine Ex.pure 1 (fr2 := (62, [some (.ref 18), some (.int l1), some (.long l2), none, some (.int s0), some (.long (l2 - (h.2.2.1 18 0))), none, u7, u8], [.int 0])) rfl ?_
      exact Ex.iret rfl (Or.inr ⟨rfl, by decide⟩) H
theorem w_X5_goes_63 {d : Nat} {h : XH} {y : Nat → Nat} {K : XK} {E : XE} {l1 : Int32} {u2 : Option Value} {u3 : Option Value} {l4 : Int32} {l5 : Int64} {u7 : Option Value} {u8 : Option Value} (hd : 20 ≤ d) (hs : Sg h.1 y) (H : (l4 = 0 → (∀ h1 : XH, h1 = (x_setJ h 18 0 ((h.2.2.1 18 0) + (l5 / 2))) → b_X5_goes_114 d 18 l1 (u2) (u3) (some (.int l4)) (some (.long l5)) none (h.2.2.1 18 0) h1 K E)) ∧ (¬ (l4 = 0) → (l1 = 0 → b_X5_goes_92 d 18 l1 (u2) (u3) (some (.int l4)) (some (.long l5)) none (h.2.2.1 18 0) (-1048576) (h.2.2.1 18 0) 18 h K E) ∧ (¬ (l1 = 0) → b_X5_goes_92 d 18 l1 (u2) (u3) (some (.int l4)) (some (.long l5)) none (h.2.2.1 18 0) 1048576 (h.2.2.1 18 0) 18 h K E))) : b_X5_goes_63 d 18 l1 u2 u3 l4 l5 u7 u8 h K E := by
  show Ex d [] tb_X5_goes (63, [some (.ref 18), some (.int l1), u2, u3, some (.int l4), some (.long l5), none, u7, u8], []) h _
  refine Ex.pure 1 (fr2 := (64, [some (.ref 18), some (.int l1), u2, u3, some (.int l4), some (.long l5), none, u7, u8], [.ref 18])) rfl ?_
  refine Ex.getJ rfl (sg_18 hs) ?_
  refine Ex.pure 2 (fr2 := (71, [some (.ref 18), some (.int l1), u2, u3, some (.int l4), some (.long l5), none, some (.long (h.2.2.1 18 0)), none], [.int l4])) rfl ?_
  refine Ex.br (x := (99, [some (.ref 18), some (.int l1), u2, u3, some (.int l4), some (.long l5), none, some (.long (h.2.2.1 18 0)), none], [])) (y := (74, [some (.ref 18), some (.int l1), u2, u3, some (.int l4), some (.long l5), none, some (.long (h.2.2.1 18 0)), none], [])) (b := l4 = 0) rfl (fun hb => ?_) (fun hb => ?_)
  · replace H := H.1 (hb)
    refine Ex.pure 2 (fr2 := (101, [some (.ref 18), some (.int l1), u2, u3, some (.int l4), some (.long l5), none, some (.long (h.2.2.1 18 0)), none], [.ref 18, .ref 18])) rfl ?_
    refine Ex.getJ rfl (sg_18 hs) ?_
    refine Ex.pure 2 (fr2 := (109, [some (.ref 18), some (.int l1), u2, u3, some (.int l4), some (.long l5), none, some (.long (h.2.2.1 18 0)), none], [.long 2, .long l5, .long (h.2.2.1 18 0), .ref 18])) rfl ?_
    refine Ex.ldiv rfl (by decide) ?_
    refine Ex.pure 1 (fr2 := (111, [some (.ref 18), some (.int l1), u2, u3, some (.int l4), some (.long l5), none, some (.long (h.2.2.1 18 0)), none], [.long ((h.2.2.1 18 0) + (l5 / 2)), .ref 18])) rfl ?_
    refine Ex.putJ rfl (sg_18 hs) ?_
    obtain ⟨h1, e1⟩ : ∃ z : XH, z = (x_setJ h 18 0 ((h.2.2.1 18 0) + (l5 / 2))) := ⟨_, rfl⟩
    rw [← e1]
    replace H := H h1 e1
    replace hs : Sg h1.1 y := by rw [e1]; exact hs
    exact H
  · replace H := H.2 (hb)
    refine Ex.pure 2 (fr2 := (76, [some (.ref 18), some (.int l1), u2, u3, some (.int l4), some (.long l5), none, some (.long (h.2.2.1 18 0)), none], [.ref 18, .ref 18])) rfl ?_
    refine Ex.getJ rfl (sg_18 hs) ?_
    refine Ex.pure 1 (fr2 := (80, [some (.ref 18), some (.int l1), u2, u3, some (.int l4), some (.long l5), none, some (.long (h.2.2.1 18 0)), none], [.int l1, .long (h.2.2.1 18 0), .ref 18])) rfl ?_
    refine Ex.br (x := (89, [some (.ref 18), some (.int l1), u2, u3, some (.int l4), some (.long l5), none, some (.long (h.2.2.1 18 0)), none], [.long (h.2.2.1 18 0), .ref 18])) (y := (83, [some (.ref 18), some (.int l1), u2, u3, some (.int l4), some (.long l5), none, some (.long (h.2.2.1 18 0)), none], [.long (h.2.2.1 18 0), .ref 18])) (b := l1 = 0) rfl (fun hb => ?_) (fun hb => ?_)
    · replace H := H.1 (hb)
      refine Ex.pure 1 (fr2 := (92, [some (.ref 18), some (.int l1), u2, u3, some (.int l4), some (.long l5), none, some (.long (h.2.2.1 18 0)), none], [.long (-1048576), .long (h.2.2.1 18 0), .ref 18])) rfl ?_
      exact H
    · replace H := H.2 (hb)
      refine Ex.pure 2 (fr2 := (92, [some (.ref 18), some (.int l1), u2, u3, some (.int l4), some (.long l5), none, some (.long (h.2.2.1 18 0)), none], [.long 1048576, .long (h.2.2.1 18 0), .ref 18])) rfl ?_
      exact H
theorem w_X5_goes_92 {d : Nat} {h : XH} {y : Nat → Nat} {K : XK} {E : XE} {l1 : Int32} {u2 : Option Value} {u3 : Option Value} {u4 : Option Value} {u5 : Option Value} {u6 : Option Value} {l7 : Int64} {s0 : Int64} {s1 : Int64} (hd : 20 ≤ d) (hs : Sg h.1 y) (H : (∀ h1 : XH, h1 = (x_setJ h 18 0 (s1 + s0)) → b_X5_goes_114 d 18 l1 (u2) (u3) (u4) (u5) (u6) l7 h1 K E)) : b_X5_goes_92 d 18 l1 u2 u3 u4 u5 u6 l7 s0 s1 18 h K E := by
  show Ex d [] tb_X5_goes (92, [some (.ref 18), some (.int l1), u2, u3, u4, u5, u6, some (.long l7), none], [.long s0, .long s1, .ref 18]) h _
  refine Ex.pure 1 (fr2 := (93, [some (.ref 18), some (.int l1), u2, u3, u4, u5, u6, some (.long l7), none], [.long (s1 + s0), .ref 18])) rfl ?_
  refine Ex.putJ rfl (sg_18 hs) ?_
  obtain ⟨h1, e1⟩ : ∃ z : XH, z = (x_setJ h 18 0 (s1 + s0)) := ⟨_, rfl⟩
  rw [← e1]
  replace H := H h1 e1
  replace hs : Sg h1.1 y := by rw [e1]; exact hs
  refine Ex.pure 1 (fr2 := (114, [some (.ref 18), some (.int l1), u2, u3, u4, u5, u6, some (.long l7), none], [])) rfl ?_
  exact H
theorem w_X5_goes_114 {d : Nat} {h : XH} {y : Nat → Nat} {K : XK} {E : XE} {l1 : Int32} {u2 : Option Value} {u3 : Option Value} {u4 : Option Value} {u5 : Option Value} {u6 : Option Value} {l7 : Int64} (hd : 20 ≤ d) (hs : Sg h.1 y) (H : (l1 = 0 → b_X5_goes_128 d 18 l1 (u2) (u3) (u4) (u5) (u6) l7 (h.2.2.1 18 1) 18 h K E) ∧ (¬ (l1 = 0) → b_X5_goes_128 d 18 l1 (u2) (u3) (u4) (u5) (u6) l7 l7 18 h K E)) : b_X5_goes_114 d 18 l1 u2 u3 u4 u5 u6 l7 h K E := by
  show Ex d [] tb_X5_goes (114, [some (.ref 18), some (.int l1), u2, u3, u4, u5, u6, some (.long l7), none], []) h _
  refine Ex.pure 2 (fr2 := (116, [some (.ref 18), some (.int l1), u2, u3, u4, u5, u6, some (.long l7), none], [.int l1, .ref 18])) rfl ?_
  refine Ex.br (x := (124, [some (.ref 18), some (.int l1), u2, u3, u4, u5, u6, some (.long l7), none], [.ref 18])) (y := (119, [some (.ref 18), some (.int l1), u2, u3, u4, u5, u6, some (.long l7), none], [.ref 18])) (b := l1 = 0) rfl (fun hb => ?_) (fun hb => ?_)
  · replace H := H.1 (hb)
    refine Ex.pure 1 (fr2 := (125, [some (.ref 18), some (.int l1), u2, u3, u4, u5, u6, some (.long l7), none], [.ref 18, .ref 18])) rfl ?_
    refine Ex.getJ rfl (sg_18 hs) ?_
    exact H
  · replace H := H.2 (hb)
    refine Ex.pure 2 (fr2 := (128, [some (.ref 18), some (.int l1), u2, u3, u4, u5, u6, some (.long l7), none], [.long l7, .ref 18])) rfl ?_
    exact H
theorem w_X5_goes_128 {d : Nat} {h : XH} {y : Nat → Nat} {K : XK} {E : XE} {l1 : Int32} {u2 : Option Value} {u3 : Option Value} {u4 : Option Value} {u5 : Option Value} {u6 : Option Value} {l7 : Int64} {s0 : Int64} (hd : 20 ≤ d) (hs : Sg h.1 y) (H : (∀ h1 : XH, h1 = (x_setJ h 18 1 s0) → (l1 = 0 → b_X5_goes_145 d 18 (some (.int l1)) (u2) (u3) (u4) (u5) (u6) (some (.long l7)) none l7 18 h1 K E) ∧ (¬ (l1 = 0) → b_X5_goes_145 d 18 (some (.int l1)) (u2) (u3) (u4) (u5) (u6) (some (.long l7)) none (h1.2.2.1 18 2) 18 h1 K E))) : b_X5_goes_128 d 18 l1 u2 u3 u4 u5 u6 l7 s0 18 h K E := by
  show Ex d [] tb_X5_goes (128, [some (.ref 18), some (.int l1), u2, u3, u4, u5, u6, some (.long l7), none], [.long s0, .ref 18]) h _
  refine Ex.putJ rfl (sg_18 hs) ?_
  obtain ⟨h1, e1⟩ : ∃ z : XH, z = (x_setJ h 18 1 s0) := ⟨_, rfl⟩
  rw [← e1]
  replace H := H h1 e1
  replace hs : Sg h1.1 y := by rw [e1]; exact hs
  refine Ex.pure 2 (fr2 := (133, [some (.ref 18), some (.int l1), u2, u3, u4, u5, u6, some (.long l7), none], [.int l1, .ref 18])) rfl ?_
  refine Ex.br (x := (143, [some (.ref 18), some (.int l1), u2, u3, u4, u5, u6, some (.long l7), none], [.ref 18])) (y := (136, [some (.ref 18), some (.int l1), u2, u3, u4, u5, u6, some (.long l7), none], [.ref 18])) (b := l1 = 0) rfl (fun hb => ?_) (fun hb => ?_)
  · replace H := H.1 (hb)
    refine Ex.pure 1 (fr2 := (145, [some (.ref 18), some (.int l1), u2, u3, u4, u5, u6, some (.long l7), none], [.long l7, .ref 18])) rfl ?_
    exact H
  · replace H := H.2 (hb)
    refine Ex.pure 1 (fr2 := (137, [some (.ref 18), some (.int l1), u2, u3, u4, u5, u6, some (.long l7), none], [.ref 18, .ref 18])) rfl ?_
    refine Ex.getJ rfl (sg_18 hs) ?_
    refine Ex.pure 1 (fr2 := (145, [some (.ref 18), some (.int l1), u2, u3, u4, u5, u6, some (.long l7), none], [.long (h1.2.2.1 18 2), .ref 18])) rfl ?_
    exact H
theorem w_X5_goes_145 {d : Nat} {h : XH} {y : Nat → Nat} {K : XK} {E : XE} {u1 : Option Value} {u2 : Option Value} {u3 : Option Value} {u4 : Option Value} {u5 : Option Value} {u6 : Option Value} {u7 : Option Value} {u8 : Option Value} {s0 : Int64} (hd : 20 ≤ d) (hs : Sg h.1 y) (H : (∀ h1 : XH, h1 = (x_setJ h 18 2 s0) → (∀ h2 : XH, h2 = (x_setI h1 18 3 ((h1.2.1 18 3) + 1)) → K (some (.int 1)) h2))) : b_X5_goes_145 d 18 u1 u2 u3 u4 u5 u6 u7 u8 s0 18 h K E := by
  show Ex d [] tb_X5_goes (145, [some (.ref 18), u1, u2, u3, u4, u5, u6, u7, u8], [.long s0, .ref 18]) h _
  refine Ex.putJ rfl (sg_18 hs) ?_
  obtain ⟨h1, e1⟩ : ∃ z : XH, z = (x_setJ h 18 2 s0) := ⟨_, rfl⟩
  rw [← e1]
  replace H := H h1 e1
  replace hs : Sg h1.1 y := by rw [e1]; exact hs
  refine Ex.pure 2 (fr2 := (150, [some (.ref 18), u1, u2, u3, u4, u5, u6, u7, u8], [.ref 18, .ref 18])) rfl ?_
  refine Ex.getI rfl (Or.inl rfl) (sg_18 hs) ?_
  refine Ex.pure 2 (fr2 := (155, [some (.ref 18), u1, u2, u3, u4, u5, u6, u7, u8], [.int ((h1.2.1 18 3) + 1), .ref 18])) rfl ?_
  refine Ex.putI rfl (sg_18 hs) ?_
  obtain ⟨h2, e2⟩ : ∃ z : XH, z = (x_setI h1 18 3 ((h1.2.1 18 3) + 1)) := ⟨_, rfl⟩
  rw [← e2]
  replace H := H h2 e2
  replace hs : Sg h2.1 y := by rw [e2]; exact hs
  refine Ex.pure 1 (fr2 := (159, [some (.ref 18), u1, u2, u3, u4, u5, u6, u7, u8], [.int 1])) rfl ?_
  exact Ex.iret rfl (Or.inr ⟨rfl, by decide⟩) H
