/-! ===== layer 2: isFine by blocks, written by a program ===== -/
def b_L_isFine_36 (d : Nat) (r_0 : Nat) (l1 : Int32) (u2 : Option Int32) (u3 : Option Value) (l4 : Int32) (u5 : Option Value) (u6 : Option Value) (u7 : Option Value) (u8 : Option Value) (u9 : Option Value) (u10 : Option Value) (h : XH) (K : XK) (E : XE) : Prop := Ex d [] tb_L_isFine (36, [some (.ref r_0), some (.int l1), (xoi u2), u3, some (.int l4), u5, u6, u7, u8, u9, u10], []) h (Po K E)
def b_L_isFine_37 (d : Nat) (r_0 : Nat) (l1 : Int32) (u2 : Option Int32) (u3 : Option Value) (l4 : Int32) (u5 : Option Value) (u6 : Option Value) (u7 : Option Value) (u8 : Option Value) (u9 : Option Value) (u10 : Option Value) (s0 : Int32) (h : XH) (K : XK) (E : XE) : Prop := Ex d [] tb_L_isFine (37, [some (.ref r_0), some (.int l1), (xoi u2), u3, some (.int l4), u5, u6, u7, u8, u9, u10], [.int s0]) h (Po K E)
def b_L_isFine_41 (d : Nat) (r_0 : Nat) (l1 : Int32) (u2 : Option Int32) (l3 : Int32) (l4 : Int32) (l5 : Int32) (u6 : Option Value) (u7 : Option Value) (u8 : Option Value) (u9 : Option Value) (u10 : Option Value) (h : XH) (K : XK) (E : XE) : Prop := Ex d [] tb_L_isFine (41, [some (.ref r_0), some (.int l1), (xoi u2), some (.int l3), some (.int l4), some (.int l5), u6, u7, u8, u9, u10], []) h (Po K E)
def b_L_isFine_126 (d : Nat) (r_0 : Nat) (l1 : Int32) (u2 : Option Int32) (u3 : Option Value) (l4 : Int32) (l5 : Int32) (u6 : Option Value) (u7 : Option Value) (u8 : Option Value) (u9 : Option Value) (u10 : Option Value) (s0 : Int32) (s1 : Int32) (h : XH) (K : XK) (E : XE) : Prop := Ex d [] tb_L_isFine (126, [some (.ref r_0), some (.int l1), (xoi u2), u3, some (.int l4), some (.int l5), u6, u7, u8, u9, u10], [.int s0, .int s1]) h (Po K E)
def b_L_isFine_129 (d : Nat) (r_0 : Nat) (l1 : Int32) (u2 : Option Int32) (u3 : Option Value) (l4 : Int32) (l5 : Int32) (u6 : Option Value) (u7 : Option Value) (u8 : Option Value) (u9 : Option Value) (u10 : Option Value) (h : XH) (K : XK) (E : XE) : Prop := Ex d [] tb_L_isFine (129, [some (.ref r_0), some (.int l1), (xoi u2), u3, some (.int l4), some (.int l5), u6, u7, u8, u9, u10], []) h (Po K E)
def b_L_isFine_133 (d : Nat) (r_0 : Nat) (l1 : Int32) (u2 : Option Int32) (u3 : Option Value) (l4 : Int32) (l5 : Int32) (u6 : Option Value) (u7 : Option Value) (u8 : Option Value) (u9 : Option Value) (u10 : Option Value) (h : XH) (K : XK) (E : XE) : Prop := Ex d [] tb_L_isFine (133, [some (.ref r_0), some (.int l1), (xoi u2), u3, some (.int l4), some (.int l5), u6, u7, u8, u9, u10], []) h (Po K E)
def b_L_isFine_134 (d : Nat) (r_0 : Nat) (l1 : Int32) (u2 : Option Int32) (u3 : Option Value) (l4 : Int32) (l5 : Int32) (u6 : Option Value) (u7 : Option Value) (u8 : Option Value) (u9 : Option Value) (u10 : Option Value) (s0 : Int32) (h : XH) (K : XK) (E : XE) : Prop := Ex d [] tb_L_isFine (134, [some (.ref r_0), some (.int l1), (xoi u2), u3, some (.int l4), some (.int l5), u6, u7, u8, u9, u10], [.int s0]) h (Po K E)
def b_L_isFine_229 (d : Nat) (r_0 : Nat) (l1 : Int32) (u2 : Option Int32) (u3 : Option Value) (u4 : Option Value) (u5 : Option Value) (l6 : Int32) (u7 : Option Value) (u8 : Option Value) (u9 : Option Value) (u10 : Option Value) (s0 : Int32) (s1 : Int32) (h : XH) (K : XK) (E : XE) : Prop := Ex d [] tb_L_isFine (229, [some (.ref r_0), some (.int l1), (xoi u2), u3, u4, u5, some (.int l6), u7, u8, u9, u10], [.int s0, .int s1]) h (Po K E)
def b_L_isFine_244 (d : Nat) (u0 : Option Value) (u1 : Option Value) (u2 : Option Int32) (u3 : Option Value) (u4 : Option Value) (u5 : Option Value) (u6 : Option Value) (u7 : Option Value) (u8 : Option Value) (u9 : Option Value) (u10 : Option Value) (h : XH) (K : XK) (E : XE) : Prop := Ex d [] tb_L_isFine (244, [u0, u1, (xoi u2), u3, u4, u5, u6, u7, u8, u9, u10], []) h (Po K E)
def b_L_isFine_248 (d : Nat) (u0 : Option Value) (u1 : Option Value) (u2 : Option Int32) (u3 : Option Value) (u4 : Option Value) (u5 : Option Value) (u6 : Option Value) (u7 : Option Value) (u8 : Option Value) (u9 : Option Value) (u10 : Option Value) (h : XH) (K : XK) (E : XE) : Prop := Ex d [] tb_L_isFine (248, [u0, u1, (xoi u2), u3, u4, u5, u6, u7, u8, u9, u10], []) h (Po K E)
def b_L_isFine_284 (d : Nat) (r_0 : Nat) (l1 : Int32) (u2 : Option Int32) (u3 : Option Value) (l4 : Int32) (l5 : Int64) (u7 : Option Value) (u8 : Option Value) (u9 : Option Value) (u10 : Option Value) (h : XH) (K : XK) (E : XE) : Prop := Ex d [] tb_L_isFine (284, [some (.ref r_0), some (.int l1), (xoi u2), u3, some (.int l4), some (.long l5), none, u7, u8, u9, u10], []) h (Po K E)
def b_L_isFine_285 (d : Nat) (r_0 : Nat) (l1 : Int32) (u2 : Option Int32) (u3 : Option Value) (l4 : Int32) (l5 : Int64) (u7 : Option Value) (u8 : Option Value) (u9 : Option Value) (u10 : Option Value) (s0 : Int32) (h : XH) (K : XK) (E : XE) : Prop := Ex d [] tb_L_isFine (285, [some (.ref r_0), some (.int l1), (xoi u2), u3, some (.int l4), some (.long l5), none, u7, u8, u9, u10], [.int s0]) h (Po K E)
def b_L_isFine_289 (d : Nat) (r_0 : Nat) (l1 : Int32) (u2 : Option Int32) (l3 : Int32) (l4 : Int32) (l5 : Int64) (l7 : Int32) (u8 : Option Value) (u9 : Option Value) (u10 : Option Value) (h : XH) (K : XK) (E : XE) : Prop := Ex d [] tb_L_isFine (289, [some (.ref r_0), some (.int l1), (xoi u2), some (.int l3), some (.int l4), some (.long l5), none, some (.int l7), u8, u9, u10], []) h (Po K E)
def b_L_isFine_306 (d : Nat) (r_0 : Nat) (l1 : Int32) (u2 : Option Int32) (u3 : Option Value) (l4 : Int32) (l5 : Int64) (l7 : Int32) (l8 : Int64) (l10 : Int32) (h : XH) (K : XK) (E : XE) : Prop := Ex d [] tb_L_isFine (306, [some (.ref r_0), some (.int l1), (xoi u2), u3, some (.int l4), some (.long l5), none, some (.int l7), some (.long l8), none, some (.int l10)], []) h (Po K E)
def b_L_isFine_366 (d : Nat) (r_0 : Nat) (l1 : Int32) (u2 : Option Int32) (u3 : Option Value) (l4 : Int32) (u5 : Option Value) (u6 : Option Value) (l7 : Int32) (l8 : Int64) (u10 : Option Value) (h : XH) (K : XK) (E : XE) : Prop := Ex d [] tb_L_isFine (366, [some (.ref r_0), some (.int l1), (xoi u2), u3, some (.int l4), u5, u6, some (.int l7), some (.long l8), none, u10], []) h (Po K E)
def b_L_isFine_370 (d : Nat) (r_0 : Nat) (l1 : Int32) (u2 : Option Int32) (u3 : Option Value) (l4 : Int32) (u5 : Option Value) (u6 : Option Value) (l7 : Int32) (l8 : Int64) (u10 : Option Value) (h : XH) (K : XK) (E : XE) : Prop := Ex d [] tb_L_isFine (370, [some (.ref r_0), some (.int l1), (xoi u2), u3, some (.int l4), u5, u6, some (.int l7), some (.long l8), none, u10], []) h (Po K E)
def b_L_isFine_371 (d : Nat) (r_0 : Nat) (l1 : Int32) (u2 : Option Int32) (u3 : Option Value) (l4 : Int32) (u5 : Option Value) (u6 : Option Value) (l7 : Int32) (l8 : Int64) (u10 : Option Value) (s0 : Int32) (h : XH) (K : XK) (E : XE) : Prop := Ex d [] tb_L_isFine (371, [some (.ref r_0), some (.int l1), (xoi u2), u3, some (.int l4), u5, u6, some (.int l7), some (.long l8), none, u10], [.int s0]) h (Po K E)
def b_L_isFine_382 (d : Nat) (r_0 : Nat) (l1 : Int32) (u2 : Option Int32) (l3 : Int32) (l4 : Int32) (u5 : Option Value) (u6 : Option Value) (u7 : Option Value) (u8 : Option Value) (u9 : Option Value) (u10 : Option Value) (h : XH) (K : XK) (E : XE) : Prop := Ex d [] tb_L_isFine (382, [some (.ref r_0), some (.int l1), (xoi u2), some (.int l3), some (.int l4), u5, u6, u7, u8, u9, u10], []) h (Po K E)
def b_L_isFine_399 (d : Nat) (u0 : Option Value) (u1 : Option Value) (u2 : Option Int32) (u3 : Option Value) (u4 : Option Value) (u5 : Option Value) (u6 : Option Value) (u7 : Option Value) (u8 : Option Value) (u9 : Option Value) (u10 : Option Value) (h : XH) (K : XK) (E : XE) : Prop := Ex d [] tb_L_isFine (399, [u0, u1, (xoi u2), u3, u4, u5, u6, u7, u8, u9, u10], []) h (Po K E)
theorem w_L_isFine {d : Nat} {h : XH} {y : Nat → Nat} {K : XK} {E : XE} {p : Int32} (hd : 70 ≤ d) (hs : Sg h.1 y) (H : (Ca d m_X6_kind [.ref 1, .int p] h (fun rv h1 => ∃ x2, rv = some (.int x2) ∧ ∃ y3 : Nat → Nat, Sg h1.1 y3 ∧ (¬ x2 = 1 → (¬ x2 = 2 → (¬ x2 = 3 → K (some (.int 1)) h1) ∧ (¬ (¬ x2 = 3) → (Ca d m_X6_terms [.ref 1, .int p] h1 (fun rv h4 => ∃ x5, rv = some (.int x5) ∧ ∃ y6 : Nat → Nat, Sg h4.1 y6 ∧ (x5 < 0 → b_L_isFine_284 d 1 p (some x2) (some (.int 1)) x5 0 none none none none h4 K E) ∧ (¬ (x5 < 0) → (20 < x5 → b_L_isFine_284 d 1 p (some x2) (some (.int 1)) x5 0 none none none none h4 K E) ∧ (¬ (20 < x5) → b_L_isFine_285 d 1 p (some x2) (some (.int 1)) x5 0 none none none none 1 h4 K E))) E))) ∧ (¬ (¬ x2 = 2) → (Ca d m_X6_parts [.ref 1, .int p] h1 (fun rv h7 => ∃ x8, rv = some (.long x8) ∧ ∃ y9 : Nat → Nat, Sg h7.1 y9 ∧ (Ca d m_X6_birthday [.ref 1, .int p] h7 (fun rv h10 => ∃ x11, rv = some (.int x11) ∧ ∃ y12 : Nat → Nat, Sg h10.1 y12 ∧ (x8 < (-268435456) → b_L_isFine_248 d (some (.ref 1)) (some (.int p)) (some x2) (some (.int 1)) (some (.long x8)) none (some (.int x11)) none none none none h10 K E) ∧ (¬ (x8 < (-268435456)) → (268435456 < x8 → b_L_isFine_248 d (some (.ref 1)) (some (.int p)) (some x2) (some (.int 1)) (some (.long x8)) none (some (.int x11)) none none none none h10 K E) ∧ (¬ (268435456 < x8) → (x11 < 0 → b_L_isFine_248 d (some (.ref 1)) (some (.int p)) (some x2) (some (.int 1)) (some (.long x8)) none (some (.int x11)) none none none none h10 K E) ∧ (¬ (x11 < 0) → (Ca d m_X6_signOf [.ref 1, .int p, .int x11] h10 (fun rv h13 => ∃ x14, rv = some (.int x14) ∧ ∃ y15 : Nat → Nat, Sg h13.1 y15 ∧ (¬ x14 = 0 → b_L_isFine_248 d (some (.ref 1)) (some (.int p)) (some x2) (some (.int 1)) (some (.long x8)) none (some (.int x11)) none none none none h13 K E) ∧ (¬ (¬ x14 = 0) → (¬ x11 = 0 → (Ca d m_X6_signOf [.ref 1, .int p, .int 0] h13 (fun rv h16 => ∃ x17, rv = some (.int x17) ∧ ∃ y18 : Nat → Nat, Sg h16.1 y18 ∧ (x8 ≤ 0 → b_L_isFine_229 d 1 p (some x2) (some (.int 1)) (some (.long x8)) none x11 none none none none (-1) x17 h16 K E) ∧ (¬ (x8 ≤ 0) → b_L_isFine_229 d 1 p (some x2) (some (.int 1)) (some (.long x8)) none x11 none none none none 1 x17 h16 K E)) E)) ∧ (¬ (¬ x11 = 0) → (¬ x8 = 0 → b_L_isFine_248 d (some (.ref 1)) (some (.int p)) (some x2) (some (.int 1)) (some (.long x8)) none (some (.int x11)) none none none none h13 K E) ∧ (¬ (¬ x8 = 0) → b_L_isFine_244 d (some (.ref 1)) (some (.int p)) (some x2) (some (.int 1)) (some (.long x8)) none (some (.int x11)) none none none none h13 K E)))) E))))) E)) E))) ∧ (¬ (¬ x2 = 1) → (Ca d m_X6_powers [.ref 1, .int p] h1 (fun rv h19 => ∃ x20, rv = some (.int x20) ∧ ∃ y21 : Nat → Nat, Sg h19.1 y21 ∧ (x20 < 0 → b_L_isFine_36 d 1 p (some x2) (some (.int 1)) x20 none none none none none none h19 K E) ∧ (¬ (x20 < 0) → (8 < x20 → b_L_isFine_36 d 1 p (some x2) (some (.int 1)) x20 none none none none none none h19 K E) ∧ (¬ (8 < x20) → b_L_isFine_37 d 1 p (some x2) (some (.int 1)) x20 none none none none none none 1 h19 K E))) E))) E)) : Ca (d + 1) m_L_isFine [.ref 1, .int p] h K E := by
  refine Ca.of ⟨by show 2 ≤ 11; omega, rfl⟩ ?_
  show Ex d [] tb_L_isFine (0, [some (.ref 1), some (.int p), none, none, none, none, none, none, none, none, none], []) h _
  refine Ex.pure 2 (fr2 := (2, [some (.ref 1), some (.int p), none, none, none, none, none, none, none, none, none], [.int p, .ref 1])) rfl ?_
  refine Ex.cal (rest := []) (j := m_X6_kind) (as := [.ref 1, .int p]) (vst (a := 68) (b := 2) (c := 5) (rest := []) (vs := [.int p]) rfl ⟨Nat.le_of_ble_eq_true rfl, Nat.le_of_ble_eq_true rfl⟩ rfl rfl (sg_1 hs)) (H.imp ?_)
  intro rv h1 H
  obtain ⟨x2, rfl, H⟩ := H
  obtain ⟨y3, hs, H⟩ := H
  show Ex d [] tb_L_isFine (5, [some (.ref 1), some (.int p), none, none, none, none, none, none, none, none, none], [.int x2]) h1 _
  refine Ex.pure 5 (fr2 := (10, [some (.ref 1), some (.int p), some (.int x2), some (.int 1), none, none, none, none, none, none, none], [.int 1, .int x2])) rfl ?_
  refine Ex.br (x := (144, [some (.ref 1), some (.int p), some (.int x2), some (.int 1), none, none, none, none, none, none, none], [])) (y := (13, [some (.ref 1), some (.int p), some (.int x2), some (.int 1), none, none, none, none, none, none, none], [])) (b := ¬ x2 = 1) rfl (fun hb => ?_) (fun hb => ?_)
  · replace H := H.1 (hb)
    refine Ex.pure 2 (fr2 := (146, [some (.ref 1), some (.int p), some (.int x2), some (.int 1), none, none, none, none, none, none, none], [.int 2, .int x2])) rfl ?_
    refine Ex.br (x := (253, [some (.ref 1), some (.int p), some (.int x2), some (.int 1), none, none, none, none, none, none, none], [])) (y := (149, [some (.ref 1), some (.int p), some (.int x2), some (.int 1), none, none, none, none, none, none, none], [])) (b := ¬ x2 = 2) rfl (fun hb => ?_) (fun hb => ?_)
    · replace H := H.1 (hb)
      refine Ex.pure 2 (fr2 := (255, [some (.ref 1), some (.int p), some (.int x2), some (.int 1), none, none, none, none, none, none, none], [.int 3, .int x2])) rfl ?_
      refine Ex.br (x := (405, [some (.ref 1), some (.int p), some (.int x2), some (.int 1), none, none, none, none, none, none, none], [])) (y := (258, [some (.ref 1), some (.int p), some (.int x2), some (.int 1), none, none, none, none, none, none, none], [])) (b := ¬ x2 = 3) rfl (fun hb => ?_) (fun hb => ?_)
      · replace H := H.1 (hb)
        refine Ex.pure 1 (fr2 := (406, [some (.ref 1), some (.int p), some (.int x2), some (.int 1), none, none, none, none, none, none, none], [.int 1])) rfl ?_
        exact Ex.iret rfl (Or.inr ⟨rfl, by decide⟩) H
      · replace H := H.2 (hb)
        refine Ex.pure 2 (fr2 := (260, [some (.ref 1), some (.int p), some (.int x2), some (.int 1), none, none, none, none, none, none, none], [.int p, .ref 1])) rfl ?_
        refine Ex.cal (rest := []) (j := m_X6_terms) (as := [.ref 1, .int p]) (vst (a := 90) (b := 2) (c := 5) (rest := []) (vs := [.int p]) rfl ⟨Nat.le_of_ble_eq_true rfl, Nat.le_of_ble_eq_true rfl⟩ rfl rfl (sg_1 hs)) (H.imp ?_)
        intro rv h4 H
        obtain ⟨x5, rfl, H⟩ := H
        obtain ⟨y6, hs, H⟩ := H
        show Ex d [] tb_L_isFine (263, [some (.ref 1), some (.int p), some (.int x2), some (.int 1), none, none, none, none, none, none, none], [.int x5]) h4 _
        refine Ex.pure 4 (fr2 := (270, [some (.ref 1), some (.int p), some (.int x2), some (.int 1), some (.int x5), some (.long 0), none, none, none, none, none], [.int x5])) rfl ?_
        refine Ex.br (x := (284, [some (.ref 1), some (.int p), some (.int x2), some (.int 1), some (.int x5), some (.long 0), none, none, none, none, none], [])) (y := (273, [some (.ref 1), some (.int p), some (.int x2), some (.int 1), some (.int x5), some (.long 0), none, none, none, none, none], [])) (b := x5 < 0) rfl (fun hb => ?_) (fun hb => ?_)
        · replace H := H.1 (hb)
          exact H
        · replace H := H.2 (hb)
          refine Ex.pure 2 (fr2 := (277, [some (.ref 1), some (.int p), some (.int x2), some (.int 1), some (.int x5), some (.long 0), none, none, none, none, none], [.int 20, .int x5])) rfl ?_
          refine Ex.br (x := (284, [some (.ref 1), some (.int p), some (.int x2), some (.int 1), some (.int x5), some (.long 0), none, none, none, none, none], [])) (y := (280, [some (.ref 1), some (.int p), some (.int x2), some (.int 1), some (.int x5), some (.long 0), none, none, none, none, none], [])) (b := 20 < x5) rfl (fun hb => ?_) (fun hb => ?_)
          · replace H := H.1 (hb)
            exact H
          · replace H := H.2 (hb)
            refine Ex.pure 2 (fr2 := (285, [some (.ref 1), some (.int p), some (.int x2), some (.int 1), some (.int x5), some (.long 0), none, none, none, none, none], [.int 1])) rfl ?_
            exact H
    · replace H := H.2 (hb)
      refine Ex.pure 2 (fr2 := (151, [some (.ref 1), some (.int p), some (.int x2), some (.int 1), none, none, none, none, none, none, none], [.int p, .ref 1])) rfl ?_
      refine Ex.cal (rest := []) (j := m_X6_parts) (as := [.ref 1, .int p]) (vst (a := 88) (b := 2) (c := 5) (rest := []) (vs := [.int p]) rfl ⟨Nat.le_of_ble_eq_true rfl, Nat.le_of_ble_eq_true rfl⟩ rfl rfl (sg_1 hs)) (H.imp ?_)
      intro rv h7 H
      obtain ⟨x8, rfl, H⟩ := H
      obtain ⟨y9, hs, H⟩ := H
      show Ex d [] tb_L_isFine (154, [some (.ref 1), some (.int p), some (.int x2), some (.int 1), none, none, none, none, none, none, none], [.long x8]) h7 _
      refine Ex.pure 3 (fr2 := (158, [some (.ref 1), some (.int p), some (.int x2), some (.int 1), some (.long x8), none, none, none, none, none, none], [.int p, .ref 1])) rfl ?_
      refine Ex.cal (rest := []) (j := m_X6_birthday) (as := [.ref 1, .int p]) (vst (a := 86) (b := 2) (c := 5) (rest := []) (vs := [.int p]) rfl ⟨Nat.le_of_ble_eq_true rfl, Nat.le_of_ble_eq_true rfl⟩ rfl rfl (sg_1 hs)) (H.imp ?_)
      intro rv h10 H
      obtain ⟨x11, rfl, H⟩ := H
      obtain ⟨y12, hs, H⟩ := H
      show Ex d [] tb_L_isFine (161, [some (.ref 1), some (.int p), some (.int x2), some (.int 1), some (.long x8), none, none, none, none, none, none], [.int x11]) h10 _
      refine Ex.pure 4 (fr2 := (169, [some (.ref 1), some (.int p), some (.int x2), some (.int 1), some (.long x8), none, some (.int x11), none, none, none, none], [.int (lg_cmp x8 (-268435456))])) rfl ?_
      refine Ex.br (x := (248, [some (.ref 1), some (.int p), some (.int x2), some (.int 1), some (.long x8), none, some (.int x11), none, none, none, none], [])) (y := (172, [some (.ref 1), some (.int p), some (.int x2), some (.int 1), some (.long x8), none, some (.int x11), none, none, none, none], [])) (b := (lg_cmp x8 (-268435456)) < 0) rfl (fun hb => ?_) (fun hb => ?_)
      · replace H := H.1 ((lg_cmp_lt _ _).mp hb)
        exact H
      · replace H := H.2 (fun z => hb ((lg_cmp_lt _ _).mpr z))
        refine Ex.pure 3 (fr2 := (178, [some (.ref 1), some (.int p), some (.int x2), some (.int 1), some (.long x8), none, some (.int x11), none, none, none, none], [.int (lg_cmp x8 268435456)])) rfl ?_
        refine Ex.br (x := (248, [some (.ref 1), some (.int p), some (.int x2), some (.int 1), some (.long x8), none, some (.int x11), none, none, none, none], [])) (y := (181, [some (.ref 1), some (.int p), some (.int x2), some (.int 1), some (.long x8), none, some (.int x11), none, none, none, none], [])) (b := 0 < (lg_cmp x8 268435456)) rfl (fun hb => ?_) (fun hb => ?_)
        · replace H := H.1 ((lg_cmp_gt _ _).mp hb)
          exact H
        · replace H := H.2 (fun z => hb ((lg_cmp_gt _ _).mpr z))
          refine Ex.pure 1 (fr2 := (183, [some (.ref 1), some (.int p), some (.int x2), some (.int 1), some (.long x8), none, some (.int x11), none, none, none, none], [.int x11])) rfl ?_
          refine Ex.br (x := (248, [some (.ref 1), some (.int p), some (.int x2), some (.int 1), some (.long x8), none, some (.int x11), none, none, none, none], [])) (y := (186, [some (.ref 1), some (.int p), some (.int x2), some (.int 1), some (.long x8), none, some (.int x11), none, none, none, none], [])) (b := x11 < 0) rfl (fun hb => ?_) (fun hb => ?_)
          · replace H := H.1 (hb)
            exact H
          · replace H := H.2 (hb)
            refine Ex.pure 3 (fr2 := (190, [some (.ref 1), some (.int p), some (.int x2), some (.int 1), some (.long x8), none, some (.int x11), none, none, none, none], [.int x11, .int p, .ref 1])) rfl ?_
            refine Ex.cal (rest := []) (j := m_X6_signOf) (as := [.ref 1, .int p, .int x11]) (vst (a := 87) (b := 3) (c := 5) (rest := []) (vs := [.int p, .int x11]) rfl ⟨Nat.le_of_ble_eq_true rfl, Nat.le_of_ble_eq_true rfl⟩ rfl rfl (sg_1 hs)) (H.imp ?_)
            intro rv h13 H
            obtain ⟨x14, rfl, H⟩ := H
            obtain ⟨y15, hs, H⟩ := H
            show Ex d [] tb_L_isFine (193, [some (.ref 1), some (.int p), some (.int x2), some (.int 1), some (.long x8), none, some (.int x11), none, none, none, none], [.int x14]) h13 _
            refine Ex.br (x := (248, [some (.ref 1), some (.int p), some (.int x2), some (.int 1), some (.long x8), none, some (.int x11), none, none, none, none], [])) (y := (196, [some (.ref 1), some (.int p), some (.int x2), some (.int 1), some (.long x8), none, some (.int x11), none, none, none, none], [])) (b := ¬ x14 = 0) rfl (fun hb => ?_) (fun hb => ?_)
            · replace H := H.1 (hb)
              exact H
            · replace H := H.2 (hb)
              refine Ex.pure 1 (fr2 := (198, [some (.ref 1), some (.int p), some (.int x2), some (.int 1), some (.long x8), none, some (.int x11), none, none, none, none], [.int x11])) rfl ?_
              refine Ex.br (x := (211, [some (.ref 1), some (.int p), some (.int x2), some (.int 1), some (.long x8), none, some (.int x11), none, none, none, none], [])) (y := (201, [some (.ref 1), some (.int p), some (.int x2), some (.int 1), some (.long x8), none, some (.int x11), none, none, none, none], [])) (b := ¬ x11 = 0) rfl (fun hb => ?_) (fun hb => ?_)
              · replace H := H.1 (hb)
                refine Ex.pure 3 (fr2 := (214, [some (.ref 1), some (.int p), some (.int x2), some (.int 1), some (.long x8), none, some (.int x11), none, none, none, none], [.int 0, .int p, .ref 1])) rfl ?_
                refine Ex.cal (rest := []) (j := m_X6_signOf) (as := [.ref 1, .int p, .int 0]) (vst (a := 87) (b := 3) (c := 5) (rest := []) (vs := [.int p, .int 0]) rfl ⟨Nat.le_of_ble_eq_true rfl, Nat.le_of_ble_eq_true rfl⟩ rfl rfl (sg_1 hs)) (H.imp ?_)
                intro rv h16 H
                obtain ⟨x17, rfl, H⟩ := H
                obtain ⟨y18, hs, H⟩ := H
                show Ex d [] tb_L_isFine (217, [some (.ref 1), some (.int p), some (.int x2), some (.int 1), some (.long x8), none, some (.int x11), none, none, none, none], [.int x17]) h16 _
                refine Ex.pure 3 (fr2 := (221, [some (.ref 1), some (.int p), some (.int x2), some (.int 1), some (.long x8), none, some (.int x11), none, none, none, none], [.int (lg_cmp x8 0), .int x17])) rfl ?_
                refine Ex.br (x := (228, [some (.ref 1), some (.int p), some (.int x2), some (.int 1), some (.long x8), none, some (.int x11), none, none, none, none], [.int x17])) (y := (224, [some (.ref 1), some (.int p), some (.int x2), some (.int 1), some (.long x8), none, some (.int x11), none, none, none, none], [.int x17])) (b := (lg_cmp x8 0) ≤ 0) rfl (fun hb => ?_) (fun hb => ?_)
                · replace H := H.1 ((lg_cmp_le _ _).mp hb)
                  refine Ex.pure 1 (fr2 := (229, [some (.ref 1), some (.int p), some (.int x2), some (.int 1), some (.long x8), none, some (.int x11), none, none, none, none], [.int (-1), .int x17])) rfl ?_
                  exact H
                · replace H := H.2 (fun z => hb ((lg_cmp_le _ _).mpr z))
                  refine Ex.pure 2 (fr2 := (229, [some (.ref 1), some (.int p), some (.int x2), some (.int 1), some (.long x8), none, some (.int x11), none, none, none, none], [.int 1, .int x17])) rfl ?_
                  exact H
              · replace H := H.2 (hb)
                refine Ex.pure 3 (fr2 := (205, [some (.ref 1), some (.int p), some (.int x2), some (.int 1), some (.long x8), none, some (.int x11), none, none, none, none], [.int (lg_cmp x8 0)])) rfl ?_
                refine Ex.br (x := (248, [some (.ref 1), some (.int p), some (.int x2), some (.int 1), some (.long x8), none, some (.int x11), none, none, none, none], [])) (y := (208, [some (.ref 1), some (.int p), some (.int x2), some (.int 1), some (.long x8), none, some (.int x11), none, none, none, none], [])) (b := ¬ (lg_cmp x8 0) = 0) rfl (fun hb => ?_) (fun hb => ?_)
                · replace H := H.1 (fun z => hb ((lg_cmp_eq _ _).mpr z))
                  exact H
                · replace H := H.2 (fun z => hb (fun w => z ((lg_cmp_eq _ _).mp w)))
                  refine Ex.pure 1 (fr2 := (244, [some (.ref 1), some (.int p), some (.int x2), some (.int 1), some (.long x8), none, some (.int x11), none, none, none, none], [])) rfl ?_
                  exact H
  · replace H := H.2 (hb)
    refine Ex.pure 2 (fr2 := (15, [some (.ref 1), some (.int p), some (.int x2), some (.int 1), none, none, none, none, none, none, none], [.int p, .ref 1])) rfl ?_
    refine Ex.cal (rest := []) (j := m_X6_powers) (as := [.ref 1, .int p]) (vst (a := 82) (b := 2) (c := 5) (rest := []) (vs := [.int p]) rfl ⟨Nat.le_of_ble_eq_true rfl, Nat.le_of_ble_eq_true rfl⟩ rfl rfl (sg_1 hs)) (H.imp ?_)
    intro rv h19 H
    obtain ⟨x20, rfl, H⟩ := H
    obtain ⟨y21, hs, H⟩ := H
    show Ex d [] tb_L_isFine (18, [some (.ref 1), some (.int p), some (.int x2), some (.int 1), none, none, none, none, none, none, none], [.int x20]) h19 _
    refine Ex.pure 2 (fr2 := (22, [some (.ref 1), some (.int p), some (.int x2), some (.int 1), some (.int x20), none, none, none, none, none, none], [.int x20])) rfl ?_
    refine Ex.br (x := (36, [some (.ref 1), some (.int p), some (.int x2), some (.int 1), some (.int x20), none, none, none, none, none, none], [])) (y := (25, [some (.ref 1), some (.int p), some (.int x2), some (.int 1), some (.int x20), none, none, none, none, none, none], [])) (b := x20 < 0) rfl (fun hb => ?_) (fun hb => ?_)
    · replace H := H.1 (hb)
      exact H
    · replace H := H.2 (hb)
      refine Ex.pure 2 (fr2 := (29, [some (.ref 1), some (.int p), some (.int x2), some (.int 1), some (.int x20), none, none, none, none, none, none], [.int 8, .int x20])) rfl ?_
      refine Ex.br (x := (36, [some (.ref 1), some (.int p), some (.int x2), some (.int 1), some (.int x20), none, none, none, none, none, none], [])) (y := (32, [some (.ref 1), some (.int p), some (.int x2), some (.int 1), some (.int x20), none, none, none, none, none, none], [])) (b := 8 < x20) rfl (fun hb => ?_) (fun hb => ?_)
      · replace H := H.1 (hb)
        exact H
      · replace H := H.2 (hb)
        refine Ex.pure 2 (fr2 := (37, [some (.ref 1), some (.int p), some (.int x2), some (.int 1), some (.int x20), none, none, none, none, none, none], [.int 1])) rfl ?_
        exact H
theorem w_L_isFine_36 {d : Nat} {h : XH} {y : Nat → Nat} {K : XK} {E : XE} {l1 : Int32} {u2 : Option Int32} {u3 : Option Value} {l4 : Int32} {u5 : Option Value} {u6 : Option Value} {u7 : Option Value} {u8 : Option Value} {u9 : Option Value} {u10 : Option Value} (hd : 70 ≤ d) (hs : Sg h.1 y) (H : b_L_isFine_37 d 1 l1 u2 (u3) l4 (u5) (u6) (u7) (u8) (u9) (u10) 0 h K E) : b_L_isFine_36 d 1 l1 u2 u3 l4 u5 u6 u7 u8 u9 u10 h K E := by
  cases u2 with
  | none =>
    show Ex d [] tb_L_isFine (36, [some (.ref 1), some (.int l1), (xoi none), u3, some (.int l4), u5, u6, u7, u8, u9, u10], []) h _
    refine Ex.pure 1 (fr2 := (37, [some (.ref 1), some (.int l1), (xoi none), u3, some (.int l4), u5, u6, u7, u8, u9, u10], [.int 0])) rfl ?_
    exact H
  | some v2 =>
    show Ex d [] tb_L_isFine (36, [some (.ref 1), some (.int l1), (xoi (some v2)), u3, some (.int l4), u5, u6, u7, u8, u9, u10], []) h _
    refine Ex.pure 1 (fr2 := (37, [some (.ref 1), some (.int l1), (xoi (some v2)), u3, some (.int l4), u5, u6, u7, u8, u9, u10], [.int 0])) rfl ?_
    exact H
theorem w_L_isFine_37 {d : Nat} {h : XH} {y : Nat → Nat} {K : XK} {E : XE} {l1 : Int32} {u2 : Option Int32} {u3 : Option Value} {l4 : Int32} {u5 : Option Value} {u6 : Option Value} {u7 : Option Value} {u8 : Option Value} {u9 : Option Value} {u10 : Option Value} {s0 : Int32} (hd : 70 ≤ d) (hs : Sg h.1 y) (H : b_L_isFine_41 d 1 l1 u2 s0 l4 0 (u6) (u7) (u8) (u9) (u10) h K E) : b_L_isFine_37 d 1 l1 u2 u3 l4 u5 u6 u7 u8 u9 u10 s0 h K E := by
  cases u2 with
  | none =>
    show Ex d [] tb_L_isFine (37, [some (.ref 1), some (.int l1), (xoi none), u3, some (.int l4), u5, u6, u7, u8, u9, u10], [.int s0]) h _
    refine Ex.pure 3 (fr2 := (41, [some (.ref 1), some (.int l1), (xoi none), some (.int s0), some (.int l4), some (.int 0), u6, u7, u8, u9, u10], [])) rfl ?_
    exact H
  | some v2 =>
    show Ex d [] tb_L_isFine (37, [some (.ref 1), some (.int l1), (xoi (some v2)), u3, some (.int l4), u5, u6, u7, u8, u9, u10], [.int s0]) h _
    refine Ex.pure 3 (fr2 := (41, [some (.ref 1), some (.int l1), (xoi (some v2)), some (.int s0), some (.int l4), some (.int 0), u6, u7, u8, u9, u10], [])) rfl ?_
    exact H
theorem w_L_isFine_41 {d : Nat} {h : XH} {y : Nat → Nat} {K : XK} {E : XE} {l1 : Int32} {u2 : Option Int32} {l3 : Int32} {l4 : Int32} {l5 : Int32} {u6 : Option Value} {u7 : Option Value} {u8 : Option Value} {u9 : Option Value} {u10 : Option Value} (hd : 70 ≤ d) (hs : Sg h.1 y) (H : (l4 ≤ l5 → (l3 = 0 ∨ l3 = 1) ∧ K (some (.int l3)) h) ∧ (¬ (l4 ≤ l5) → (l3 = 0 → (l3 = 0 ∨ l3 = 1) ∧ K (some (.int l3)) h) ∧ (¬ (l3 = 0) → (Ca d m_X6_times [.ref 1, .int l1, .int l5] h (fun rv h1 => ∃ x2, rv = some (.long x2) ∧ ∃ y3 : Nat → Nat, Sg h1.1 y3 ∧ (x2 < 1 → b_L_isFine_133 d 1 l1 u2 (some (.int l3)) l4 l5 (u6) (u7) (u8) (u9) (u10) h1 K E) ∧ (¬ (x2 < 1) → (Ca d m_X6_times [.ref 1, .int l1, .int l5] h1 (fun rv h4 => ∃ x5, rv = some (.long x5) ∧ ∃ y6 : Nat → Nat, Sg h4.1 y6 ∧ (1000000 < x5 → b_L_isFine_133 d 1 l1 u2 (some (.int l3)) l4 l5 (u6) (u7) (u8) (u9) (u10) h4 K E) ∧ (¬ (1000000 < x5) → (Ca d m_L_ask [.ref 1, .int 8, .int (14 + (l5 - l5 / 2 * 2)), .int l1, .int l5] h4 (fun rv h7 => ∃ x8, rv = some (.int x8) ∧ ∃ y9 : Nat → Nat, Sg h7.1 y9 ∧ (¬ x8 = 0 → b_L_isFine_133 d 1 l1 u2 (some (.int l3)) l4 l5 (u6) (u7) (u8) (u9) (u10) h7 K E) ∧ (¬ (¬ x8 = 0) → (l5 = 0 → b_L_isFine_129 d 1 l1 u2 (some (.int l3)) l4 l5 (u6) (u7) (u8) (u9) (u10) h7 K E) ∧ (¬ (l5 = 0) → (Ca d m_L_ask [.ref 1, .int 12, .int 14, .int 15, .int 0] h7 (fun rv h10 => ∃ x11, rv = some (.int x11) ∧ ∃ y12 : Nat → Nat, Sg h10.1 y12 ∧ (¬ (l5 - l5 / 2 * 2) = 1 → b_L_isFine_126 d 1 l1 u2 (some (.int l3)) l4 l5 (u6) (u7) (u8) (u9) (u10) (-1) x11 h10 K E) ∧ (¬ (¬ (l5 - l5 / 2 * 2) = 1) → b_L_isFine_126 d 1 l1 u2 (some (.int l3)) l4 l5 (u6) (u7) (u8) (u9) (u10) 1 x11 h10 K E)) E)))) E))) E))) E)))) : b_L_isFine_41 d 1 l1 u2 l3 l4 l5 u6 u7 u8 u9 u10 h K E := by
  cases u2 with
  | none =>
    show Ex d [] tb_L_isFine (41, [some (.ref 1), some (.int l1), (xoi none), some (.int l3), some (.int l4), some (.int l5), u6, u7, u8, u9, u10], []) h _
    refine Ex.pure 2 (fr2 := (45, [some (.ref 1), some (.int l1), (xoi none), some (.int l3), some (.int l4), some (.int l5), u6, u7, u8, u9, u10], [.int l4, .int l5])) rfl ?_
    refine Ex.br (x := (141, [some (.ref 1), some (.int l1), (xoi none), some (.int l3), some (.int l4), some (.int l5), u6, u7, u8, u9, u10], [])) (y := (48, [some (.ref 1), some (.int l1), (xoi none), some (.int l3), some (.int l4), some (.int l5), u6, u7, u8, u9, u10], [])) (b := l4 ≤ l5) rfl (fun hb => ?_) (fun hb => ?_)
    · replace H := H.1 (hb)
      refine Ex.pure 2 (fr2 := (406, [some (.ref 1), some (.int l1), (xoi none), some (.int l3), some (.int l4), some (.int l5), u6, u7, u8, u9, u10], [.int l3])) rfl ?_
      exact Ex.iret rfl (Or.inr ⟨rfl, H.1⟩) H.2
    · replace H := H.2 (hb)
      refine Ex.pure 1 (fr2 := (49, [some (.ref 1), some (.int l1), (xoi none), some (.int l3), some (.int l4), some (.int l5), u6, u7, u8, u9, u10], [.int l3])) rfl ?_
      refine Ex.br (x := (141, [some (.ref 1), some (.int l1), (xoi none), some (.int l3), some (.int l4), some (.int l5), u6, u7, u8, u9, u10], [])) (y := (52, [some (.ref 1), some (.int l1), (xoi none), some (.int l3), some (.int l4), some (.int l5), u6, u7, u8, u9, u10], [])) (b := l3 = 0) rfl (fun hb => ?_) (fun hb => ?_)
      · replace H := H.1 (hb)
        refine Ex.pure 2 (fr2 := (406, [some (.ref 1), some (.int l1), (xoi none), some (.int l3), some (.int l4), some (.int l5), u6, u7, u8, u9, u10], [.int l3])) rfl ?_
        exact Ex.iret rfl (Or.inr ⟨rfl, H.1⟩) H.2
      · replace H := H.2 (hb)
        refine Ex.pure 3 (fr2 := (56, [some (.ref 1), some (.int l1), (xoi none), some (.int l3), some (.int l4), some (.int l5), u6, u7, u8, u9, u10], [.int l5, .int l1, .ref 1])) rfl ?_
        refine Ex.cal (rest := []) (j := m_X6_times) (as := [.ref 1, .int l1, .int l5]) (vst (a := 83) (b := 3) (c := 5) (rest := []) (vs := [.int l1, .int l5]) rfl ⟨Nat.le_of_ble_eq_true rfl, Nat.le_of_ble_eq_true rfl⟩ rfl rfl (sg_1 hs)) (H.imp ?_)
        intro rv h1 H
        obtain ⟨x2, rfl, H⟩ := H
        obtain ⟨y3, hs, H⟩ := H
        show Ex d [] tb_L_isFine (59, [some (.ref 1), some (.int l1), (xoi none), some (.int l3), some (.int l4), some (.int l5), u6, u7, u8, u9, u10], [.long x2]) h1 _
        refine Ex.pure 2 (fr2 := (61, [some (.ref 1), some (.int l1), (xoi none), some (.int l3), some (.int l4), some (.int l5), u6, u7, u8, u9, u10], [.int (lg_cmp x2 1)])) rfl ?_
        refine Ex.br (x := (133, [some (.ref 1), some (.int l1), (xoi none), some (.int l3), some (.int l4), some (.int l5), u6, u7, u8, u9, u10], [])) (y := (64, [some (.ref 1), some (.int l1), (xoi none), some (.int l3), some (.int l4), some (.int l5), u6, u7, u8, u9, u10], [])) (b := (lg_cmp x2 1) < 0) rfl (fun hb => ?_) (fun hb => ?_)
        · replace H := H.1 ((lg_cmp_lt _ _).mp hb)
          exact H
        · replace H := H.2 (fun z => hb ((lg_cmp_lt _ _).mpr z))
          refine Ex.pure 3 (fr2 := (68, [some (.ref 1), some (.int l1), (xoi none), some (.int l3), some (.int l4), some (.int l5), u6, u7, u8, u9, u10], [.int l5, .int l1, .ref 1])) rfl ?_
          refine Ex.cal (rest := []) (j := m_X6_times) (as := [.ref 1, .int l1, .int l5]) (vst (a := 83) (b := 3) (c := 5) (rest := []) (vs := [.int l1, .int l5]) rfl ⟨Nat.le_of_ble_eq_true rfl, Nat.le_of_ble_eq_true rfl⟩ rfl rfl (sg_1 hs)) (H.imp ?_)
          intro rv h4 H
          obtain ⟨x5, rfl, H⟩ := H
          obtain ⟨y6, hs, H⟩ := H
          show Ex d [] tb_L_isFine (71, [some (.ref 1), some (.int l1), (xoi none), some (.int l3), some (.int l4), some (.int l5), u6, u7, u8, u9, u10], [.long x5]) h4 _
          refine Ex.pure 2 (fr2 := (75, [some (.ref 1), some (.int l1), (xoi none), some (.int l3), some (.int l4), some (.int l5), u6, u7, u8, u9, u10], [.int (lg_cmp x5 1000000)])) rfl ?_
          refine Ex.br (x := (133, [some (.ref 1), some (.int l1), (xoi none), some (.int l3), some (.int l4), some (.int l5), u6, u7, u8, u9, u10], [])) (y := (78, [some (.ref 1), some (.int l1), (xoi none), some (.int l3), some (.int l4), some (.int l5), u6, u7, u8, u9, u10], [])) (b := 0 < (lg_cmp x5 1000000)) rfl (fun hb => ?_) (fun hb => ?_)
          · replace H := H.1 ((lg_cmp_gt _ _).mp hb)
            exact H
          · replace H := H.2 (fun z => hb ((lg_cmp_gt _ _).mpr z))
            refine Ex.pure 5 (fr2 := (86, [some (.ref 1), some (.int l1), (xoi none), some (.int l3), some (.int l4), some (.int l5), u6, u7, u8, u9, u10], [.int 2, .int l5, .int 14, .int 8, .ref 1])) rfl ?_
            refine Ex.irem rfl (by decide) ?_
            refine Ex.pure 3 (fr2 := (91, [some (.ref 1), some (.int l1), (xoi none), some (.int l3), some (.int l4), some (.int l5), u6, u7, u8, u9, u10], [.int l5, .int l1, .int (14 + (l5 - l5 / 2 * 2)), .int 8, .ref 1])) rfl ?_
            refine Ex.cal (rest := []) (j := m_L_ask) (as := [.ref 1, .int 8, .int (14 + (l5 - l5 / 2 * 2)), .int l1, .int l5]) (fun c => rfl) (H.imp ?_)
            intro rv h7 H
            obtain ⟨x8, rfl, H⟩ := H
            obtain ⟨y9, hs, H⟩ := H
            show Ex d [] tb_L_isFine (94, [some (.ref 1), some (.int l1), (xoi none), some (.int l3), some (.int l4), some (.int l5), u6, u7, u8, u9, u10], [.int x8]) h7 _
            refine Ex.br (x := (133, [some (.ref 1), some (.int l1), (xoi none), some (.int l3), some (.int l4), some (.int l5), u6, u7, u8, u9, u10], [])) (y := (97, [some (.ref 1), some (.int l1), (xoi none), some (.int l3), some (.int l4), some (.int l5), u6, u7, u8, u9, u10], [])) (b := ¬ x8 = 0) rfl (fun hb => ?_) (fun hb => ?_)
            · replace H := H.1 (hb)
              exact H
            · replace H := H.2 (hb)
              refine Ex.pure 1 (fr2 := (99, [some (.ref 1), some (.int l1), (xoi none), some (.int l3), some (.int l4), some (.int l5), u6, u7, u8, u9, u10], [.int l5])) rfl ?_
              refine Ex.br (x := (129, [some (.ref 1), some (.int l1), (xoi none), some (.int l3), some (.int l4), some (.int l5), u6, u7, u8, u9, u10], [])) (y := (102, [some (.ref 1), some (.int l1), (xoi none), some (.int l3), some (.int l4), some (.int l5), u6, u7, u8, u9, u10], [])) (b := l5 = 0) rfl (fun hb => ?_) (fun hb => ?_)
              · replace H := H.1 (hb)
                exact H
              · replace H := H.2 (hb)
                refine Ex.pure 5 (fr2 := (110, [some (.ref 1), some (.int l1), (xoi none), some (.int l3), some (.int l4), some (.int l5), u6, u7, u8, u9, u10], [.int 0, .int 15, .int 14, .int 12, .ref 1])) rfl ?_
                refine Ex.cal (rest := []) (j := m_L_ask) (as := [.ref 1, .int 12, .int 14, .int 15, .int 0]) (fun c => rfl) (H.imp ?_)
                intro rv h10 H
                obtain ⟨x11, rfl, H⟩ := H
                obtain ⟨y12, hs, H⟩ := H
                show Ex d [] tb_L_isFine (113, [some (.ref 1), some (.int l1), (xoi none), some (.int l3), some (.int l4), some (.int l5), u6, u7, u8, u9, u10], [.int x11]) h10 _
                refine Ex.pure 2 (fr2 := (116, [some (.ref 1), some (.int l1), (xoi none), some (.int l3), some (.int l4), some (.int l5), u6, u7, u8, u9, u10], [.int 2, .int l5, .int x11])) rfl ?_
                refine Ex.irem rfl (by decide) ?_
                refine Ex.pure 1 (fr2 := (118, [some (.ref 1), some (.int l1), (xoi none), some (.int l3), some (.int l4), some (.int l5), u6, u7, u8, u9, u10], [.int 1, .int (l5 - l5 / 2 * 2), .int x11])) rfl ?_
                refine Ex.br (x := (125, [some (.ref 1), some (.int l1), (xoi none), some (.int l3), some (.int l4), some (.int l5), u6, u7, u8, u9, u10], [.int x11])) (y := (121, [some (.ref 1), some (.int l1), (xoi none), some (.int l3), some (.int l4), some (.int l5), u6, u7, u8, u9, u10], [.int x11])) (b := ¬ (l5 - l5 / 2 * 2) = 1) rfl (fun hb => ?_) (fun hb => ?_)
                · replace H := H.1 (hb)
                  refine Ex.pure 1 (fr2 := (126, [some (.ref 1), some (.int l1), (xoi none), some (.int l3), some (.int l4), some (.int l5), u6, u7, u8, u9, u10], [.int (-1), .int x11])) rfl ?_
                  exact H
                · replace H := H.2 (hb)
                  refine Ex.pure 2 (fr2 := (126, [some (.ref 1), some (.int l1), (xoi none), some (.int l3), some (.int l4), some (.int l5), u6, u7, u8, u9, u10], [.int 1, .int x11])) rfl ?_
                  exact H
  | some v2 =>
    show Ex d [] tb_L_isFine (41, [some (.ref 1), some (.int l1), (xoi (some v2)), some (.int l3), some (.int l4), some (.int l5), u6, u7, u8, u9, u10], []) h _
    refine Ex.pure 2 (fr2 := (45, [some (.ref 1), some (.int l1), (xoi (some v2)), some (.int l3), some (.int l4), some (.int l5), u6, u7, u8, u9, u10], [.int l4, .int l5])) rfl ?_
    refine Ex.br (x := (141, [some (.ref 1), some (.int l1), (xoi (some v2)), some (.int l3), some (.int l4), some (.int l5), u6, u7, u8, u9, u10], [])) (y := (48, [some (.ref 1), some (.int l1), (xoi (some v2)), some (.int l3), some (.int l4), some (.int l5), u6, u7, u8, u9, u10], [])) (b := l4 ≤ l5) rfl (fun hb => ?_) (fun hb => ?_)
    · replace H := H.1 (hb)
      refine Ex.pure 2 (fr2 := (406, [some (.ref 1), some (.int l1), (xoi (some v2)), some (.int l3), some (.int l4), some (.int l5), u6, u7, u8, u9, u10], [.int l3])) rfl ?_
      exact Ex.iret rfl (Or.inr ⟨rfl, H.1⟩) H.2
    · replace H := H.2 (hb)
      refine Ex.pure 1 (fr2 := (49, [some (.ref 1), some (.int l1), (xoi (some v2)), some (.int l3), some (.int l4), some (.int l5), u6, u7, u8, u9, u10], [.int l3])) rfl ?_
      refine Ex.br (x := (141, [some (.ref 1), some (.int l1), (xoi (some v2)), some (.int l3), some (.int l4), some (.int l5), u6, u7, u8, u9, u10], [])) (y := (52, [some (.ref 1), some (.int l1), (xoi (some v2)), some (.int l3), some (.int l4), some (.int l5), u6, u7, u8, u9, u10], [])) (b := l3 = 0) rfl (fun hb => ?_) (fun hb => ?_)
      · replace H := H.1 (hb)
        refine Ex.pure 2 (fr2 := (406, [some (.ref 1), some (.int l1), (xoi (some v2)), some (.int l3), some (.int l4), some (.int l5), u6, u7, u8, u9, u10], [.int l3])) rfl ?_
        exact Ex.iret rfl (Or.inr ⟨rfl, H.1⟩) H.2
      · replace H := H.2 (hb)
        refine Ex.pure 3 (fr2 := (56, [some (.ref 1), some (.int l1), (xoi (some v2)), some (.int l3), some (.int l4), some (.int l5), u6, u7, u8, u9, u10], [.int l5, .int l1, .ref 1])) rfl ?_
        refine Ex.cal (rest := []) (j := m_X6_times) (as := [.ref 1, .int l1, .int l5]) (vst (a := 83) (b := 3) (c := 5) (rest := []) (vs := [.int l1, .int l5]) rfl ⟨Nat.le_of_ble_eq_true rfl, Nat.le_of_ble_eq_true rfl⟩ rfl rfl (sg_1 hs)) (H.imp ?_)
        intro rv h1 H
        obtain ⟨x2, rfl, H⟩ := H
        obtain ⟨y3, hs, H⟩ := H
        show Ex d [] tb_L_isFine (59, [some (.ref 1), some (.int l1), (xoi (some v2)), some (.int l3), some (.int l4), some (.int l5), u6, u7, u8, u9, u10], [.long x2]) h1 _
        refine Ex.pure 2 (fr2 := (61, [some (.ref 1), some (.int l1), (xoi (some v2)), some (.int l3), some (.int l4), some (.int l5), u6, u7, u8, u9, u10], [.int (lg_cmp x2 1)])) rfl ?_
        refine Ex.br (x := (133, [some (.ref 1), some (.int l1), (xoi (some v2)), some (.int l3), some (.int l4), some (.int l5), u6, u7, u8, u9, u10], [])) (y := (64, [some (.ref 1), some (.int l1), (xoi (some v2)), some (.int l3), some (.int l4), some (.int l5), u6, u7, u8, u9, u10], [])) (b := (lg_cmp x2 1) < 0) rfl (fun hb => ?_) (fun hb => ?_)
        · replace H := H.1 ((lg_cmp_lt _ _).mp hb)
          exact H
        · replace H := H.2 (fun z => hb ((lg_cmp_lt _ _).mpr z))
          refine Ex.pure 3 (fr2 := (68, [some (.ref 1), some (.int l1), (xoi (some v2)), some (.int l3), some (.int l4), some (.int l5), u6, u7, u8, u9, u10], [.int l5, .int l1, .ref 1])) rfl ?_
          refine Ex.cal (rest := []) (j := m_X6_times) (as := [.ref 1, .int l1, .int l5]) (vst (a := 83) (b := 3) (c := 5) (rest := []) (vs := [.int l1, .int l5]) rfl ⟨Nat.le_of_ble_eq_true rfl, Nat.le_of_ble_eq_true rfl⟩ rfl rfl (sg_1 hs)) (H.imp ?_)
          intro rv h4 H
          obtain ⟨x5, rfl, H⟩ := H
          obtain ⟨y6, hs, H⟩ := H
          show Ex d [] tb_L_isFine (71, [some (.ref 1), some (.int l1), (xoi (some v2)), some (.int l3), some (.int l4), some (.int l5), u6, u7, u8, u9, u10], [.long x5]) h4 _
          refine Ex.pure 2 (fr2 := (75, [some (.ref 1), some (.int l1), (xoi (some v2)), some (.int l3), some (.int l4), some (.int l5), u6, u7, u8, u9, u10], [.int (lg_cmp x5 1000000)])) rfl ?_
          refine Ex.br (x := (133, [some (.ref 1), some (.int l1), (xoi (some v2)), some (.int l3), some (.int l4), some (.int l5), u6, u7, u8, u9, u10], [])) (y := (78, [some (.ref 1), some (.int l1), (xoi (some v2)), some (.int l3), some (.int l4), some (.int l5), u6, u7, u8, u9, u10], [])) (b := 0 < (lg_cmp x5 1000000)) rfl (fun hb => ?_) (fun hb => ?_)
          · replace H := H.1 ((lg_cmp_gt _ _).mp hb)
            exact H
          · replace H := H.2 (fun z => hb ((lg_cmp_gt _ _).mpr z))
            refine Ex.pure 5 (fr2 := (86, [some (.ref 1), some (.int l1), (xoi (some v2)), some (.int l3), some (.int l4), some (.int l5), u6, u7, u8, u9, u10], [.int 2, .int l5, .int 14, .int 8, .ref 1])) rfl ?_
            refine Ex.irem rfl (by decide) ?_
            refine Ex.pure 3 (fr2 := (91, [some (.ref 1), some (.int l1), (xoi (some v2)), some (.int l3), some (.int l4), some (.int l5), u6, u7, u8, u9, u10], [.int l5, .int l1, .int (14 + (l5 - l5 / 2 * 2)), .int 8, .ref 1])) rfl ?_
            refine Ex.cal (rest := []) (j := m_L_ask) (as := [.ref 1, .int 8, .int (14 + (l5 - l5 / 2 * 2)), .int l1, .int l5]) (fun c => rfl) (H.imp ?_)
            intro rv h7 H
            obtain ⟨x8, rfl, H⟩ := H
            obtain ⟨y9, hs, H⟩ := H
            show Ex d [] tb_L_isFine (94, [some (.ref 1), some (.int l1), (xoi (some v2)), some (.int l3), some (.int l4), some (.int l5), u6, u7, u8, u9, u10], [.int x8]) h7 _
            refine Ex.br (x := (133, [some (.ref 1), some (.int l1), (xoi (some v2)), some (.int l3), some (.int l4), some (.int l5), u6, u7, u8, u9, u10], [])) (y := (97, [some (.ref 1), some (.int l1), (xoi (some v2)), some (.int l3), some (.int l4), some (.int l5), u6, u7, u8, u9, u10], [])) (b := ¬ x8 = 0) rfl (fun hb => ?_) (fun hb => ?_)
            · replace H := H.1 (hb)
              exact H
            · replace H := H.2 (hb)
              refine Ex.pure 1 (fr2 := (99, [some (.ref 1), some (.int l1), (xoi (some v2)), some (.int l3), some (.int l4), some (.int l5), u6, u7, u8, u9, u10], [.int l5])) rfl ?_
              refine Ex.br (x := (129, [some (.ref 1), some (.int l1), (xoi (some v2)), some (.int l3), some (.int l4), some (.int l5), u6, u7, u8, u9, u10], [])) (y := (102, [some (.ref 1), some (.int l1), (xoi (some v2)), some (.int l3), some (.int l4), some (.int l5), u6, u7, u8, u9, u10], [])) (b := l5 = 0) rfl (fun hb => ?_) (fun hb => ?_)
              · replace H := H.1 (hb)
                exact H
              · replace H := H.2 (hb)
                refine Ex.pure 5 (fr2 := (110, [some (.ref 1), some (.int l1), (xoi (some v2)), some (.int l3), some (.int l4), some (.int l5), u6, u7, u8, u9, u10], [.int 0, .int 15, .int 14, .int 12, .ref 1])) rfl ?_
                refine Ex.cal (rest := []) (j := m_L_ask) (as := [.ref 1, .int 12, .int 14, .int 15, .int 0]) (fun c => rfl) (H.imp ?_)
                intro rv h10 H
                obtain ⟨x11, rfl, H⟩ := H
                obtain ⟨y12, hs, H⟩ := H
                show Ex d [] tb_L_isFine (113, [some (.ref 1), some (.int l1), (xoi (some v2)), some (.int l3), some (.int l4), some (.int l5), u6, u7, u8, u9, u10], [.int x11]) h10 _
                refine Ex.pure 2 (fr2 := (116, [some (.ref 1), some (.int l1), (xoi (some v2)), some (.int l3), some (.int l4), some (.int l5), u6, u7, u8, u9, u10], [.int 2, .int l5, .int x11])) rfl ?_
                refine Ex.irem rfl (by decide) ?_
                refine Ex.pure 1 (fr2 := (118, [some (.ref 1), some (.int l1), (xoi (some v2)), some (.int l3), some (.int l4), some (.int l5), u6, u7, u8, u9, u10], [.int 1, .int (l5 - l5 / 2 * 2), .int x11])) rfl ?_
                refine Ex.br (x := (125, [some (.ref 1), some (.int l1), (xoi (some v2)), some (.int l3), some (.int l4), some (.int l5), u6, u7, u8, u9, u10], [.int x11])) (y := (121, [some (.ref 1), some (.int l1), (xoi (some v2)), some (.int l3), some (.int l4), some (.int l5), u6, u7, u8, u9, u10], [.int x11])) (b := ¬ (l5 - l5 / 2 * 2) = 1) rfl (fun hb => ?_) (fun hb => ?_)
                · replace H := H.1 (hb)
                  refine Ex.pure 1 (fr2 := (126, [some (.ref 1), some (.int l1), (xoi (some v2)), some (.int l3), some (.int l4), some (.int l5), u6, u7, u8, u9, u10], [.int (-1), .int x11])) rfl ?_
                  exact H
                · replace H := H.2 (hb)
                  refine Ex.pure 2 (fr2 := (126, [some (.ref 1), some (.int l1), (xoi (some v2)), some (.int l3), some (.int l4), some (.int l5), u6, u7, u8, u9, u10], [.int 1, .int x11])) rfl ?_
                  exact H
theorem w_L_isFine_126 {d : Nat} {h : XH} {y : Nat → Nat} {K : XK} {E : XE} {l1 : Int32} {u2 : Option Int32} {u3 : Option Value} {l4 : Int32} {l5 : Int32} {u6 : Option Value} {u7 : Option Value} {u8 : Option Value} {u9 : Option Value} {u10 : Option Value} {s0 : Int32} {s1 : Int32} (hd : 70 ≤ d) (hs : Sg h.1 y) (H : (¬ s1 = s0 → b_L_isFine_133 d 1 l1 u2 (u3) l4 l5 (u6) (u7) (u8) (u9) (u10) h K E) ∧ (¬ (¬ s1 = s0) → b_L_isFine_129 d 1 l1 u2 (u3) l4 l5 (u6) (u7) (u8) (u9) (u10) h K E)) : b_L_isFine_126 d 1 l1 u2 u3 l4 l5 u6 u7 u8 u9 u10 s0 s1 h K E := by
  cases u2 with
  | none =>
    show Ex d [] tb_L_isFine (126, [some (.ref 1), some (.int l1), (xoi none), u3, some (.int l4), some (.int l5), u6, u7, u8, u9, u10], [.int s0, .int s1]) h _
    refine Ex.br (x := (133, [some (.ref 1), some (.int l1), (xoi none), u3, some (.int l4), some (.int l5), u6, u7, u8, u9, u10], [])) (y := (129, [some (.ref 1), some (.int l1), (xoi none), u3, some (.int l4), some (.int l5), u6, u7, u8, u9, u10], [])) (b := ¬ s1 = s0) rfl (fun hb => ?_) (fun hb => ?_)
    · replace H := H.1 (hb)
      exact H
    · replace H := H.2 (hb)
      exact H
  | some v2 =>
    show Ex d [] tb_L_isFine (126, [some (.ref 1), some (.int l1), (xoi (some v2)), u3, some (.int l4), some (.int l5), u6, u7, u8, u9, u10], [.int s0, .int s1]) h _
    refine Ex.br (x := (133, [some (.ref 1), some (.int l1), (xoi (some v2)), u3, some (.int l4), some (.int l5), u6, u7, u8, u9, u10], [])) (y := (129, [some (.ref 1), some (.int l1), (xoi (some v2)), u3, some (.int l4), some (.int l5), u6, u7, u8, u9, u10], [])) (b := ¬ s1 = s0) rfl (fun hb => ?_) (fun hb => ?_)
    · replace H := H.1 (hb)
      exact H
    · replace H := H.2 (hb)
      exact H
theorem w_L_isFine_129 {d : Nat} {h : XH} {y : Nat → Nat} {K : XK} {E : XE} {l1 : Int32} {u2 : Option Int32} {u3 : Option Value} {l4 : Int32} {l5 : Int32} {u6 : Option Value} {u7 : Option Value} {u8 : Option Value} {u9 : Option Value} {u10 : Option Value} (hd : 70 ≤ d) (hs : Sg h.1 y) (H : b_L_isFine_134 d 1 l1 u2 (u3) l4 l5 (u6) (u7) (u8) (u9) (u10) 1 h K E) : b_L_isFine_129 d 1 l1 u2 u3 l4 l5 u6 u7 u8 u9 u10 h K E := by
  cases u2 with
  | none =>
    show Ex d [] tb_L_isFine (129, [some (.ref 1), some (.int l1), (xoi none), u3, some (.int l4), some (.int l5), u6, u7, u8, u9, u10], []) h _
    refine Ex.pure 2 (fr2 := (134, [some (.ref 1), some (.int l1), (xoi none), u3, some (.int l4), some (.int l5), u6, u7, u8, u9, u10], [.int 1])) rfl ?_
    exact H
  | some v2 =>
    show Ex d [] tb_L_isFine (129, [some (.ref 1), some (.int l1), (xoi (some v2)), u3, some (.int l4), some (.int l5), u6, u7, u8, u9, u10], []) h _
    refine Ex.pure 2 (fr2 := (134, [some (.ref 1), some (.int l1), (xoi (some v2)), u3, some (.int l4), some (.int l5), u6, u7, u8, u9, u10], [.int 1])) rfl ?_
    exact H
theorem w_L_isFine_133 {d : Nat} {h : XH} {y : Nat → Nat} {K : XK} {E : XE} {l1 : Int32} {u2 : Option Int32} {u3 : Option Value} {l4 : Int32} {l5 : Int32} {u6 : Option Value} {u7 : Option Value} {u8 : Option Value} {u9 : Option Value} {u10 : Option Value} (hd : 70 ≤ d) (hs : Sg h.1 y) (H : b_L_isFine_134 d 1 l1 u2 (u3) l4 l5 (u6) (u7) (u8) (u9) (u10) 0 h K E) : b_L_isFine_133 d 1 l1 u2 u3 l4 l5 u6 u7 u8 u9 u10 h K E := by
  cases u2 with
  | none =>
    show Ex d [] tb_L_isFine (133, [some (.ref 1), some (.int l1), (xoi none), u3, some (.int l4), some (.int l5), u6, u7, u8, u9, u10], []) h _
    refine Ex.pure 1 (fr2 := (134, [some (.ref 1), some (.int l1), (xoi none), u3, some (.int l4), some (.int l5), u6, u7, u8, u9, u10], [.int 0])) rfl ?_
    exact H
  | some v2 =>
    show Ex d [] tb_L_isFine (133, [some (.ref 1), some (.int l1), (xoi (some v2)), u3, some (.int l4), some (.int l5), u6, u7, u8, u9, u10], []) h _
    refine Ex.pure 1 (fr2 := (134, [some (.ref 1), some (.int l1), (xoi (some v2)), u3, some (.int l4), some (.int l5), u6, u7, u8, u9, u10], [.int 0])) rfl ?_
    exact H
theorem w_L_isFine_134 {d : Nat} {h : XH} {y : Nat → Nat} {K : XK} {E : XE} {l1 : Int32} {u2 : Option Int32} {u3 : Option Value} {l4 : Int32} {l5 : Int32} {u6 : Option Value} {u7 : Option Value} {u8 : Option Value} {u9 : Option Value} {u10 : Option Value} {s0 : Int32} (hd : 70 ≤ d) (hs : Sg h.1 y) (H : b_L_isFine_41 d 1 l1 u2 s0 l4 (l5 + 1) (u6) (u7) (u8) (u9) (u10) h K E) : b_L_isFine_134 d 1 l1 u2 u3 l4 l5 u6 u7 u8 u9 u10 s0 h K E := by
  cases u2 with
  | none =>
    show Ex d [] tb_L_isFine (134, [some (.ref 1), some (.int l1), (xoi none), u3, some (.int l4), some (.int l5), u6, u7, u8, u9, u10], [.int s0]) h _
    refine Ex.pure 3 (fr2 := (41, [some (.ref 1), some (.int l1), (xoi none), some (.int s0), some (.int l4), some (.int (l5 + 1)), u6, u7, u8, u9, u10], [])) rfl ?_
    exact H
  | some v2 =>
    show Ex d [] tb_L_isFine (134, [some (.ref 1), some (.int l1), (xoi (some v2)), u3, some (.int l4), some (.int l5), u6, u7, u8, u9, u10], [.int s0]) h _
    refine Ex.pure 3 (fr2 := (41, [some (.ref 1), some (.int l1), (xoi (some v2)), some (.int s0), some (.int l4), some (.int (l5 + 1)), u6, u7, u8, u9, u10], [])) rfl ?_
    exact H
theorem w_L_isFine_229 {d : Nat} {h : XH} {y : Nat → Nat} {K : XK} {E : XE} {l1 : Int32} {u2 : Option Int32} {u3 : Option Value} {u4 : Option Value} {u5 : Option Value} {l6 : Int32} {u7 : Option Value} {u8 : Option Value} {u9 : Option Value} {u10 : Option Value} {s0 : Int32} {s1 : Int32} (hd : 70 ≤ d) (hs : Sg h.1 y) (H : (¬ s1 = s0 → b_L_isFine_248 d (some (.ref 1)) (some (.int l1)) u2 (u3) (u4) (u5) (some (.int l6)) (u7) (u8) (u9) (u10) h K E) ∧ (¬ (¬ s1 = s0) → (Ca d m_X6_signOf [.ref 1, .int l1, .int (l6 - 1)] h (fun rv h1 => ∃ x2, rv = some (.int x2) ∧ ∃ y3 : Nat → Nat, Sg h1.1 y3 ∧ (x2 = 0 → b_L_isFine_248 d (some (.ref 1)) (some (.int l1)) u2 (u3) (u4) (u5) (some (.int l6)) (u7) (u8) (u9) (u10) h1 K E) ∧ (¬ (x2 = 0) → b_L_isFine_244 d (some (.ref 1)) (some (.int l1)) u2 (u3) (u4) (u5) (some (.int l6)) (u7) (u8) (u9) (u10) h1 K E)) E))) : b_L_isFine_229 d 1 l1 u2 u3 u4 u5 l6 u7 u8 u9 u10 s0 s1 h K E := by
  cases u2 with
  | none =>
    show Ex d [] tb_L_isFine (229, [some (.ref 1), some (.int l1), (xoi none), u3, u4, u5, some (.int l6), u7, u8, u9, u10], [.int s0, .int s1]) h _
    refine Ex.br (x := (248, [some (.ref 1), some (.int l1), (xoi none), u3, u4, u5, some (.int l6), u7, u8, u9, u10], [])) (y := (232, [some (.ref 1), some (.int l1), (xoi none), u3, u4, u5, some (.int l6), u7, u8, u9, u10], [])) (b := ¬ s1 = s0) rfl (fun hb => ?_) (fun hb => ?_)
    · replace H := H.1 (hb)
      exact H
    · replace H := H.2 (hb)
      refine Ex.pure 5 (fr2 := (238, [some (.ref 1), some (.int l1), (xoi none), u3, u4, u5, some (.int l6), u7, u8, u9, u10], [.int (l6 - 1), .int l1, .ref 1])) rfl ?_
      refine Ex.cal (rest := []) (j := m_X6_signOf) (as := [.ref 1, .int l1, .int (l6 - 1)]) (vst (a := 87) (b := 3) (c := 5) (rest := []) (vs := [.int l1, .int (l6 - 1)]) rfl ⟨Nat.le_of_ble_eq_true rfl, Nat.le_of_ble_eq_true rfl⟩ rfl rfl (sg_1 hs)) (H.imp ?_)
      intro rv h1 H
      obtain ⟨x2, rfl, H⟩ := H
      obtain ⟨y3, hs, H⟩ := H
      show Ex d [] tb_L_isFine (241, [some (.ref 1), some (.int l1), (xoi none), u3, u4, u5, some (.int l6), u7, u8, u9, u10], [.int x2]) h1 _
      refine Ex.br (x := (248, [some (.ref 1), some (.int l1), (xoi none), u3, u4, u5, some (.int l6), u7, u8, u9, u10], [])) (y := (244, [some (.ref 1), some (.int l1), (xoi none), u3, u4, u5, some (.int l6), u7, u8, u9, u10], [])) (b := x2 = 0) rfl (fun hb => ?_) (fun hb => ?_)
      · replace H := H.1 (hb)
        exact H
      · replace H := H.2 (hb)
        exact H
  | some v2 =>
    show Ex d [] tb_L_isFine (229, [some (.ref 1), some (.int l1), (xoi (some v2)), u3, u4, u5, some (.int l6), u7, u8, u9, u10], [.int s0, .int s1]) h _
    refine Ex.br (x := (248, [some (.ref 1), some (.int l1), (xoi (some v2)), u3, u4, u5, some (.int l6), u7, u8, u9, u10], [])) (y := (232, [some (.ref 1), some (.int l1), (xoi (some v2)), u3, u4, u5, some (.int l6), u7, u8, u9, u10], [])) (b := ¬ s1 = s0) rfl (fun hb => ?_) (fun hb => ?_)
    · replace H := H.1 (hb)
      exact H
    · replace H := H.2 (hb)
      refine Ex.pure 5 (fr2 := (238, [some (.ref 1), some (.int l1), (xoi (some v2)), u3, u4, u5, some (.int l6), u7, u8, u9, u10], [.int (l6 - 1), .int l1, .ref 1])) rfl ?_
      refine Ex.cal (rest := []) (j := m_X6_signOf) (as := [.ref 1, .int l1, .int (l6 - 1)]) (vst (a := 87) (b := 3) (c := 5) (rest := []) (vs := [.int l1, .int (l6 - 1)]) rfl ⟨Nat.le_of_ble_eq_true rfl, Nat.le_of_ble_eq_true rfl⟩ rfl rfl (sg_1 hs)) (H.imp ?_)
      intro rv h1 H
      obtain ⟨x2, rfl, H⟩ := H
      obtain ⟨y3, hs, H⟩ := H
      show Ex d [] tb_L_isFine (241, [some (.ref 1), some (.int l1), (xoi (some v2)), u3, u4, u5, some (.int l6), u7, u8, u9, u10], [.int x2]) h1 _
      refine Ex.br (x := (248, [some (.ref 1), some (.int l1), (xoi (some v2)), u3, u4, u5, some (.int l6), u7, u8, u9, u10], [])) (y := (244, [some (.ref 1), some (.int l1), (xoi (some v2)), u3, u4, u5, some (.int l6), u7, u8, u9, u10], [])) (b := x2 = 0) rfl (fun hb => ?_) (fun hb => ?_)
      · replace H := H.1 (hb)
        exact H
      · replace H := H.2 (hb)
        exact H
theorem w_L_isFine_244 {d : Nat} {h : XH} {y : Nat → Nat} {K : XK} {E : XE} {u0 : Option Value} {u1 : Option Value} {u2 : Option Int32} {u3 : Option Value} {u4 : Option Value} {u5 : Option Value} {u6 : Option Value} {u7 : Option Value} {u8 : Option Value} {u9 : Option Value} {u10 : Option Value} (hd : 70 ≤ d) (hs : Sg h.1 y) (H : K (some (.int 1)) h) : b_L_isFine_244 d u0 u1 u2 u3 u4 u5 u6 u7 u8 u9 u10 h K E := by
  cases u2 with
  | none =>
    show Ex d [] tb_L_isFine (244, [u0, u1, (xoi none), u3, u4, u5, u6, u7, u8, u9, u10], []) h _
    refine Ex.pure 5 (fr2 := (406, [u0, u1, (xoi none), some (.int 1), u4, u5, u6, u7, u8, u9, u10], [.int 1])) rfl ?_
    exact Ex.iret rfl (Or.inr ⟨rfl, by decide⟩) H
  | some v2 =>
    show Ex d [] tb_L_isFine (244, [u0, u1, (xoi (some v2)), u3, u4, u5, u6, u7, u8, u9, u10], []) h _
    refine Ex.pure 5 (fr2 := (406, [u0, u1, (xoi (some v2)), some (.int 1), u4, u5, u6, u7, u8, u9, u10], [.int 1])) rfl ?_
    exact Ex.iret rfl (Or.inr ⟨rfl, by decide⟩) H
theorem w_L_isFine_248 {d : Nat} {h : XH} {y : Nat → Nat} {K : XK} {E : XE} {u0 : Option Value} {u1 : Option Value} {u2 : Option Int32} {u3 : Option Value} {u4 : Option Value} {u5 : Option Value} {u6 : Option Value} {u7 : Option Value} {u8 : Option Value} {u9 : Option Value} {u10 : Option Value} (hd : 70 ≤ d) (hs : Sg h.1 y) (H : K (some (.int 0)) h) : b_L_isFine_248 d u0 u1 u2 u3 u4 u5 u6 u7 u8 u9 u10 h K E := by
  cases u2 with
  | none =>
    show Ex d [] tb_L_isFine (248, [u0, u1, (xoi none), u3, u4, u5, u6, u7, u8, u9, u10], []) h _
    refine Ex.pure 4 (fr2 := (406, [u0, u1, (xoi none), some (.int 0), u4, u5, u6, u7, u8, u9, u10], [.int 0])) rfl ?_
    exact Ex.iret rfl (Or.inr ⟨rfl, by decide⟩) H
  | some v2 =>
    show Ex d [] tb_L_isFine (248, [u0, u1, (xoi (some v2)), u3, u4, u5, u6, u7, u8, u9, u10], []) h _
    refine Ex.pure 4 (fr2 := (406, [u0, u1, (xoi (some v2)), some (.int 0), u4, u5, u6, u7, u8, u9, u10], [.int 0])) rfl ?_
    exact Ex.iret rfl (Or.inr ⟨rfl, by decide⟩) H
theorem w_L_isFine_284 {d : Nat} {h : XH} {y : Nat → Nat} {K : XK} {E : XE} {l1 : Int32} {u2 : Option Int32} {u3 : Option Value} {l4 : Int32} {l5 : Int64} {u7 : Option Value} {u8 : Option Value} {u9 : Option Value} {u10 : Option Value} (hd : 70 ≤ d) (hs : Sg h.1 y) (H : b_L_isFine_285 d 1 l1 u2 (u3) l4 l5 (u7) (u8) (u9) (u10) 0 h K E) : b_L_isFine_284 d 1 l1 u2 u3 l4 l5 u7 u8 u9 u10 h K E := by
  cases u2 with
  | none =>
    show Ex d [] tb_L_isFine (284, [some (.ref 1), some (.int l1), (xoi none), u3, some (.int l4), some (.long l5), none, u7, u8, u9, u10], []) h _
    refine Ex.pure 1 (fr2 := (285, [some (.ref 1), some (.int l1), (xoi none), u3, some (.int l4), some (.long l5), none, u7, u8, u9, u10], [.int 0])) rfl ?_
    exact H
  | some v2 =>
    show Ex d [] tb_L_isFine (284, [some (.ref 1), some (.int l1), (xoi (some v2)), u3, some (.int l4), some (.long l5), none, u7, u8, u9, u10], []) h _
    refine Ex.pure 1 (fr2 := (285, [some (.ref 1), some (.int l1), (xoi (some v2)), u3, some (.int l4), some (.long l5), none, u7, u8, u9, u10], [.int 0])) rfl ?_
    exact H
theorem w_L_isFine_285 {d : Nat} {h : XH} {y : Nat → Nat} {K : XK} {E : XE} {l1 : Int32} {u2 : Option Int32} {u3 : Option Value} {l4 : Int32} {l5 : Int64} {u7 : Option Value} {u8 : Option Value} {u9 : Option Value} {u10 : Option Value} {s0 : Int32} (hd : 70 ≤ d) (hs : Sg h.1 y) (H : b_L_isFine_289 d 1 l1 u2 s0 l4 l5 0 (u8) (u9) (u10) h K E) : b_L_isFine_285 d 1 l1 u2 u3 l4 l5 u7 u8 u9 u10 s0 h K E := by
  cases u2 with
  | none =>
    show Ex d [] tb_L_isFine (285, [some (.ref 1), some (.int l1), (xoi none), u3, some (.int l4), some (.long l5), none, u7, u8, u9, u10], [.int s0]) h _
    refine Ex.pure 3 (fr2 := (289, [some (.ref 1), some (.int l1), (xoi none), some (.int s0), some (.int l4), some (.long l5), none, some (.int 0), u8, u9, u10], [])) rfl ?_
    exact H
  | some v2 =>
    show Ex d [] tb_L_isFine (285, [some (.ref 1), some (.int l1), (xoi (some v2)), u3, some (.int l4), some (.long l5), none, u7, u8, u9, u10], [.int s0]) h _
    refine Ex.pure 3 (fr2 := (289, [some (.ref 1), some (.int l1), (xoi (some v2)), some (.int s0), some (.int l4), some (.long l5), none, some (.int 0), u8, u9, u10], [])) rfl ?_
    exact H
theorem w_L_isFine_289 {d : Nat} {h : XH} {y : Nat → Nat} {K : XK} {E : XE} {l1 : Int32} {u2 : Option Int32} {l3 : Int32} {l4 : Int32} {l5 : Int64} {l7 : Int32} {u8 : Option Value} {u9 : Option Value} {u10 : Option Value} (hd : 70 ≤ d) (hs : Sg h.1 y) (H : (l4 ≤ l7 → b_L_isFine_382 d 1 l1 u2 l3 l4 (some (.long l5)) none (some (.int l7)) (u8) (u9) (u10) h K E) ∧ (¬ (l4 ≤ l7) → (l3 = 0 → b_L_isFine_382 d 1 l1 u2 l3 l4 (some (.long l5)) none (some (.int l7)) (u8) (u9) (u10) h K E) ∧ (¬ (l3 = 0) → b_L_isFine_306 d 1 l1 u2 (some (.int l3)) l4 l5 l7 0 1 h K E))) : b_L_isFine_289 d 1 l1 u2 l3 l4 l5 l7 u8 u9 u10 h K E := by
  cases u2 with
  | none =>
    show Ex d [] tb_L_isFine (289, [some (.ref 1), some (.int l1), (xoi none), some (.int l3), some (.int l4), some (.long l5), none, some (.int l7), u8, u9, u10], []) h _
    refine Ex.pure 2 (fr2 := (293, [some (.ref 1), some (.int l1), (xoi none), some (.int l3), some (.int l4), some (.long l5), none, some (.int l7), u8, u9, u10], [.int l4, .int l7])) rfl ?_
    refine Ex.br (x := (382, [some (.ref 1), some (.int l1), (xoi none), some (.int l3), some (.int l4), some (.long l5), none, some (.int l7), u8, u9, u10], [])) (y := (296, [some (.ref 1), some (.int l1), (xoi none), some (.int l3), some (.int l4), some (.long l5), none, some (.int l7), u8, u9, u10], [])) (b := l4 ≤ l7) rfl (fun hb => ?_) (fun hb => ?_)
    · replace H := H.1 (hb)
      exact H
    · replace H := H.2 (hb)
      refine Ex.pure 1 (fr2 := (297, [some (.ref 1), some (.int l1), (xoi none), some (.int l3), some (.int l4), some (.long l5), none, some (.int l7), u8, u9, u10], [.int l3])) rfl ?_
      refine Ex.br (x := (382, [some (.ref 1), some (.int l1), (xoi none), some (.int l3), some (.int l4), some (.long l5), none, some (.int l7), u8, u9, u10], [])) (y := (300, [some (.ref 1), some (.int l1), (xoi none), some (.int l3), some (.int l4), some (.long l5), none, some (.int l7), u8, u9, u10], [])) (b := l3 = 0) rfl (fun hb => ?_) (fun hb => ?_)
      · replace H := H.1 (hb)
        exact H
      · replace H := H.2 (hb)
        refine Ex.pure 4 (fr2 := (306, [some (.ref 1), some (.int l1), (xoi none), some (.int l3), some (.int l4), some (.long l5), none, some (.int l7), some (.long 0), none, some (.int 1)], [])) rfl ?_
        exact H
  | some v2 =>
    show Ex d [] tb_L_isFine (289, [some (.ref 1), some (.int l1), (xoi (some v2)), some (.int l3), some (.int l4), some (.long l5), none, some (.int l7), u8, u9, u10], []) h _
    refine Ex.pure 2 (fr2 := (293, [some (.ref 1), some (.int l1), (xoi (some v2)), some (.int l3), some (.int l4), some (.long l5), none, some (.int l7), u8, u9, u10], [.int l4, .int l7])) rfl ?_
    refine Ex.br (x := (382, [some (.ref 1), some (.int l1), (xoi (some v2)), some (.int l3), some (.int l4), some (.long l5), none, some (.int l7), u8, u9, u10], [])) (y := (296, [some (.ref 1), some (.int l1), (xoi (some v2)), some (.int l3), some (.int l4), some (.long l5), none, some (.int l7), u8, u9, u10], [])) (b := l4 ≤ l7) rfl (fun hb => ?_) (fun hb => ?_)
    · replace H := H.1 (hb)
      exact H
    · replace H := H.2 (hb)
      refine Ex.pure 1 (fr2 := (297, [some (.ref 1), some (.int l1), (xoi (some v2)), some (.int l3), some (.int l4), some (.long l5), none, some (.int l7), u8, u9, u10], [.int l3])) rfl ?_
      refine Ex.br (x := (382, [some (.ref 1), some (.int l1), (xoi (some v2)), some (.int l3), some (.int l4), some (.long l5), none, some (.int l7), u8, u9, u10], [])) (y := (300, [some (.ref 1), some (.int l1), (xoi (some v2)), some (.int l3), some (.int l4), some (.long l5), none, some (.int l7), u8, u9, u10], [])) (b := l3 = 0) rfl (fun hb => ?_) (fun hb => ?_)
      · replace H := H.1 (hb)
        exact H
      · replace H := H.2 (hb)
        refine Ex.pure 4 (fr2 := (306, [some (.ref 1), some (.int l1), (xoi (some v2)), some (.int l3), some (.int l4), some (.long l5), none, some (.int l7), some (.long 0), none, some (.int 1)], [])) rfl ?_
        exact H
theorem w_L_isFine_306 {d : Nat} {h : XH} {y : Nat → Nat} {K : XK} {E : XE} {l1 : Int32} {u2 : Option Int32} {u3 : Option Value} {l4 : Int32} {l5 : Int64} {l7 : Int32} {l8 : Int64} {l10 : Int32} (hd : 70 ≤ d) (hs : Sg h.1 y) (H : (5 ≤ l10 → (Ca d m_X6_part [.ref 1, .int l1, .int l7, .int 0] h (fun rv h1 => ∃ x2, rv = some (.long x2) ∧ ∃ y3 : Nat → Nat, Sg h1.1 y3 ∧ (x2 = 0 → b_L_isFine_370 d 1 l1 u2 (u3) l4 (some (.long l5)) none l7 l8 (some (.int l10)) h1 K E) ∧ (¬ (x2 = 0) → (l7 = 0 → b_L_isFine_366 d 1 l1 u2 (u3) l4 (some (.long l5)) none l7 l8 (some (.int l10)) h1 K E) ∧ (¬ (l7 = 0) → (l5 ≤ l8 → b_L_isFine_370 d 1 l1 u2 (u3) l4 (some (.long l5)) none l7 l8 (some (.int l10)) h1 K E) ∧ (¬ (l5 ≤ l8) → b_L_isFine_366 d 1 l1 u2 (u3) l4 (some (.long l5)) none l7 l8 (some (.int l10)) h1 K E)))) E)) ∧ (¬ (5 ≤ l10) → (Ca d m_X6_part [.ref 1, .int l1, .int l7, .int l10] h (fun rv h4 => ∃ x5, rv = some (.long x5) ∧ ∃ y6 : Nat → Nat, Sg h4.1 y6 ∧ b_L_isFine_306 d 1 l1 u2 (u3) l4 l5 l7 (((1000 * l8) + x5) + 500) (l10 + 1) h4 K E) E))) : b_L_isFine_306 d 1 l1 u2 u3 l4 l5 l7 l8 l10 h K E := by
  cases u2 with
  | none =>
    show Ex d [] tb_L_isFine (306, [some (.ref 1), some (.int l1), (xoi none), u3, some (.int l4), some (.long l5), none, some (.int l7), some (.long l8), none, some (.int l10)], []) h _
    refine Ex.pure 2 (fr2 := (309, [some (.ref 1), some (.int l1), (xoi none), u3, some (.int l4), some (.long l5), none, some (.int l7), some (.long l8), none, some (.int l10)], [.int 5, .int l10])) rfl ?_
    refine Ex.br (x := (340, [some (.ref 1), some (.int l1), (xoi none), u3, some (.int l4), some (.long l5), none, some (.int l7), some (.long l8), none, some (.int l10)], [])) (y := (312, [some (.ref 1), some (.int l1), (xoi none), u3, some (.int l4), some (.long l5), none, some (.int l7), some (.long l8), none, some (.int l10)], [])) (b := 5 ≤ l10) rfl (fun hb => ?_) (fun hb => ?_)
    · replace H := H.1 (hb)
      refine Ex.pure 4 (fr2 := (345, [some (.ref 1), some (.int l1), (xoi none), u3, some (.int l4), some (.long l5), none, some (.int l7), some (.long l8), none, some (.int l10)], [.int 0, .int l7, .int l1, .ref 1])) rfl ?_
      refine Ex.cal (rest := []) (j := m_X6_part) (as := [.ref 1, .int l1, .int l7, .int 0]) (vst (a := 91) (b := 4) (c := 5) (rest := []) (vs := [.int l1, .int l7, .int 0]) rfl ⟨Nat.le_of_ble_eq_true rfl, Nat.le_of_ble_eq_true rfl⟩ rfl rfl (sg_1 hs)) (H.imp ?_)
      intro rv h1 H
      obtain ⟨x2, rfl, H⟩ := H
      obtain ⟨y3, hs, H⟩ := H
      show Ex d [] tb_L_isFine (348, [some (.ref 1), some (.int l1), (xoi none), u3, some (.int l4), some (.long l5), none, some (.int l7), some (.long l8), none, some (.int l10)], [.long x2]) h1 _
      refine Ex.pure 2 (fr2 := (350, [some (.ref 1), some (.int l1), (xoi none), u3, some (.int l4), some (.long l5), none, some (.int l7), some (.long l8), none, some (.int l10)], [.int (lg_cmp x2 0)])) rfl ?_
      refine Ex.br (x := (370, [some (.ref 1), some (.int l1), (xoi none), u3, some (.int l4), some (.long l5), none, some (.int l7), some (.long l8), none, some (.int l10)], [])) (y := (353, [some (.ref 1), some (.int l1), (xoi none), u3, some (.int l4), some (.long l5), none, some (.int l7), some (.long l8), none, some (.int l10)], [])) (b := (lg_cmp x2 0) = 0) rfl (fun hb => ?_) (fun hb => ?_)
      · replace H := H.1 ((lg_cmp_eq _ _).mp hb)
        exact H
      · replace H := H.2 (fun z => hb ((lg_cmp_eq _ _).mpr z))
        refine Ex.pure 1 (fr2 := (355, [some (.ref 1), some (.int l1), (xoi none), u3, some (.int l4), some (.long l5), none, some (.int l7), some (.long l8), none, some (.int l10)], [.int l7])) rfl ?_
        refine Ex.br (x := (366, [some (.ref 1), some (.int l1), (xoi none), u3, some (.int l4), some (.long l5), none, some (.int l7), some (.long l8), none, some (.int l10)], [])) (y := (358, [some (.ref 1), some (.int l1), (xoi none), u3, some (.int l4), some (.long l5), none, some (.int l7), some (.long l8), none, some (.int l10)], [])) (b := l7 = 0) rfl (fun hb => ?_) (fun hb => ?_)
        · replace H := H.1 (hb)
          exact H
        · replace H := H.2 (hb)
          refine Ex.pure 3 (fr2 := (363, [some (.ref 1), some (.int l1), (xoi none), u3, some (.int l4), some (.long l5), none, some (.int l7), some (.long l8), none, some (.int l10)], [.int (lg_cmp l8 l5)])) rfl ?_
          refine Ex.br (x := (370, [some (.ref 1), some (.int l1), (xoi none), u3, some (.int l4), some (.long l5), none, some (.int l7), some (.long l8), none, some (.int l10)], [])) (y := (366, [some (.ref 1), some (.int l1), (xoi none), u3, some (.int l4), some (.long l5), none, some (.int l7), some (.long l8), none, some (.int l10)], [])) (b := 0 ≤ (lg_cmp l8 l5)) rfl (fun hb => ?_) (fun hb => ?_)
          · replace H := H.1 ((lg_cmp_ge _ _).mp hb)
            exact H
          · replace H := H.2 (fun z => hb ((lg_cmp_ge _ _).mpr z))
            exact H
    · replace H := H.2 (hb)
      refine Ex.pure 7 (fr2 := (324, [some (.ref 1), some (.int l1), (xoi none), u3, some (.int l4), some (.long l5), none, some (.int l7), some (.long l8), none, some (.int l10)], [.int l10, .int l7, .int l1, .ref 1, .long (1000 * l8)])) rfl ?_
      refine Ex.cal (rest := [.long (1000 * l8)]) (j := m_X6_part) (as := [.ref 1, .int l1, .int l7, .int l10]) (vst (a := 91) (b := 4) (c := 5) (rest := [.long (1000 * l8)]) (vs := [.int l1, .int l7, .int l10]) rfl ⟨Nat.le_of_ble_eq_true rfl, Nat.le_of_ble_eq_true rfl⟩ rfl rfl (sg_1 hs)) (H.imp ?_)
      intro rv h4 H
      obtain ⟨x5, rfl, H⟩ := H
      obtain ⟨y6, hs, H⟩ := H
      show Ex d [] tb_L_isFine (327, [some (.ref 1), some (.int l1), (xoi none), u3, some (.int l4), some (.long l5), none, some (.int l7), some (.long l8), none, some (.int l10)], [.long x5, .long (1000 * l8)]) h4 _
      refine Ex.pure 6 (fr2 := (306, [some (.ref 1), some (.int l1), (xoi none), u3, some (.int l4), some (.long l5), none, some (.int l7), some (.long (((1000 * l8) + x5) + 500)), none, some (.int (l10 + 1))], [])) rfl ?_
      exact H
  | some v2 =>
    show Ex d [] tb_L_isFine (306, [some (.ref 1), some (.int l1), (xoi (some v2)), u3, some (.int l4), some (.long l5), none, some (.int l7), some (.long l8), none, some (.int l10)], []) h _
    refine Ex.pure 2 (fr2 := (309, [some (.ref 1), some (.int l1), (xoi (some v2)), u3, some (.int l4), some (.long l5), none, some (.int l7), some (.long l8), none, some (.int l10)], [.int 5, .int l10])) rfl ?_
    refine Ex.br (x := (340, [some (.ref 1), some (.int l1), (xoi (some v2)), u3, some (.int l4), some (.long l5), none, some (.int l7), some (.long l8), none, some (.int l10)], [])) (y := (312, [some (.ref 1), some (.int l1), (xoi (some v2)), u3, some (.int l4), some (.long l5), none, some (.int l7), some (.long l8), none, some (.int l10)], [])) (b := 5 ≤ l10) rfl (fun hb => ?_) (fun hb => ?_)
    · replace H := H.1 (hb)
      refine Ex.pure 4 (fr2 := (345, [some (.ref 1), some (.int l1), (xoi (some v2)), u3, some (.int l4), some (.long l5), none, some (.int l7), some (.long l8), none, some (.int l10)], [.int 0, .int l7, .int l1, .ref 1])) rfl ?_
      refine Ex.cal (rest := []) (j := m_X6_part) (as := [.ref 1, .int l1, .int l7, .int 0]) (vst (a := 91) (b := 4) (c := 5) (rest := []) (vs := [.int l1, .int l7, .int 0]) rfl ⟨Nat.le_of_ble_eq_true rfl, Nat.le_of_ble_eq_true rfl⟩ rfl rfl (sg_1 hs)) (H.imp ?_)
      intro rv h1 H
      obtain ⟨x2, rfl, H⟩ := H
      obtain ⟨y3, hs, H⟩ := H
      show Ex d [] tb_L_isFine (348, [some (.ref 1), some (.int l1), (xoi (some v2)), u3, some (.int l4), some (.long l5), none, some (.int l7), some (.long l8), none, some (.int l10)], [.long x2]) h1 _
      refine Ex.pure 2 (fr2 := (350, [some (.ref 1), some (.int l1), (xoi (some v2)), u3, some (.int l4), some (.long l5), none, some (.int l7), some (.long l8), none, some (.int l10)], [.int (lg_cmp x2 0)])) rfl ?_
      refine Ex.br (x := (370, [some (.ref 1), some (.int l1), (xoi (some v2)), u3, some (.int l4), some (.long l5), none, some (.int l7), some (.long l8), none, some (.int l10)], [])) (y := (353, [some (.ref 1), some (.int l1), (xoi (some v2)), u3, some (.int l4), some (.long l5), none, some (.int l7), some (.long l8), none, some (.int l10)], [])) (b := (lg_cmp x2 0) = 0) rfl (fun hb => ?_) (fun hb => ?_)
      · replace H := H.1 ((lg_cmp_eq _ _).mp hb)
        exact H
      · replace H := H.2 (fun z => hb ((lg_cmp_eq _ _).mpr z))
        refine Ex.pure 1 (fr2 := (355, [some (.ref 1), some (.int l1), (xoi (some v2)), u3, some (.int l4), some (.long l5), none, some (.int l7), some (.long l8), none, some (.int l10)], [.int l7])) rfl ?_
        refine Ex.br (x := (366, [some (.ref 1), some (.int l1), (xoi (some v2)), u3, some (.int l4), some (.long l5), none, some (.int l7), some (.long l8), none, some (.int l10)], [])) (y := (358, [some (.ref 1), some (.int l1), (xoi (some v2)), u3, some (.int l4), some (.long l5), none, some (.int l7), some (.long l8), none, some (.int l10)], [])) (b := l7 = 0) rfl (fun hb => ?_) (fun hb => ?_)
        · replace H := H.1 (hb)
          exact H
        · replace H := H.2 (hb)
          refine Ex.pure 3 (fr2 := (363, [some (.ref 1), some (.int l1), (xoi (some v2)), u3, some (.int l4), some (.long l5), none, some (.int l7), some (.long l8), none, some (.int l10)], [.int (lg_cmp l8 l5)])) rfl ?_
          refine Ex.br (x := (370, [some (.ref 1), some (.int l1), (xoi (some v2)), u3, some (.int l4), some (.long l5), none, some (.int l7), some (.long l8), none, some (.int l10)], [])) (y := (366, [some (.ref 1), some (.int l1), (xoi (some v2)), u3, some (.int l4), some (.long l5), none, some (.int l7), some (.long l8), none, some (.int l10)], [])) (b := 0 ≤ (lg_cmp l8 l5)) rfl (fun hb => ?_) (fun hb => ?_)
          · replace H := H.1 ((lg_cmp_ge _ _).mp hb)
            exact H
          · replace H := H.2 (fun z => hb ((lg_cmp_ge _ _).mpr z))
            exact H
    · replace H := H.2 (hb)
      refine Ex.pure 7 (fr2 := (324, [some (.ref 1), some (.int l1), (xoi (some v2)), u3, some (.int l4), some (.long l5), none, some (.int l7), some (.long l8), none, some (.int l10)], [.int l10, .int l7, .int l1, .ref 1, .long (1000 * l8)])) rfl ?_
      refine Ex.cal (rest := [.long (1000 * l8)]) (j := m_X6_part) (as := [.ref 1, .int l1, .int l7, .int l10]) (vst (a := 91) (b := 4) (c := 5) (rest := [.long (1000 * l8)]) (vs := [.int l1, .int l7, .int l10]) rfl ⟨Nat.le_of_ble_eq_true rfl, Nat.le_of_ble_eq_true rfl⟩ rfl rfl (sg_1 hs)) (H.imp ?_)
      intro rv h4 H
      obtain ⟨x5, rfl, H⟩ := H
      obtain ⟨y6, hs, H⟩ := H
      show Ex d [] tb_L_isFine (327, [some (.ref 1), some (.int l1), (xoi (some v2)), u3, some (.int l4), some (.long l5), none, some (.int l7), some (.long l8), none, some (.int l10)], [.long x5, .long (1000 * l8)]) h4 _
      refine Ex.pure 6 (fr2 := (306, [some (.ref 1), some (.int l1), (xoi (some v2)), u3, some (.int l4), some (.long l5), none, some (.int l7), some (.long (((1000 * l8) + x5) + 500)), none, some (.int (l10 + 1))], [])) rfl ?_
      exact H
theorem w_L_isFine_366 {d : Nat} {h : XH} {y : Nat → Nat} {K : XK} {E : XE} {l1 : Int32} {u2 : Option Int32} {u3 : Option Value} {l4 : Int32} {u5 : Option Value} {u6 : Option Value} {l7 : Int32} {l8 : Int64} {u10 : Option Value} (hd : 70 ≤ d) (hs : Sg h.1 y) (H : b_L_isFine_371 d 1 l1 u2 (u3) l4 (u5) (u6) l7 l8 (u10) 1 h K E) : b_L_isFine_366 d 1 l1 u2 u3 l4 u5 u6 l7 l8 u10 h K E := by
  cases u2 with
  | none =>
    show Ex d [] tb_L_isFine (366, [some (.ref 1), some (.int l1), (xoi none), u3, some (.int l4), u5, u6, some (.int l7), some (.long l8), none, u10], []) h _
    refine Ex.pure 2 (fr2 := (371, [some (.ref 1), some (.int l1), (xoi none), u3, some (.int l4), u5, u6, some (.int l7), some (.long l8), none, u10], [.int 1])) rfl ?_
    exact H
  | some v2 =>
    show Ex d [] tb_L_isFine (366, [some (.ref 1), some (.int l1), (xoi (some v2)), u3, some (.int l4), u5, u6, some (.int l7), some (.long l8), none, u10], []) h _
    refine Ex.pure 2 (fr2 := (371, [some (.ref 1), some (.int l1), (xoi (some v2)), u3, some (.int l4), u5, u6, some (.int l7), some (.long l8), none, u10], [.int 1])) rfl ?_
    exact H
theorem w_L_isFine_370 {d : Nat} {h : XH} {y : Nat → Nat} {K : XK} {E : XE} {l1 : Int32} {u2 : Option Int32} {u3 : Option Value} {l4 : Int32} {u5 : Option Value} {u6 : Option Value} {l7 : Int32} {l8 : Int64} {u10 : Option Value} (hd : 70 ≤ d) (hs : Sg h.1 y) (H : b_L_isFine_371 d 1 l1 u2 (u3) l4 (u5) (u6) l7 l8 (u10) 0 h K E) : b_L_isFine_370 d 1 l1 u2 u3 l4 u5 u6 l7 l8 u10 h K E := by
  cases u2 with
  | none =>
    show Ex d [] tb_L_isFine (370, [some (.ref 1), some (.int l1), (xoi none), u3, some (.int l4), u5, u6, some (.int l7), some (.long l8), none, u10], []) h _
    refine Ex.pure 1 (fr2 := (371, [some (.ref 1), some (.int l1), (xoi none), u3, some (.int l4), u5, u6, some (.int l7), some (.long l8), none, u10], [.int 0])) rfl ?_
    exact H
  | some v2 =>
    show Ex d [] tb_L_isFine (370, [some (.ref 1), some (.int l1), (xoi (some v2)), u3, some (.int l4), u5, u6, some (.int l7), some (.long l8), none, u10], []) h _
    refine Ex.pure 1 (fr2 := (371, [some (.ref 1), some (.int l1), (xoi (some v2)), u3, some (.int l4), u5, u6, some (.int l7), some (.long l8), none, u10], [.int 0])) rfl ?_
    exact H
theorem w_L_isFine_371 {d : Nat} {h : XH} {y : Nat → Nat} {K : XK} {E : XE} {l1 : Int32} {u2 : Option Int32} {u3 : Option Value} {l4 : Int32} {u5 : Option Value} {u6 : Option Value} {l7 : Int32} {l8 : Int64} {u10 : Option Value} {s0 : Int32} (hd : 70 ≤ d) (hs : Sg h.1 y) (H : b_L_isFine_289 d 1 l1 u2 s0 l4 l8 (l7 + 1) (some (.long l8)) none (u10) h K E) : b_L_isFine_371 d 1 l1 u2 u3 l4 u5 u6 l7 l8 u10 s0 h K E := by
  cases u2 with
  | none =>
    show Ex d [] tb_L_isFine (371, [some (.ref 1), some (.int l1), (xoi none), u3, some (.int l4), u5, u6, some (.int l7), some (.long l8), none, u10], [.int s0]) h _
    refine Ex.pure 5 (fr2 := (289, [some (.ref 1), some (.int l1), (xoi none), some (.int s0), some (.int l4), some (.long l8), none, some (.int (l7 + 1)), some (.long l8), none, u10], [])) rfl ?_
    exact H
  | some v2 =>
    show Ex d [] tb_L_isFine (371, [some (.ref 1), some (.int l1), (xoi (some v2)), u3, some (.int l4), u5, u6, some (.int l7), some (.long l8), none, u10], [.int s0]) h _
    refine Ex.pure 5 (fr2 := (289, [some (.ref 1), some (.int l1), (xoi (some v2)), some (.int s0), some (.int l4), some (.long l8), none, some (.int (l7 + 1)), some (.long l8), none, u10], [])) rfl ?_
    exact H
theorem w_L_isFine_382 {d : Nat} {h : XH} {y : Nat → Nat} {K : XK} {E : XE} {l1 : Int32} {u2 : Option Int32} {l3 : Int32} {l4 : Int32} {u5 : Option Value} {u6 : Option Value} {u7 : Option Value} {u8 : Option Value} {u9 : Option Value} {u10 : Option Value} (hd : 70 ≤ d) (hs : Sg h.1 y) (H : (l3 = 0 → K (some (.int 0)) h) ∧ (¬ (l3 = 0) → (0 < l4 → b_L_isFine_399 d (some (.ref 1)) (some (.int l1)) u2 (some (.int l3)) (some (.int l4)) (u5) (u6) (u7) (u8) (u9) (u10) h K E) ∧ (¬ (0 < l4) → (Ca d m_X6_tends [.ref 1, .int l1] h (fun rv h1 => ∃ x2, rv = some (.int x2) ∧ ∃ y3 : Nat → Nat, Sg h1.1 y3 ∧ (¬ x2 = 0 → K (some (.int 0)) h1) ∧ (¬ (¬ x2 = 0) → b_L_isFine_399 d (some (.ref 1)) (some (.int l1)) u2 (some (.int l3)) (some (.int l4)) (u5) (u6) (u7) (u8) (u9) (u10) h1 K E)) E)))) : b_L_isFine_382 d 1 l1 u2 l3 l4 u5 u6 u7 u8 u9 u10 h K E := by
  cases u2 with
  | none =>
    show Ex d [] tb_L_isFine (382, [some (.ref 1), some (.int l1), (xoi none), some (.int l3), some (.int l4), u5, u6, u7, u8, u9, u10], []) h _
    refine Ex.pure 1 (fr2 := (383, [some (.ref 1), some (.int l1), (xoi none), some (.int l3), some (.int l4), u5, u6, u7, u8, u9, u10], [.int l3])) rfl ?_
    refine Ex.br (x := (403, [some (.ref 1), some (.int l1), (xoi none), some (.int l3), some (.int l4), u5, u6, u7, u8, u9, u10], [])) (y := (386, [some (.ref 1), some (.int l1), (xoi none), some (.int l3), some (.int l4), u5, u6, u7, u8, u9, u10], [])) (b := l3 = 0) rfl (fun hb => ?_) (fun hb => ?_)
    · replace H := H.1 (hb)
      refine Ex.pure 3 (fr2 := (406, [some (.ref 1), some (.int l1), (xoi none), some (.int 0), some (.int l4), u5, u6, u7, u8, u9, u10], [.int 0])) rfl ?_
      exact Ex.iret rfl (Or.inr ⟨rfl, by decide⟩) H
    · replace H := H.2 (hb)
      refine Ex.pure 1 (fr2 := (388, [some (.ref 1), some (.int l1), (xoi none), some (.int l3), some (.int l4), u5, u6, u7, u8, u9, u10], [.int l4])) rfl ?_
      refine Ex.br (x := (399, [some (.ref 1), some (.int l1), (xoi none), some (.int l3), some (.int l4), u5, u6, u7, u8, u9, u10], [])) (y := (391, [some (.ref 1), some (.int l1), (xoi none), some (.int l3), some (.int l4), u5, u6, u7, u8, u9, u10], [])) (b := 0 < l4) rfl (fun hb => ?_) (fun hb => ?_)
      · replace H := H.1 (hb)
        exact H
      · replace H := H.2 (hb)
        refine Ex.pure 2 (fr2 := (393, [some (.ref 1), some (.int l1), (xoi none), some (.int l3), some (.int l4), u5, u6, u7, u8, u9, u10], [.int l1, .ref 1])) rfl ?_
        refine Ex.cal (rest := []) (j := m_X6_tends) (as := [.ref 1, .int l1]) (vst (a := 89) (b := 2) (c := 5) (rest := []) (vs := [.int l1]) rfl ⟨Nat.le_of_ble_eq_true rfl, Nat.le_of_ble_eq_true rfl⟩ rfl rfl (sg_1 hs)) (H.imp ?_)
        intro rv h1 H
        obtain ⟨x2, rfl, H⟩ := H
        obtain ⟨y3, hs, H⟩ := H
        show Ex d [] tb_L_isFine (396, [some (.ref 1), some (.int l1), (xoi none), some (.int l3), some (.int l4), u5, u6, u7, u8, u9, u10], [.int x2]) h1 _
        refine Ex.br (x := (403, [some (.ref 1), some (.int l1), (xoi none), some (.int l3), some (.int l4), u5, u6, u7, u8, u9, u10], [])) (y := (399, [some (.ref 1), some (.int l1), (xoi none), some (.int l3), some (.int l4), u5, u6, u7, u8, u9, u10], [])) (b := ¬ x2 = 0) rfl (fun hb => ?_) (fun hb => ?_)
        · replace H := H.1 (hb)
          refine Ex.pure 3 (fr2 := (406, [some (.ref 1), some (.int l1), (xoi none), some (.int 0), some (.int l4), u5, u6, u7, u8, u9, u10], [.int 0])) rfl ?_
          exact Ex.iret rfl (Or.inr ⟨rfl, by decide⟩) H
        · replace H := H.2 (hb)
          exact H
  | some v2 =>
    show Ex d [] tb_L_isFine (382, [some (.ref 1), some (.int l1), (xoi (some v2)), some (.int l3), some (.int l4), u5, u6, u7, u8, u9, u10], []) h _
    refine Ex.pure 1 (fr2 := (383, [some (.ref 1), some (.int l1), (xoi (some v2)), some (.int l3), some (.int l4), u5, u6, u7, u8, u9, u10], [.int l3])) rfl ?_
    refine Ex.br (x := (403, [some (.ref 1), some (.int l1), (xoi (some v2)), some (.int l3), some (.int l4), u5, u6, u7, u8, u9, u10], [])) (y := (386, [some (.ref 1), some (.int l1), (xoi (some v2)), some (.int l3), some (.int l4), u5, u6, u7, u8, u9, u10], [])) (b := l3 = 0) rfl (fun hb => ?_) (fun hb => ?_)
    · replace H := H.1 (hb)
      refine Ex.pure 3 (fr2 := (406, [some (.ref 1), some (.int l1), (xoi (some v2)), some (.int 0), some (.int l4), u5, u6, u7, u8, u9, u10], [.int 0])) rfl ?_
      exact Ex.iret rfl (Or.inr ⟨rfl, by decide⟩) H
    · replace H := H.2 (hb)
      refine Ex.pure 1 (fr2 := (388, [some (.ref 1), some (.int l1), (xoi (some v2)), some (.int l3), some (.int l4), u5, u6, u7, u8, u9, u10], [.int l4])) rfl ?_
      refine Ex.br (x := (399, [some (.ref 1), some (.int l1), (xoi (some v2)), some (.int l3), some (.int l4), u5, u6, u7, u8, u9, u10], [])) (y := (391, [some (.ref 1), some (.int l1), (xoi (some v2)), some (.int l3), some (.int l4), u5, u6, u7, u8, u9, u10], [])) (b := 0 < l4) rfl (fun hb => ?_) (fun hb => ?_)
      · replace H := H.1 (hb)
        exact H
      · replace H := H.2 (hb)
        refine Ex.pure 2 (fr2 := (393, [some (.ref 1), some (.int l1), (xoi (some v2)), some (.int l3), some (.int l4), u5, u6, u7, u8, u9, u10], [.int l1, .ref 1])) rfl ?_
        refine Ex.cal (rest := []) (j := m_X6_tends) (as := [.ref 1, .int l1]) (vst (a := 89) (b := 2) (c := 5) (rest := []) (vs := [.int l1]) rfl ⟨Nat.le_of_ble_eq_true rfl, Nat.le_of_ble_eq_true rfl⟩ rfl rfl (sg_1 hs)) (H.imp ?_)
        intro rv h1 H
        obtain ⟨x2, rfl, H⟩ := H
        obtain ⟨y3, hs, H⟩ := H
        show Ex d [] tb_L_isFine (396, [some (.ref 1), some (.int l1), (xoi (some v2)), some (.int l3), some (.int l4), u5, u6, u7, u8, u9, u10], [.int x2]) h1 _
        refine Ex.br (x := (403, [some (.ref 1), some (.int l1), (xoi (some v2)), some (.int l3), some (.int l4), u5, u6, u7, u8, u9, u10], [])) (y := (399, [some (.ref 1), some (.int l1), (xoi (some v2)), some (.int l3), some (.int l4), u5, u6, u7, u8, u9, u10], [])) (b := ¬ x2 = 0) rfl (fun hb => ?_) (fun hb => ?_)
        · replace H := H.1 (hb)
          refine Ex.pure 3 (fr2 := (406, [some (.ref 1), some (.int l1), (xoi (some v2)), some (.int 0), some (.int l4), u5, u6, u7, u8, u9, u10], [.int 0])) rfl ?_
          exact Ex.iret rfl (Or.inr ⟨rfl, by decide⟩) H
        · replace H := H.2 (hb)
          exact H
theorem w_L_isFine_399 {d : Nat} {h : XH} {y : Nat → Nat} {K : XK} {E : XE} {u0 : Option Value} {u1 : Option Value} {u2 : Option Int32} {u3 : Option Value} {u4 : Option Value} {u5 : Option Value} {u6 : Option Value} {u7 : Option Value} {u8 : Option Value} {u9 : Option Value} {u10 : Option Value} (hd : 70 ≤ d) (hs : Sg h.1 y) (H : K (some (.int 1)) h) : b_L_isFine_399 d u0 u1 u2 u3 u4 u5 u6 u7 u8 u9 u10 h K E := by
  cases u2 with
  | none =>
    show Ex d [] tb_L_isFine (399, [u0, u1, (xoi none), u3, u4, u5, u6, u7, u8, u9, u10], []) h _
    refine Ex.pure 4 (fr2 := (406, [u0, u1, (xoi none), some (.int 1), u4, u5, u6, u7, u8, u9, u10], [.int 1])) rfl ?_
    exact Ex.iret rfl (Or.inr ⟨rfl, by decide⟩) H
  | some v2 =>
    show Ex d [] tb_L_isFine (399, [u0, u1, (xoi (some v2)), u3, u4, u5, u6, u7, u8, u9, u10], []) h _
    refine Ex.pure 4 (fr2 := (406, [u0, u1, (xoi (some v2)), some (.int 1), u4, u5, u6, u7, u8, u9, u10], [.int 1])) rfl ?_
    exact Ex.iret rfl (Or.inr ⟨rfl, by decide⟩) H
