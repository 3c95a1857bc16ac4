/-! ===== layer 2: the cases of the law's loop, written by a program ===== -/
theorem Ca.ty2 {d j : Nat} {as : List Value} {h : XH} {K : XK} {E : XE} (H : Ca d j as h (fun v h2 => x_ty h h2 → K v h2) E) : Ca d j as h K E := by
  obtain ⟨o, h2, F, p, e⟩ := H
  refine ⟨o, h2, F, ?_, e⟩
  have t := xrun_ty F d j as h o h2 e
  cases o with
  | inl v => exact p t
  | inr x => exact p
theorem MI.fw {h h2 : XH} {y y2 : Nat → Nat} {S : XS} (I : MI h S) (F : FW h y h2 y2) : MI h2 S := by
  obtain ⟨m, om, I1, I2, I3⟩ := I
  have f := fun r (a : 77 ≤ r) (b : r < 94) => F.2.1 r (Or.inr a) b
  refine ⟨m, om, I1.fr (by rw [(f 77 (by omega) (by omega)).1]) (fun r a b => (f r (by omega) (by omega)).1), I2.fr (f 78 (by omega) (by omega)).1 (f 79 (by omega) (by omega)).1 (Nat.le_refl _) (fun _ _ => rfl), fun p hp => ?_⟩
  obtain ⟨p1, p2, p3⟩ := I3 p hp
  rw [(f 78 (by omega) (by omega)).1, (f 79 (by omega) (by omega)).1]
  refine ⟨p1, p2, fun z => ?_⟩
  obtain ⟨g1, g2, g3⟩ := p3 z
  refine ⟨by rw [(f 79 (by omega) (by omega)).1]; exact g1, g2, fun k e n hk => ?_⟩
  rw [(f 90 (by omega) (by omega)).2, (f 91 (by omega) (by omega)).1]
  exact g3 k e n hk
theorem CI.fm {h h2 : XH} {y : Nat → Nat} {c : Nat} {S : XS} (I : CI h y c S) (hs : Sg h.1 y) (F : FM h h2) : CI h2 y c S := by
  obtain ⟨ov, I1, I2⟩ := I
  have hh := sg_hnd hs
  exact ⟨ov, I1.fr (F.2.2 _ (by omega)).1 (F.2.2 _ (by omega)).1 (F.2.2 _ (by omega)).1 (F.2.2 _ (by omega)).1 (F.2.2 _ (by omega)).1, I2.fr (fun r a b => F.2.2 r (by omega)) (Nat.le_refl _) (fun _ _ => rfl)⟩
/-- an int of the script -/
theorem Ex.scr {d : Nat} {hs : XHs} {tb : List (Option XI)} {pc a b c : Nat} {v : Int32} {w : Int64} {L : XL} {st : List Value} {h : XH} {P : XO → XH → Prop} {n m : Nat} {j : Int32} {xs : Nat → Int32} (ht : tb[pc]? = some (some (.iaload, a, b, c, v, w))) (hT : h.1[0]? = some (5, n, [])) (hx : h.2.1 0 = xs) (hj : j.toInt = m) (hm : m < n) (H : Ex d hs tb (pc + 1, L, .int (xs m) :: st) h P) : Ex d hs tb (pc, L, .int j :: .ref 0 :: st) h P := by
  refine Ex.iald ht (Or.inr rfl) hT (i_Ix hj hm) ?_
  rw [show j.toNatClampNeg = m from i_ix hj, hx]
  exact H
theorem i_sc {i l : Int32} {k j : Nat} (hi : i.toInt = k) (hk : k ≤ 3584) (hl : l.toInt = j) (hj : j ≤ 6) : (i + l).toInt = (k + j : Nat) := by
  rw [i_add (by omega) (by omega), hi, hl]
  omega
/-- what comes behind a case -/
def KL (i : Int32) (L : Nat) (xs : Nat → Int32) (c : Nat) (h : XH) (y : Nat → Nat) (S2 : XS) (d : Nat) (K : XK) (E : XE) : Prop := ∀ (h2 : XH) (y2 : Nat → Nat) (c2 : Nat) (u5 u6 u7 : Option Value), c ≤ c2 → c2 ≤ c + 9 → Sg h2.1 y2 → h2.1[0]? = some (5, L, []) → h2.2.1 0 = xs → CI h2 y2 c2 S2 → MI h2 S2 → h2.1.length + Ty y ≤ h.1.length + Ty y2 + 1 → h2.2.2.2 + 2 * Ty y ≤ h.2.2.2 + 2 * Ty y2 + 6 → Ex d [] tb_L_law (1799, [some (.ref 0), some (.ref 1), some (.ref 77), some (.ref 94), some (.int i), u5, u6, u7], []) h2 (Po K E)
section
variable {d k c L : Nat} {i : Int32} {xs : Nat → Int32} {h : XH} {y : Nat → Nat} {S : XS} {u5 u6 u7 : Option Value} {K : XK} {E : XE}
set_option maxRecDepth 100000 in
theorem cs_kind (hd : 70 ≤ d) (hs : Sg h.1 y) (hT : h.1[0]? = some (5, L, [])) (hx : h.2.1 0 = xs) (I : CI h y c S) (J : MI h S) (V : VA S) (LB : LBS S) (LD : LBD S) (hc : c + 10020 < 16384) (hi : i.toInt = k) (hk : k + 6 < L) (hL : L ≤ 3584) (kk : KL i L xs c h y (f_kind (xs (k + 1)) S).2.2 d K E) : Ex d [] tb_L_law (156, [some (.ref 0), some (.ref 1), some (.ref 77), some (.ref 94), some (.int i), u5, u6, u7], []) h (Po K E) := by
  refine Ex.pure 5 (fr2 := (162, [some (.ref 0), some (.ref 1), some (.ref 77), some (.ref 94), some (.int i), u5, u6, u7], [.int (i + 1), .ref 0, .ref 1])) rfl ?_
  refine Ex.scr rfl hT hx (i_sc (l := 1) (j := 1) hi (by omega) rfl (by omega)) (by omega) ?_
  refine Ex.pure 1 (fr2 := (164, [some (.ref 0), some (.ref 1), some (.ref 77), some (.ref 94), some (.int i), u5, u6, u7], [.ref 94, .int (xs (k + 1)), .ref 1])) rfl ?_
  refine Ex.cal (rest := []) (j := m_L_kind) (as := [.ref 1, .int (xs (k + 1)), .ref 94]) (fun c => rfl) (Ca.ty2 (lw_kind (by omega) hs I V hc (fun r h2 y2 c2 g1 g2 I2 F2 hr ho t2 => ?_)))
  have hs2 := F2.1
  have hT2 := t2 0 L hT
  have hx2 : h2.2.1 0 = xs := (F2.2.1 0 (Or.inl rfl) (by omega)).1.trans hx
  have J2 := J.fw F2
  show Ex d [] tb_L_law (167, [some (.ref 0), some (.ref 1), some (.ref 77), some (.ref 94), some (.int i), u5, u6, u7], [.int r]) h2 _
  refine Ex.pure 6 (fr2 := (175, [some (.ref 0), some (.ref 1), some (.ref 77), some (.ref 94), some (.int i), some (.int r), u6, u7], [.int (i + 1), .ref 0, .ref 77])) rfl ?_
  refine Ex.scr rfl hT2 hx2 (i_sc (l := 1) (j := 1) hi (by omega) rfl (by omega)) (by omega) ?_
  refine Ex.cal (rest := []) (j := m_X7_kind) (as := [.ref 77, .int (xs (k + 1))]) (vst (a := 147) (b := 2) (c := 6) (rest := []) (vs := [.int (xs (k + 1))]) rfl ⟨Nat.le_of_ble_eq_true rfl, Nat.le_of_ble_eq_true rfl⟩ rfl rfl (sg_77 hs2)) (m_kind (by omega) hs2 J2  (fun rv h3 J3 F3 t3 hr3 => ?_))
  have hs3 := F3.sg hs2
  obtain ⟨b, rfl, hb3⟩ := hr3
  show Ex d [] tb_L_law (179, [some (.ref 0), some (.ref 1), some (.ref 77), some (.ref 94), some (.int i), some (.int r), u6, u7], [.int b]) h3 _
  refine Ex.pure 2 (fr2 := (182, [some (.ref 0), some (.ref 1), some (.ref 77), some (.ref 94), some (.int i), some (.int r), some (.int b), u7], [.ref 77])) rfl ?_
  refine Ex.ask (rest := []) (j := m_X7_thrown) (as := [.ref 77]) (vst (a := 113) (b := 1) (c := 6) (rest := []) (vs := []) rfl ⟨Nat.le_of_ble_eq_true rfl, Nat.le_of_ble_eq_true rfl⟩ rfl rfl (sg_77 hs3)) ((t_X7_thrown hs3).mono (by omega) (fun _ _ z => z)) ?_
  rintro _ h0 ⟨rfl, e0⟩
  rw [e0]
  show Ex d [] tb_L_law (185, [some (.ref 0), some (.ref 1), some (.ref 77), some (.ref 94), some (.int i), some (.int r), some (.int b), u7], [.int (h3.2.1 77 0)]) h3 _
  refine Ex.pure 1 (fr2 := (187, [some (.ref 0), some (.ref 1), some (.ref 77), some (.ref 94), some (.int i), some (.int r), some (.int b), u7], [.int r, .int (h3.2.1 77 0)])) rfl ?_
  refine Ex.br (x := (192, [some (.ref 0), some (.ref 1), some (.ref 77), some (.ref 94), some (.int i), some (.int r), some (.int b), u7], [])) (y := (190, [some (.ref 0), some (.ref 1), some (.ref 77), some (.ref 94), some (.int i), some (.int r), some (.int b), u7], [])) (b := (h3.2.1 77 0) = r) rfl (fun _ => ?_) (fun hb => absurd (Int32.toInt_inj.mp (by rw [t3, hr])) hb)
  refine Ex.pure 1 (fr2 := (194, [some (.ref 0), some (.ref 1), some (.ref 77), some (.ref 94), some (.int i), some (.int r), some (.int b), u7], [.int r])) rfl ?_
  refine Ex.br (x := (209, [some (.ref 0), some (.ref 1), some (.ref 77), some (.ref 94), some (.int i), some (.int r), some (.int b), u7], [])) (y := (197, [some (.ref 0), some (.ref 1), some (.ref 77), some (.ref 94), some (.int i), some (.int r), some (.int b), u7], [])) (b := ¬ r = 0) rfl (fun _ => ?_) (fun hb => ?_)
  · skip
    refine Ex.pure 1 (fr2 := (1799, [some (.ref 0), some (.ref 1), some (.ref 77), some (.ref 94), some (.int i), some (.int r), some (.int b), u7], [])) rfl ?_
    exact kk h3 y2 c2 _ _ _ g1 g2 hs3 (by rw [F3.1]; exact hT2) ((F3.2.2 0 (by omega)).1.trans hx2) (I2.fm hs2 F3) J3 (by rw [F3.1]; exact F2.2.2.1) (by rw [F3.2.1]; exact F2.2.2.2)
  · have h0 : (f_kind (xs (k + 1)) S).1 = 0 := by
      have := i_ne.mp (Classical.not_not.mp hb)
      omega
    have q1 : (h3.2.2.1 94 0).toInt = (f_kind (xs (k + 1)) S).2.1 := by
      rw [(F3.2.2 94 (by omega)).2]
      exact ho h0 (by decide)
    have q2 := hb3 h0
    refine Ex.pure 2 (fr2 := (199, [some (.ref 0), some (.ref 1), some (.ref 77), some (.ref 94), some (.int i), some (.int r), some (.int b), u7], [.int 0, .ref 94])) rfl ?_
    refine Ex.lald rfl (sg_94 hs3) (by decide) ?_
    show Ex d [] tb_L_law (200, [some (.ref 0), some (.ref 1), some (.ref 77), some (.ref 94), some (.int i), some (.int r), some (.int b), u7], [.long (h3.2.2.1 94 0)]) h3 _
    refine Ex.pure 3 (fr2 := (204, [some (.ref 0), some (.ref 1), some (.ref 77), some (.ref 94), some (.int i), some (.int r), some (.int b), u7], [.int (lg_cmp (h3.2.2.1 94 0) ((b).toInt64))])) rfl ?_
    refine Ex.br (x := (209, [some (.ref 0), some (.ref 1), some (.ref 77), some (.ref 94), some (.int i), some (.int r), some (.int b), u7], [])) (y := (207, [some (.ref 0), some (.ref 1), some (.ref 77), some (.ref 94), some (.int i), some (.int r), some (.int b), u7], [])) (b := (lg_cmp (h3.2.2.1 94 0) ((b).toInt64)) = 0) rfl (fun _ => ?_) (fun hb => absurd ((lg_cmp_eq _ _).mpr (Int64.toInt_inj.mp (by rw [i_2j, q1, q2]))) hb)
    refine Ex.pure 1 (fr2 := (1799, [some (.ref 0), some (.ref 1), some (.ref 77), some (.ref 94), some (.int i), some (.int r), some (.int b), u7], [])) rfl ?_
    exact kk h3 y2 c2 _ _ _ g1 g2 hs3 (by rw [F3.1]; exact hT2) ((F3.2.2 0 (by omega)).1.trans hx2) (I2.fm hs2 F3) J3 (by rw [F3.1]; exact F2.2.2.1) (by rw [F3.2.1]; exact F2.2.2.2)
set_option maxRecDepth 100000 in
theorem cs_clear (hd : 70 ≤ d) (hs : Sg h.1 y) (hT : h.1[0]? = some (5, L, [])) (hx : h.2.1 0 = xs) (I : CI h y c S) (J : MI h S) (V : VA S) (LB : LBS S) (LD : LBD S) (hc : c + 10020 < 16384) (hi : i.toInt = k) (hk : k + 6 < L) (hL : L ≤ 3584) (kk : KL i L xs c h y (f_clear (xs (k + 1)) S).2.2 d K E) : Ex d [] tb_L_law (212, [some (.ref 0), some (.ref 1), some (.ref 77), some (.ref 94), some (.int i), u5, u6, u7], []) h (Po K E) := by
  refine Ex.pure 5 (fr2 := (218, [some (.ref 0), some (.ref 1), some (.ref 77), some (.ref 94), some (.int i), u5, u6, u7], [.int (i + 1), .ref 0, .ref 1])) rfl ?_
  refine Ex.scr rfl hT hx (i_sc (l := 1) (j := 1) hi (by omega) rfl (by omega)) (by omega) ?_
  refine Ex.pure 1 (fr2 := (220, [some (.ref 0), some (.ref 1), some (.ref 77), some (.ref 94), some (.int i), u5, u6, u7], [.ref 94, .int (xs (k + 1)), .ref 1])) rfl ?_
  refine Ex.cal (rest := []) (j := m_L_clear) (as := [.ref 1, .int (xs (k + 1)), .ref 94]) (fun c => rfl) (Ca.ty2 (lw_clear (by omega) hs I V hc (fun r h2 y2 c2 g1 g2 I2 F2 hr ho t2 => ?_)))
  have hs2 := F2.1
  have hT2 := t2 0 L hT
  have hx2 : h2.2.1 0 = xs := (F2.2.1 0 (Or.inl rfl) (by omega)).1.trans hx
  have J2 := J.fw F2
  show Ex d [] tb_L_law (223, [some (.ref 0), some (.ref 1), some (.ref 77), some (.ref 94), some (.int i), u5, u6, u7], [.int r]) h2 _
  refine Ex.pure 6 (fr2 := (231, [some (.ref 0), some (.ref 1), some (.ref 77), some (.ref 94), some (.int i), some (.int r), u6, u7], [.int (i + 1), .ref 0, .ref 77])) rfl ?_
  refine Ex.scr rfl hT2 hx2 (i_sc (l := 1) (j := 1) hi (by omega) rfl (by omega)) (by omega) ?_
  refine Ex.cal (rest := []) (j := m_X7_clear) (as := [.ref 77, .int (xs (k + 1))]) (vst (a := 148) (b := 2) (c := 6) (rest := []) (vs := [.int (xs (k + 1))]) rfl ⟨Nat.le_of_ble_eq_true rfl, Nat.le_of_ble_eq_true rfl⟩ rfl rfl (sg_77 hs2)) (m_clear (by omega) hs2 J2  (fun rv h3 J3 F3 t3 hr3 => ?_))
  have hs3 := F3.sg hs2
  obtain ⟨b, rfl, hb3⟩ := hr3
  show Ex d [] tb_L_law (235, [some (.ref 0), some (.ref 1), some (.ref 77), some (.ref 94), some (.int i), some (.int r), u6, u7], [.int b]) h3 _
  refine Ex.pure 2 (fr2 := (238, [some (.ref 0), some (.ref 1), some (.ref 77), some (.ref 94), some (.int i), some (.int r), some (.int b), u7], [.ref 77])) rfl ?_
  refine Ex.ask (rest := []) (j := m_X7_thrown) (as := [.ref 77]) (vst (a := 113) (b := 1) (c := 6) (rest := []) (vs := []) rfl ⟨Nat.le_of_ble_eq_true rfl, Nat.le_of_ble_eq_true rfl⟩ rfl rfl (sg_77 hs3)) ((t_X7_thrown hs3).mono (by omega) (fun _ _ z => z)) ?_
  rintro _ h0 ⟨rfl, e0⟩
  rw [e0]
  show Ex d [] tb_L_law (241, [some (.ref 0), some (.ref 1), some (.ref 77), some (.ref 94), some (.int i), some (.int r), some (.int b), u7], [.int (h3.2.1 77 0)]) h3 _
  refine Ex.pure 1 (fr2 := (243, [some (.ref 0), some (.ref 1), some (.ref 77), some (.ref 94), some (.int i), some (.int r), some (.int b), u7], [.int r, .int (h3.2.1 77 0)])) rfl ?_
  refine Ex.br (x := (248, [some (.ref 0), some (.ref 1), some (.ref 77), some (.ref 94), some (.int i), some (.int r), some (.int b), u7], [])) (y := (246, [some (.ref 0), some (.ref 1), some (.ref 77), some (.ref 94), some (.int i), some (.int r), some (.int b), u7], [])) (b := (h3.2.1 77 0) = r) rfl (fun _ => ?_) (fun hb => absurd (Int32.toInt_inj.mp (by rw [t3, hr])) hb)
  refine Ex.pure 1 (fr2 := (250, [some (.ref 0), some (.ref 1), some (.ref 77), some (.ref 94), some (.int i), some (.int r), some (.int b), u7], [.int r])) rfl ?_
  refine Ex.br (x := (265, [some (.ref 0), some (.ref 1), some (.ref 77), some (.ref 94), some (.int i), some (.int r), some (.int b), u7], [])) (y := (253, [some (.ref 0), some (.ref 1), some (.ref 77), some (.ref 94), some (.int i), some (.int r), some (.int b), u7], [])) (b := ¬ r = 0) rfl (fun _ => ?_) (fun hb => ?_)
  · skip
    refine Ex.pure 1 (fr2 := (1799, [some (.ref 0), some (.ref 1), some (.ref 77), some (.ref 94), some (.int i), some (.int r), some (.int b), u7], [])) rfl ?_
    exact kk h3 y2 c2 _ _ _ g1 g2 hs3 (by rw [F3.1]; exact hT2) ((F3.2.2 0 (by omega)).1.trans hx2) (I2.fm hs2 F3) J3 (by rw [F3.1]; exact F2.2.2.1) (by rw [F3.2.1]; exact F2.2.2.2)
  · have h0 : (f_clear (xs (k + 1)) S).1 = 0 := by
      have := i_ne.mp (Classical.not_not.mp hb)
      omega
    have q1 : (h3.2.2.1 94 0).toInt = (f_clear (xs (k + 1)) S).2.1 := by
      rw [(F3.2.2 94 (by omega)).2]
      exact ho h0 (by decide)
    have q2 := hb3 h0
    refine Ex.pure 2 (fr2 := (255, [some (.ref 0), some (.ref 1), some (.ref 77), some (.ref 94), some (.int i), some (.int r), some (.int b), u7], [.int 0, .ref 94])) rfl ?_
    refine Ex.lald rfl (sg_94 hs3) (by decide) ?_
    show Ex d [] tb_L_law (256, [some (.ref 0), some (.ref 1), some (.ref 77), some (.ref 94), some (.int i), some (.int r), some (.int b), u7], [.long (h3.2.2.1 94 0)]) h3 _
    refine Ex.pure 3 (fr2 := (260, [some (.ref 0), some (.ref 1), some (.ref 77), some (.ref 94), some (.int i), some (.int r), some (.int b), u7], [.int (lg_cmp (h3.2.2.1 94 0) ((b).toInt64))])) rfl ?_
    refine Ex.br (x := (265, [some (.ref 0), some (.ref 1), some (.ref 77), some (.ref 94), some (.int i), some (.int r), some (.int b), u7], [])) (y := (263, [some (.ref 0), some (.ref 1), some (.ref 77), some (.ref 94), some (.int i), some (.int r), some (.int b), u7], [])) (b := (lg_cmp (h3.2.2.1 94 0) ((b).toInt64)) = 0) rfl (fun _ => ?_) (fun hb => absurd ((lg_cmp_eq _ _).mpr (Int64.toInt_inj.mp (by rw [i_2j, q1, q2]))) hb)
    refine Ex.pure 1 (fr2 := (1799, [some (.ref 0), some (.ref 1), some (.ref 77), some (.ref 94), some (.int i), some (.int r), some (.int b), u7], [])) rfl ?_
    exact kk h3 y2 c2 _ _ _ g1 g2 hs3 (by rw [F3.1]; exact hT2) ((F3.2.2 0 (by omega)).1.trans hx2) (I2.fm hs2 F3) J3 (by rw [F3.1]; exact F2.2.2.1) (by rw [F3.2.1]; exact F2.2.2.2)
set_option maxRecDepth 100000 in
theorem cs_finite (hd : 70 ≤ d) (hs : Sg h.1 y) (hT : h.1[0]? = some (5, L, [])) (hx : h.2.1 0 = xs) (I : CI h y c S) (J : MI h S) (V : VA S) (LB : LBS S) (LD : LBD S) (hc : c + 10020 < 16384) (hi : i.toInt = k) (hk : k + 6 < L) (hL : L ≤ 3584) (kk : KL i L xs c h y (f_finite (xs (k + 1)) (xs (k + 2)) S).2.2 d K E) : Ex d [] tb_L_law (268, [some (.ref 0), some (.ref 1), some (.ref 77), some (.ref 94), some (.int i), u5, u6, u7], []) h (Po K E) := by
  refine Ex.pure 5 (fr2 := (274, [some (.ref 0), some (.ref 1), some (.ref 77), some (.ref 94), some (.int i), u5, u6, u7], [.int (i + 1), .ref 0, .ref 1])) rfl ?_
  refine Ex.scr rfl hT hx (i_sc (l := 1) (j := 1) hi (by omega) rfl (by omega)) (by omega) ?_
  refine Ex.pure 4 (fr2 := (280, [some (.ref 0), some (.ref 1), some (.ref 77), some (.ref 94), some (.int i), u5, u6, u7], [.int (i + 2), .ref 0, .int (xs (k + 1)), .ref 1])) rfl ?_
  refine Ex.scr rfl hT hx (i_sc (l := 2) (j := 2) hi (by omega) rfl (by omega)) (by omega) ?_
  refine Ex.cal (rest := []) (j := m_L_finite) (as := [.ref 1, .int (xs (k + 1)), .int (xs (k + 2))]) (fun c => rfl) (Ca.ty2 (lw_finite (by omega) hs I V hc (fun r h2 y2 c2 g1 g2 I2 F2 hr ho t2 => ?_)))
  have hs2 := F2.1
  have hT2 := t2 0 L hT
  have hx2 : h2.2.1 0 = xs := (F2.2.1 0 (Or.inl rfl) (by omega)).1.trans hx
  have J2 := J.fw F2
  show Ex d [] tb_L_law (284, [some (.ref 0), some (.ref 1), some (.ref 77), some (.ref 94), some (.int i), u5, u6, u7], [.int r]) h2 _
  refine Ex.pure 6 (fr2 := (292, [some (.ref 0), some (.ref 1), some (.ref 77), some (.ref 94), some (.int i), some (.int r), u6, u7], [.int (i + 1), .ref 0, .ref 77])) rfl ?_
  refine Ex.scr rfl hT2 hx2 (i_sc (l := 1) (j := 1) hi (by omega) rfl (by omega)) (by omega) ?_
  refine Ex.pure 4 (fr2 := (298, [some (.ref 0), some (.ref 1), some (.ref 77), some (.ref 94), some (.int i), some (.int r), u6, u7], [.int (i + 2), .ref 0, .int (xs (k + 1)), .ref 77])) rfl ?_
  refine Ex.scr rfl hT2 hx2 (i_sc (l := 2) (j := 2) hi (by omega) rfl (by omega)) (by omega) ?_
  refine Ex.cal (rest := []) (j := m_X7_finite) (as := [.ref 77, .int (xs (k + 1)), .int (xs (k + 2))]) (vst (a := 151) (b := 3) (c := 6) (rest := []) (vs := [.int (xs (k + 1)), .int (xs (k + 2))]) rfl ⟨Nat.le_of_ble_eq_true rfl, Nat.le_of_ble_eq_true rfl⟩ rfl rfl (sg_77 hs2)) (m_finite (by omega) hs2 J2 LB (fun rv h3 J3 F3 t3 hr3 => ?_))
  have hs3 := F3.sg hs2
  have hr3 : rv = none := hr3
  subst hr3
  show Ex d [] tb_L_law (302, [some (.ref 0), some (.ref 1), some (.ref 77), some (.ref 94), some (.int i), some (.int r), u6, u7], []) h3 _
  refine Ex.pure 1 (fr2 := (303, [some (.ref 0), some (.ref 1), some (.ref 77), some (.ref 94), some (.int i), some (.int r), u6, u7], [.ref 77])) rfl ?_
  refine Ex.ask (rest := []) (j := m_X7_thrown) (as := [.ref 77]) (vst (a := 113) (b := 1) (c := 6) (rest := []) (vs := []) rfl ⟨Nat.le_of_ble_eq_true rfl, Nat.le_of_ble_eq_true rfl⟩ rfl rfl (sg_77 hs3)) ((t_X7_thrown hs3).mono (by omega) (fun _ _ z => z)) ?_
  rintro _ h0 ⟨rfl, e0⟩
  rw [e0]
  show Ex d [] tb_L_law (306, [some (.ref 0), some (.ref 1), some (.ref 77), some (.ref 94), some (.int i), some (.int r), u6, u7], [.int (h3.2.1 77 0)]) h3 _
  refine Ex.pure 1 (fr2 := (308, [some (.ref 0), some (.ref 1), some (.ref 77), some (.ref 94), some (.int i), some (.int r), u6, u7], [.int r, .int (h3.2.1 77 0)])) rfl ?_
  refine Ex.br (x := (313, [some (.ref 0), some (.ref 1), some (.ref 77), some (.ref 94), some (.int i), some (.int r), u6, u7], [])) (y := (311, [some (.ref 0), some (.ref 1), some (.ref 77), some (.ref 94), some (.int i), some (.int r), u6, u7], [])) (b := (h3.2.1 77 0) = r) rfl (fun _ => ?_) (fun hb => absurd (Int32.toInt_inj.mp (by rw [t3, hr])) hb)
  refine Ex.pure 1 (fr2 := (1799, [some (.ref 0), some (.ref 1), some (.ref 77), some (.ref 94), some (.int i), some (.int r), u6, u7], [])) rfl ?_
  exact kk h3 y2 c2 _ _ _ g1 g2 hs3 (by rw [F3.1]; exact hT2) ((F3.2.2 0 (by omega)).1.trans hx2) (I2.fm hs2 F3) J3 (by rw [F3.1]; exact F2.2.2.1) (by rw [F3.2.1]; exact F2.2.2.2)
set_option maxRecDepth 100000 in
theorem cs_omega (hd : 70 ≤ d) (hs : Sg h.1 y) (hT : h.1[0]? = some (5, L, [])) (hx : h.2.1 0 = xs) (I : CI h y c S) (J : MI h S) (V : VA S) (LB : LBS S) (LD : LBD S) (hc : c + 10020 < 16384) (hi : i.toInt = k) (hk : k + 6 < L) (hL : L ≤ 3584) (kk : KL i L xs c h y (f_omega (xs (k + 1)) (xs (k + 2)) S).2.2 d K E) : Ex d [] tb_L_law (316, [some (.ref 0), some (.ref 1), some (.ref 77), some (.ref 94), some (.int i), u5, u6, u7], []) h (Po K E) := by
  refine Ex.pure 5 (fr2 := (322, [some (.ref 0), some (.ref 1), some (.ref 77), some (.ref 94), some (.int i), u5, u6, u7], [.int (i + 1), .ref 0, .ref 1])) rfl ?_
  refine Ex.scr rfl hT hx (i_sc (l := 1) (j := 1) hi (by omega) rfl (by omega)) (by omega) ?_
  refine Ex.pure 4 (fr2 := (328, [some (.ref 0), some (.ref 1), some (.ref 77), some (.ref 94), some (.int i), u5, u6, u7], [.int (i + 2), .ref 0, .int (xs (k + 1)), .ref 1])) rfl ?_
  refine Ex.scr rfl hT hx (i_sc (l := 2) (j := 2) hi (by omega) rfl (by omega)) (by omega) ?_
  refine Ex.cal (rest := []) (j := m_L_omega) (as := [.ref 1, .int (xs (k + 1)), .int (xs (k + 2))]) (fun c => rfl) (Ca.ty2 (lw_omega (by omega) hs I V hc (fun r h2 y2 c2 g1 g2 I2 F2 hr ho t2 => ?_)))
  have hs2 := F2.1
  have hT2 := t2 0 L hT
  have hx2 : h2.2.1 0 = xs := (F2.2.1 0 (Or.inl rfl) (by omega)).1.trans hx
  have J2 := J.fw F2
  show Ex d [] tb_L_law (332, [some (.ref 0), some (.ref 1), some (.ref 77), some (.ref 94), some (.int i), u5, u6, u7], [.int r]) h2 _
  refine Ex.pure 6 (fr2 := (340, [some (.ref 0), some (.ref 1), some (.ref 77), some (.ref 94), some (.int i), some (.int r), u6, u7], [.int (i + 1), .ref 0, .ref 77])) rfl ?_
  refine Ex.scr rfl hT2 hx2 (i_sc (l := 1) (j := 1) hi (by omega) rfl (by omega)) (by omega) ?_
  refine Ex.pure 4 (fr2 := (346, [some (.ref 0), some (.ref 1), some (.ref 77), some (.ref 94), some (.int i), some (.int r), u6, u7], [.int (i + 2), .ref 0, .int (xs (k + 1)), .ref 77])) rfl ?_
  refine Ex.scr rfl hT2 hx2 (i_sc (l := 2) (j := 2) hi (by omega) rfl (by omega)) (by omega) ?_
  refine Ex.cal (rest := []) (j := m_X7_omega) (as := [.ref 77, .int (xs (k + 1)), .int (xs (k + 2))]) (vst (a := 154) (b := 3) (c := 6) (rest := []) (vs := [.int (xs (k + 1)), .int (xs (k + 2))]) rfl ⟨Nat.le_of_ble_eq_true rfl, Nat.le_of_ble_eq_true rfl⟩ rfl rfl (sg_77 hs2)) (m_omega (by omega) hs2 J2 LB (fun rv h3 J3 F3 t3 hr3 => ?_))
  have hs3 := F3.sg hs2
  have hr3 : rv = none := hr3
  subst hr3
  show Ex d [] tb_L_law (350, [some (.ref 0), some (.ref 1), some (.ref 77), some (.ref 94), some (.int i), some (.int r), u6, u7], []) h3 _
  refine Ex.pure 1 (fr2 := (351, [some (.ref 0), some (.ref 1), some (.ref 77), some (.ref 94), some (.int i), some (.int r), u6, u7], [.ref 77])) rfl ?_
  refine Ex.ask (rest := []) (j := m_X7_thrown) (as := [.ref 77]) (vst (a := 113) (b := 1) (c := 6) (rest := []) (vs := []) rfl ⟨Nat.le_of_ble_eq_true rfl, Nat.le_of_ble_eq_true rfl⟩ rfl rfl (sg_77 hs3)) ((t_X7_thrown hs3).mono (by omega) (fun _ _ z => z)) ?_
  rintro _ h0 ⟨rfl, e0⟩
  rw [e0]
  show Ex d [] tb_L_law (354, [some (.ref 0), some (.ref 1), some (.ref 77), some (.ref 94), some (.int i), some (.int r), u6, u7], [.int (h3.2.1 77 0)]) h3 _
  refine Ex.pure 1 (fr2 := (356, [some (.ref 0), some (.ref 1), some (.ref 77), some (.ref 94), some (.int i), some (.int r), u6, u7], [.int r, .int (h3.2.1 77 0)])) rfl ?_
  refine Ex.br (x := (361, [some (.ref 0), some (.ref 1), some (.ref 77), some (.ref 94), some (.int i), some (.int r), u6, u7], [])) (y := (359, [some (.ref 0), some (.ref 1), some (.ref 77), some (.ref 94), some (.int i), some (.int r), u6, u7], [])) (b := (h3.2.1 77 0) = r) rfl (fun _ => ?_) (fun hb => absurd (Int32.toInt_inj.mp (by rw [t3, hr])) hb)
  refine Ex.pure 1 (fr2 := (1799, [some (.ref 0), some (.ref 1), some (.ref 77), some (.ref 94), some (.int i), some (.int r), u6, u7], [])) rfl ?_
  exact kk h3 y2 c2 _ _ _ g1 g2 hs3 (by rw [F3.1]; exact hT2) ((F3.2.2 0 (by omega)).1.trans hx2) (I2.fm hs2 F3) J3 (by rw [F3.1]; exact F2.2.2.1) (by rw [F3.2.1]; exact F2.2.2.2)
set_option maxRecDepth 100000 in
theorem cs_number (hd : 70 ≤ d) (hs : Sg h.1 y) (hT : h.1[0]? = some (5, L, [])) (hx : h.2.1 0 = xs) (I : CI h y c S) (J : MI h S) (V : VA S) (LB : LBS S) (LD : LBD S) (hc : c + 10020 < 16384) (hi : i.toInt = k) (hk : k + 6 < L) (hL : L ≤ 3584) (kk : KL i L xs c h y (f_number (xs (k + 1)) (xs (k + 2)) (xs (k + 3)) S).2.2 d K E) : Ex d [] tb_L_law (364, [some (.ref 0), some (.ref 1), some (.ref 77), some (.ref 94), some (.int i), u5, u6, u7], []) h (Po K E) := by
  refine Ex.pure 5 (fr2 := (370, [some (.ref 0), some (.ref 1), some (.ref 77), some (.ref 94), some (.int i), u5, u6, u7], [.int (i + 1), .ref 0, .ref 1])) rfl ?_
  refine Ex.scr rfl hT hx (i_sc (l := 1) (j := 1) hi (by omega) rfl (by omega)) (by omega) ?_
  refine Ex.pure 4 (fr2 := (376, [some (.ref 0), some (.ref 1), some (.ref 77), some (.ref 94), some (.int i), u5, u6, u7], [.int (i + 2), .ref 0, .int (xs (k + 1)), .ref 1])) rfl ?_
  refine Ex.scr rfl hT hx (i_sc (l := 2) (j := 2) hi (by omega) rfl (by omega)) (by omega) ?_
  refine Ex.pure 4 (fr2 := (382, [some (.ref 0), some (.ref 1), some (.ref 77), some (.ref 94), some (.int i), u5, u6, u7], [.int (i + 3), .ref 0, .int (xs (k + 2)), .int (xs (k + 1)), .ref 1])) rfl ?_
  refine Ex.scr rfl hT hx (i_sc (l := 3) (j := 3) hi (by omega) rfl (by omega)) (by omega) ?_
  refine Ex.cal (rest := []) (j := m_L_number) (as := [.ref 1, .int (xs (k + 1)), .int (xs (k + 2)), .int (xs (k + 3))]) (fun c => rfl) (Ca.ty2 (lw_number (by omega) hs I V hc (fun r h2 y2 c2 g1 g2 I2 F2 hr ho t2 => ?_)))
  have hs2 := F2.1
  have hT2 := t2 0 L hT
  have hx2 : h2.2.1 0 = xs := (F2.2.1 0 (Or.inl rfl) (by omega)).1.trans hx
  have J2 := J.fw F2
  show Ex d [] tb_L_law (386, [some (.ref 0), some (.ref 1), some (.ref 77), some (.ref 94), some (.int i), u5, u6, u7], [.int r]) h2 _
  refine Ex.pure 6 (fr2 := (394, [some (.ref 0), some (.ref 1), some (.ref 77), some (.ref 94), some (.int i), some (.int r), u6, u7], [.int (i + 1), .ref 0, .ref 77])) rfl ?_
  refine Ex.scr rfl hT2 hx2 (i_sc (l := 1) (j := 1) hi (by omega) rfl (by omega)) (by omega) ?_
  refine Ex.pure 4 (fr2 := (400, [some (.ref 0), some (.ref 1), some (.ref 77), some (.ref 94), some (.int i), some (.int r), u6, u7], [.int (i + 2), .ref 0, .int (xs (k + 1)), .ref 77])) rfl ?_
  refine Ex.scr rfl hT2 hx2 (i_sc (l := 2) (j := 2) hi (by omega) rfl (by omega)) (by omega) ?_
  refine Ex.pure 4 (fr2 := (406, [some (.ref 0), some (.ref 1), some (.ref 77), some (.ref 94), some (.int i), some (.int r), u6, u7], [.int (i + 3), .ref 0, .int (xs (k + 2)), .int (xs (k + 1)), .ref 77])) rfl ?_
  refine Ex.scr rfl hT2 hx2 (i_sc (l := 3) (j := 3) hi (by omega) rfl (by omega)) (by omega) ?_
  refine Ex.cal (rest := []) (j := m_X7_number) (as := [.ref 77, .int (xs (k + 1)), .int (xs (k + 2)), .int (xs (k + 3))]) (vst (a := 155) (b := 4) (c := 6) (rest := []) (vs := [.int (xs (k + 1)), .int (xs (k + 2)), .int (xs (k + 3))]) rfl ⟨Nat.le_of_ble_eq_true rfl, Nat.le_of_ble_eq_true rfl⟩ rfl rfl (sg_77 hs2)) (m_number (by omega) hs2 J2  (fun rv h3 J3 F3 t3 hr3 => ?_))
  have hs3 := F3.sg hs2
  have hr3 : rv = none := hr3
  subst hr3
  show Ex d [] tb_L_law (410, [some (.ref 0), some (.ref 1), some (.ref 77), some (.ref 94), some (.int i), some (.int r), u6, u7], []) h3 _
  refine Ex.pure 1 (fr2 := (411, [some (.ref 0), some (.ref 1), some (.ref 77), some (.ref 94), some (.int i), some (.int r), u6, u7], [.ref 77])) rfl ?_
  refine Ex.ask (rest := []) (j := m_X7_thrown) (as := [.ref 77]) (vst (a := 113) (b := 1) (c := 6) (rest := []) (vs := []) rfl ⟨Nat.le_of_ble_eq_true rfl, Nat.le_of_ble_eq_true rfl⟩ rfl rfl (sg_77 hs3)) ((t_X7_thrown hs3).mono (by omega) (fun _ _ z => z)) ?_
  rintro _ h0 ⟨rfl, e0⟩
  rw [e0]
  show Ex d [] tb_L_law (414, [some (.ref 0), some (.ref 1), some (.ref 77), some (.ref 94), some (.int i), some (.int r), u6, u7], [.int (h3.2.1 77 0)]) h3 _
  refine Ex.pure 1 (fr2 := (416, [some (.ref 0), some (.ref 1), some (.ref 77), some (.ref 94), some (.int i), some (.int r), u6, u7], [.int r, .int (h3.2.1 77 0)])) rfl ?_
  refine Ex.br (x := (421, [some (.ref 0), some (.ref 1), some (.ref 77), some (.ref 94), some (.int i), some (.int r), u6, u7], [])) (y := (419, [some (.ref 0), some (.ref 1), some (.ref 77), some (.ref 94), some (.int i), some (.int r), u6, u7], [])) (b := (h3.2.1 77 0) = r) rfl (fun _ => ?_) (fun hb => absurd (Int32.toInt_inj.mp (by rw [t3, hr])) hb)
  refine Ex.pure 1 (fr2 := (1799, [some (.ref 0), some (.ref 1), some (.ref 77), some (.ref 94), some (.int i), some (.int r), u6, u7], [])) rfl ?_
  exact kk h3 y2 c2 _ _ _ g1 g2 hs3 (by rw [F3.1]; exact hT2) ((F3.2.2 0 (by omega)).1.trans hx2) (I2.fm hs2 F3) J3 (by rw [F3.1]; exact F2.2.2.1) (by rw [F3.2.1]; exact F2.2.2.2)
set_option maxRecDepth 100000 in
theorem cs_signs (hd : 70 ≤ d) (hs : Sg h.1 y) (hT : h.1[0]? = some (5, L, [])) (hx : h.2.1 0 = xs) (I : CI h y c S) (J : MI h S) (V : VA S) (LB : LBS S) (LD : LBD S) (hc : c + 10020 < 16384) (hi : i.toInt = k) (hk : k + 6 < L) (hL : L ≤ 3584) (kk : KL i L xs c h y (f_signs (xs (k + 1)) (xs (k + 2)) (xs (k + 3)) S).2.2 d K E) : Ex d [] tb_L_law (424, [some (.ref 0), some (.ref 1), some (.ref 77), some (.ref 94), some (.int i), u5, u6, u7], []) h (Po K E) := by
  refine Ex.pure 5 (fr2 := (430, [some (.ref 0), some (.ref 1), some (.ref 77), some (.ref 94), some (.int i), u5, u6, u7], [.int (i + 1), .ref 0, .ref 1])) rfl ?_
  refine Ex.scr rfl hT hx (i_sc (l := 1) (j := 1) hi (by omega) rfl (by omega)) (by omega) ?_
  refine Ex.pure 4 (fr2 := (436, [some (.ref 0), some (.ref 1), some (.ref 77), some (.ref 94), some (.int i), u5, u6, u7], [.int (i + 2), .ref 0, .int (xs (k + 1)), .ref 1])) rfl ?_
  refine Ex.scr rfl hT hx (i_sc (l := 2) (j := 2) hi (by omega) rfl (by omega)) (by omega) ?_
  refine Ex.pure 4 (fr2 := (442, [some (.ref 0), some (.ref 1), some (.ref 77), some (.ref 94), some (.int i), u5, u6, u7], [.int (i + 3), .ref 0, .int (xs (k + 2)), .int (xs (k + 1)), .ref 1])) rfl ?_
  refine Ex.scr rfl hT hx (i_sc (l := 3) (j := 3) hi (by omega) rfl (by omega)) (by omega) ?_
  refine Ex.cal (rest := []) (j := m_L_signs) (as := [.ref 1, .int (xs (k + 1)), .int (xs (k + 2)), .int (xs (k + 3))]) (fun c => rfl) (Ca.ty2 (lw_signs (by omega) hs I V hc (fun r h2 y2 c2 g1 g2 I2 F2 hr ho t2 => ?_)))
  have hs2 := F2.1
  have hT2 := t2 0 L hT
  have hx2 : h2.2.1 0 = xs := (F2.2.1 0 (Or.inl rfl) (by omega)).1.trans hx
  have J2 := J.fw F2
  show Ex d [] tb_L_law (446, [some (.ref 0), some (.ref 1), some (.ref 77), some (.ref 94), some (.int i), u5, u6, u7], [.int r]) h2 _
  refine Ex.pure 6 (fr2 := (454, [some (.ref 0), some (.ref 1), some (.ref 77), some (.ref 94), some (.int i), some (.int r), u6, u7], [.int (i + 1), .ref 0, .ref 77])) rfl ?_
  refine Ex.scr rfl hT2 hx2 (i_sc (l := 1) (j := 1) hi (by omega) rfl (by omega)) (by omega) ?_
  refine Ex.pure 4 (fr2 := (460, [some (.ref 0), some (.ref 1), some (.ref 77), some (.ref 94), some (.int i), some (.int r), u6, u7], [.int (i + 2), .ref 0, .int (xs (k + 1)), .ref 77])) rfl ?_
  refine Ex.scr rfl hT2 hx2 (i_sc (l := 2) (j := 2) hi (by omega) rfl (by omega)) (by omega) ?_
  refine Ex.pure 4 (fr2 := (466, [some (.ref 0), some (.ref 1), some (.ref 77), some (.ref 94), some (.int i), some (.int r), u6, u7], [.int (i + 3), .ref 0, .int (xs (k + 2)), .int (xs (k + 1)), .ref 77])) rfl ?_
  refine Ex.scr rfl hT2 hx2 (i_sc (l := 3) (j := 3) hi (by omega) rfl (by omega)) (by omega) ?_
  refine Ex.cal (rest := []) (j := m_X7_signs) (as := [.ref 77, .int (xs (k + 1)), .int (xs (k + 2)), .int (xs (k + 3))]) (vst (a := 156) (b := 4) (c := 6) (rest := []) (vs := [.int (xs (k + 1)), .int (xs (k + 2)), .int (xs (k + 3))]) rfl ⟨Nat.le_of_ble_eq_true rfl, Nat.le_of_ble_eq_true rfl⟩ rfl rfl (sg_77 hs2)) (m_signs (by omega) hs2 J2  (fun rv h3 J3 F3 t3 hr3 => ?_))
  have hs3 := F3.sg hs2
  have hr3 : rv = none := hr3
  subst hr3
  show Ex d [] tb_L_law (470, [some (.ref 0), some (.ref 1), some (.ref 77), some (.ref 94), some (.int i), some (.int r), u6, u7], []) h3 _
  refine Ex.pure 1 (fr2 := (471, [some (.ref 0), some (.ref 1), some (.ref 77), some (.ref 94), some (.int i), some (.int r), u6, u7], [.ref 77])) rfl ?_
  refine Ex.ask (rest := []) (j := m_X7_thrown) (as := [.ref 77]) (vst (a := 113) (b := 1) (c := 6) (rest := []) (vs := []) rfl ⟨Nat.le_of_ble_eq_true rfl, Nat.le_of_ble_eq_true rfl⟩ rfl rfl (sg_77 hs3)) ((t_X7_thrown hs3).mono (by omega) (fun _ _ z => z)) ?_
  rintro _ h0 ⟨rfl, e0⟩
  rw [e0]
  show Ex d [] tb_L_law (474, [some (.ref 0), some (.ref 1), some (.ref 77), some (.ref 94), some (.int i), some (.int r), u6, u7], [.int (h3.2.1 77 0)]) h3 _
  refine Ex.pure 1 (fr2 := (476, [some (.ref 0), some (.ref 1), some (.ref 77), some (.ref 94), some (.int i), some (.int r), u6, u7], [.int r, .int (h3.2.1 77 0)])) rfl ?_
  refine Ex.br (x := (481, [some (.ref 0), some (.ref 1), some (.ref 77), some (.ref 94), some (.int i), some (.int r), u6, u7], [])) (y := (479, [some (.ref 0), some (.ref 1), some (.ref 77), some (.ref 94), some (.int i), some (.int r), u6, u7], [])) (b := (h3.2.1 77 0) = r) rfl (fun _ => ?_) (fun hb => absurd (Int32.toInt_inj.mp (by rw [t3, hr])) hb)
  refine Ex.pure 1 (fr2 := (1799, [some (.ref 0), some (.ref 1), some (.ref 77), some (.ref 94), some (.int i), some (.int r), u6, u7], [])) rfl ?_
  exact kk h3 y2 c2 _ _ _ g1 g2 hs3 (by rw [F3.1]; exact hT2) ((F3.2.2 0 (by omega)).1.trans hx2) (I2.fm hs2 F3) J3 (by rw [F3.1]; exact F2.2.2.1) (by rw [F3.2.1]; exact F2.2.2.2)
set_option maxRecDepth 100000 in
theorem cs_term (hd : 70 ≤ d) (hs : Sg h.1 y) (hT : h.1[0]? = some (5, L, [])) (hx : h.2.1 0 = xs) (I : CI h y c S) (J : MI h S) (V : VA S) (LB : LBS S) (LD : LBD S) (hc : c + 10020 < 16384) (hi : i.toInt = k) (hk : k + 6 < L) (hL : L ≤ 3584) (kk : KL i L xs c h y (f_term (xs (k + 1)) (xs (k + 2)) (xs (k + 3)) (xs (k + 4)) (xs (k + 5)) (xs (k + 6)) S).2.2 d K E) : Ex d [] tb_L_law (484, [some (.ref 0), some (.ref 1), some (.ref 77), some (.ref 94), some (.int i), u5, u6, u7], []) h (Po K E) := by
  refine Ex.pure 5 (fr2 := (490, [some (.ref 0), some (.ref 1), some (.ref 77), some (.ref 94), some (.int i), u5, u6, u7], [.int (i + 1), .ref 0, .ref 1])) rfl ?_
  refine Ex.scr rfl hT hx (i_sc (l := 1) (j := 1) hi (by omega) rfl (by omega)) (by omega) ?_
  refine Ex.pure 4 (fr2 := (496, [some (.ref 0), some (.ref 1), some (.ref 77), some (.ref 94), some (.int i), u5, u6, u7], [.int (i + 2), .ref 0, .int (xs (k + 1)), .ref 1])) rfl ?_
  refine Ex.scr rfl hT hx (i_sc (l := 2) (j := 2) hi (by omega) rfl (by omega)) (by omega) ?_
  refine Ex.pure 4 (fr2 := (502, [some (.ref 0), some (.ref 1), some (.ref 77), some (.ref 94), some (.int i), u5, u6, u7], [.int (i + 3), .ref 0, .int (xs (k + 2)), .int (xs (k + 1)), .ref 1])) rfl ?_
  refine Ex.scr rfl hT hx (i_sc (l := 3) (j := 3) hi (by omega) rfl (by omega)) (by omega) ?_
  refine Ex.pure 4 (fr2 := (508, [some (.ref 0), some (.ref 1), some (.ref 77), some (.ref 94), some (.int i), u5, u6, u7], [.int (i + 4), .ref 0, .int (xs (k + 3)), .int (xs (k + 2)), .int (xs (k + 1)), .ref 1])) rfl ?_
  refine Ex.scr rfl hT hx (i_sc (l := 4) (j := 4) hi (by omega) rfl (by omega)) (by omega) ?_
  refine Ex.pure 4 (fr2 := (514, [some (.ref 0), some (.ref 1), some (.ref 77), some (.ref 94), some (.int i), u5, u6, u7], [.int (i + 5), .ref 0, .int (xs (k + 4)), .int (xs (k + 3)), .int (xs (k + 2)), .int (xs (k + 1)), .ref 1])) rfl ?_
  refine Ex.scr rfl hT hx (i_sc (l := 5) (j := 5) hi (by omega) rfl (by omega)) (by omega) ?_
  refine Ex.pure 4 (fr2 := (521, [some (.ref 0), some (.ref 1), some (.ref 77), some (.ref 94), some (.int i), u5, u6, u7], [.int (i + 6), .ref 0, .int (xs (k + 5)), .int (xs (k + 4)), .int (xs (k + 3)), .int (xs (k + 2)), .int (xs (k + 1)), .ref 1])) rfl ?_
  refine Ex.scr rfl hT hx (i_sc (l := 6) (j := 6) hi (by omega) rfl (by omega)) (by omega) ?_
  refine Ex.cal (rest := []) (j := m_L_term) (as := [.ref 1, .int (xs (k + 1)), .int (xs (k + 2)), .int (xs (k + 3)), .int (xs (k + 4)), .int (xs (k + 5)), .int (xs (k + 6))]) (fun c => rfl) (Ca.ty2 (lw_term (by omega) hs I V hc (fun r h2 y2 c2 g1 g2 I2 F2 hr ho t2 => ?_)))
  have hs2 := F2.1
  have hT2 := t2 0 L hT
  have hx2 : h2.2.1 0 = xs := (F2.2.1 0 (Or.inl rfl) (by omega)).1.trans hx
  have J2 := J.fw F2
  show Ex d [] tb_L_law (525, [some (.ref 0), some (.ref 1), some (.ref 77), some (.ref 94), some (.int i), u5, u6, u7], [.int r]) h2 _
  refine Ex.pure 6 (fr2 := (533, [some (.ref 0), some (.ref 1), some (.ref 77), some (.ref 94), some (.int i), some (.int r), u6, u7], [.int (i + 1), .ref 0, .ref 77])) rfl ?_
  refine Ex.scr rfl hT2 hx2 (i_sc (l := 1) (j := 1) hi (by omega) rfl (by omega)) (by omega) ?_
  refine Ex.pure 4 (fr2 := (539, [some (.ref 0), some (.ref 1), some (.ref 77), some (.ref 94), some (.int i), some (.int r), u6, u7], [.int (i + 2), .ref 0, .int (xs (k + 1)), .ref 77])) rfl ?_
  refine Ex.scr rfl hT2 hx2 (i_sc (l := 2) (j := 2) hi (by omega) rfl (by omega)) (by omega) ?_
  refine Ex.pure 4 (fr2 := (545, [some (.ref 0), some (.ref 1), some (.ref 77), some (.ref 94), some (.int i), some (.int r), u6, u7], [.int (i + 3), .ref 0, .int (xs (k + 2)), .int (xs (k + 1)), .ref 77])) rfl ?_
  refine Ex.scr rfl hT2 hx2 (i_sc (l := 3) (j := 3) hi (by omega) rfl (by omega)) (by omega) ?_
  refine Ex.pure 4 (fr2 := (551, [some (.ref 0), some (.ref 1), some (.ref 77), some (.ref 94), some (.int i), some (.int r), u6, u7], [.int (i + 4), .ref 0, .int (xs (k + 3)), .int (xs (k + 2)), .int (xs (k + 1)), .ref 77])) rfl ?_
  refine Ex.scr rfl hT2 hx2 (i_sc (l := 4) (j := 4) hi (by omega) rfl (by omega)) (by omega) ?_
  refine Ex.pure 4 (fr2 := (557, [some (.ref 0), some (.ref 1), some (.ref 77), some (.ref 94), some (.int i), some (.int r), u6, u7], [.int (i + 5), .ref 0, .int (xs (k + 4)), .int (xs (k + 3)), .int (xs (k + 2)), .int (xs (k + 1)), .ref 77])) rfl ?_
  refine Ex.scr rfl hT2 hx2 (i_sc (l := 5) (j := 5) hi (by omega) rfl (by omega)) (by omega) ?_
  refine Ex.pure 4 (fr2 := (564, [some (.ref 0), some (.ref 1), some (.ref 77), some (.ref 94), some (.int i), some (.int r), u6, u7], [.int (i + 6), .ref 0, .int (xs (k + 5)), .int (xs (k + 4)), .int (xs (k + 3)), .int (xs (k + 2)), .int (xs (k + 1)), .ref 77])) rfl ?_
  refine Ex.scr rfl hT2 hx2 (i_sc (l := 6) (j := 6) hi (by omega) rfl (by omega)) (by omega) ?_
  refine Ex.cal (rest := []) (j := m_X7_term) (as := [.ref 77, .int (xs (k + 1)), .int (xs (k + 2)), .int (xs (k + 3)), .int (xs (k + 4)), .int (xs (k + 5)), .int (xs (k + 6))]) (vst (a := 157) (b := 7) (c := 6) (rest := []) (vs := [.int (xs (k + 1)), .int (xs (k + 2)), .int (xs (k + 3)), .int (xs (k + 4)), .int (xs (k + 5)), .int (xs (k + 6))]) rfl ⟨Nat.le_of_ble_eq_true rfl, Nat.le_of_ble_eq_true rfl⟩ rfl rfl (sg_77 hs2)) (m_term (by omega) hs2 J2  (fun rv h3 J3 F3 t3 hr3 => ?_))
  have hs3 := F3.sg hs2
  have hr3 : rv = none := hr3
  subst hr3
  show Ex d [] tb_L_law (568, [some (.ref 0), some (.ref 1), some (.ref 77), some (.ref 94), some (.int i), some (.int r), u6, u7], []) h3 _
  refine Ex.pure 1 (fr2 := (569, [some (.ref 0), some (.ref 1), some (.ref 77), some (.ref 94), some (.int i), some (.int r), u6, u7], [.ref 77])) rfl ?_
  refine Ex.ask (rest := []) (j := m_X7_thrown) (as := [.ref 77]) (vst (a := 113) (b := 1) (c := 6) (rest := []) (vs := []) rfl ⟨Nat.le_of_ble_eq_true rfl, Nat.le_of_ble_eq_true rfl⟩ rfl rfl (sg_77 hs3)) ((t_X7_thrown hs3).mono (by omega) (fun _ _ z => z)) ?_
  rintro _ h0 ⟨rfl, e0⟩
  rw [e0]
  show Ex d [] tb_L_law (572, [some (.ref 0), some (.ref 1), some (.ref 77), some (.ref 94), some (.int i), some (.int r), u6, u7], [.int (h3.2.1 77 0)]) h3 _
  refine Ex.pure 1 (fr2 := (574, [some (.ref 0), some (.ref 1), some (.ref 77), some (.ref 94), some (.int i), some (.int r), u6, u7], [.int r, .int (h3.2.1 77 0)])) rfl ?_
  refine Ex.br (x := (579, [some (.ref 0), some (.ref 1), some (.ref 77), some (.ref 94), some (.int i), some (.int r), u6, u7], [])) (y := (577, [some (.ref 0), some (.ref 1), some (.ref 77), some (.ref 94), some (.int i), some (.int r), u6, u7], [])) (b := (h3.2.1 77 0) = r) rfl (fun _ => ?_) (fun hb => absurd (Int32.toInt_inj.mp (by rw [t3, hr])) hb)
  refine Ex.pure 1 (fr2 := (1799, [some (.ref 0), some (.ref 1), some (.ref 77), some (.ref 94), some (.int i), some (.int r), u6, u7], [])) rfl ?_
  exact kk h3 y2 c2 _ _ _ g1 g2 hs3 (by rw [F3.1]; exact hT2) ((F3.2.2 0 (by omega)).1.trans hx2) (I2.fm hs2 F3) J3 (by rw [F3.1]; exact F2.2.2.1) (by rw [F3.2.1]; exact F2.2.2.2)
set_option maxRecDepth 100000 in
theorem cs_sum (hd : 70 ≤ d) (hs : Sg h.1 y) (hT : h.1[0]? = some (5, L, [])) (hx : h.2.1 0 = xs) (I : CI h y c S) (J : MI h S) (V : VA S) (LB : LBS S) (LD : LBD S) (hc : c + 10020 < 16384) (hi : i.toInt = k) (hk : k + 6 < L) (hL : L ≤ 3584) (kk : KL i L xs c h y (f_sum (xs (k + 1)) (xs (k + 2)) (xs (k + 3)) S).2.2 d K E) : Ex d [] tb_L_law (582, [some (.ref 0), some (.ref 1), some (.ref 77), some (.ref 94), some (.int i), u5, u6, u7], []) h (Po K E) := by
  refine Ex.pure 5 (fr2 := (588, [some (.ref 0), some (.ref 1), some (.ref 77), some (.ref 94), some (.int i), u5, u6, u7], [.int (i + 1), .ref 0, .ref 1])) rfl ?_
  refine Ex.scr rfl hT hx (i_sc (l := 1) (j := 1) hi (by omega) rfl (by omega)) (by omega) ?_
  refine Ex.pure 4 (fr2 := (594, [some (.ref 0), some (.ref 1), some (.ref 77), some (.ref 94), some (.int i), u5, u6, u7], [.int (i + 2), .ref 0, .int (xs (k + 1)), .ref 1])) rfl ?_
  refine Ex.scr rfl hT hx (i_sc (l := 2) (j := 2) hi (by omega) rfl (by omega)) (by omega) ?_
  refine Ex.pure 4 (fr2 := (600, [some (.ref 0), some (.ref 1), some (.ref 77), some (.ref 94), some (.int i), u5, u6, u7], [.int (i + 3), .ref 0, .int (xs (k + 2)), .int (xs (k + 1)), .ref 1])) rfl ?_
  refine Ex.scr rfl hT hx (i_sc (l := 3) (j := 3) hi (by omega) rfl (by omega)) (by omega) ?_
  refine Ex.pure 1 (fr2 := (602, [some (.ref 0), some (.ref 1), some (.ref 77), some (.ref 94), some (.int i), u5, u6, u7], [.ref 94, .int (xs (k + 3)), .int (xs (k + 2)), .int (xs (k + 1)), .ref 1])) rfl ?_
  refine Ex.cal (rest := []) (j := m_L_sum) (as := [.ref 1, .int (xs (k + 1)), .int (xs (k + 2)), .int (xs (k + 3)), .ref 94]) (fun c => rfl) (Ca.ty2 (lw_sum (by omega) hs I V hc (fun r h2 y2 c2 g1 g2 I2 F2 hr ho t2 => ?_)))
  have hs2 := F2.1
  have hT2 := t2 0 L hT
  have hx2 : h2.2.1 0 = xs := (F2.2.1 0 (Or.inl rfl) (by omega)).1.trans hx
  have J2 := J.fw F2
  show Ex d [] tb_L_law (605, [some (.ref 0), some (.ref 1), some (.ref 77), some (.ref 94), some (.int i), u5, u6, u7], [.int r]) h2 _
  refine Ex.pure 6 (fr2 := (613, [some (.ref 0), some (.ref 1), some (.ref 77), some (.ref 94), some (.int i), some (.int r), u6, u7], [.int (i + 1), .ref 0, .ref 77])) rfl ?_
  refine Ex.scr rfl hT2 hx2 (i_sc (l := 1) (j := 1) hi (by omega) rfl (by omega)) (by omega) ?_
  refine Ex.pure 4 (fr2 := (619, [some (.ref 0), some (.ref 1), some (.ref 77), some (.ref 94), some (.int i), some (.int r), u6, u7], [.int (i + 2), .ref 0, .int (xs (k + 1)), .ref 77])) rfl ?_
  refine Ex.scr rfl hT2 hx2 (i_sc (l := 2) (j := 2) hi (by omega) rfl (by omega)) (by omega) ?_
  refine Ex.pure 4 (fr2 := (625, [some (.ref 0), some (.ref 1), some (.ref 77), some (.ref 94), some (.int i), some (.int r), u6, u7], [.int (i + 3), .ref 0, .int (xs (k + 2)), .int (xs (k + 1)), .ref 77])) rfl ?_
  refine Ex.scr rfl hT2 hx2 (i_sc (l := 3) (j := 3) hi (by omega) rfl (by omega)) (by omega) ?_
  refine Ex.cal (rest := []) (j := m_X7_sum) (as := [.ref 77, .int (xs (k + 1)), .int (xs (k + 2)), .int (xs (k + 3))]) (vst (a := 164) (b := 4) (c := 6) (rest := []) (vs := [.int (xs (k + 1)), .int (xs (k + 2)), .int (xs (k + 3))]) rfl ⟨Nat.le_of_ble_eq_true rfl, Nat.le_of_ble_eq_true rfl⟩ rfl rfl (sg_77 hs2)) (m_sum (by omega) hs2 J2 V.2.1 V.2.2 V.1 LB (fun rv h3 J3 F3 t3 hr3 => ?_))
  have hs3 := F3.sg hs2
  obtain ⟨b, rfl, hb3⟩ := hr3
  show Ex d [] tb_L_law (629, [some (.ref 0), some (.ref 1), some (.ref 77), some (.ref 94), some (.int i), some (.int r), u6, u7], [.int b]) h3 _
  refine Ex.pure 2 (fr2 := (632, [some (.ref 0), some (.ref 1), some (.ref 77), some (.ref 94), some (.int i), some (.int r), some (.int b), u7], [.ref 77])) rfl ?_
  refine Ex.ask (rest := []) (j := m_X7_thrown) (as := [.ref 77]) (vst (a := 113) (b := 1) (c := 6) (rest := []) (vs := []) rfl ⟨Nat.le_of_ble_eq_true rfl, Nat.le_of_ble_eq_true rfl⟩ rfl rfl (sg_77 hs3)) ((t_X7_thrown hs3).mono (by omega) (fun _ _ z => z)) ?_
  rintro _ h0 ⟨rfl, e0⟩
  rw [e0]
  show Ex d [] tb_L_law (635, [some (.ref 0), some (.ref 1), some (.ref 77), some (.ref 94), some (.int i), some (.int r), some (.int b), u7], [.int (h3.2.1 77 0)]) h3 _
  refine Ex.pure 1 (fr2 := (637, [some (.ref 0), some (.ref 1), some (.ref 77), some (.ref 94), some (.int i), some (.int r), some (.int b), u7], [.int r, .int (h3.2.1 77 0)])) rfl ?_
  refine Ex.br (x := (642, [some (.ref 0), some (.ref 1), some (.ref 77), some (.ref 94), some (.int i), some (.int r), some (.int b), u7], [])) (y := (640, [some (.ref 0), some (.ref 1), some (.ref 77), some (.ref 94), some (.int i), some (.int r), some (.int b), u7], [])) (b := (h3.2.1 77 0) = r) rfl (fun _ => ?_) (fun hb => absurd (Int32.toInt_inj.mp (by rw [t3, hr])) hb)
  refine Ex.pure 1 (fr2 := (644, [some (.ref 0), some (.ref 1), some (.ref 77), some (.ref 94), some (.int i), some (.int r), some (.int b), u7], [.int r])) rfl ?_
  refine Ex.br (x := (659, [some (.ref 0), some (.ref 1), some (.ref 77), some (.ref 94), some (.int i), some (.int r), some (.int b), u7], [])) (y := (647, [some (.ref 0), some (.ref 1), some (.ref 77), some (.ref 94), some (.int i), some (.int r), some (.int b), u7], [])) (b := ¬ r = 0) rfl (fun _ => ?_) (fun hb => ?_)
  · skip
    refine Ex.pure 1 (fr2 := (1799, [some (.ref 0), some (.ref 1), some (.ref 77), some (.ref 94), some (.int i), some (.int r), some (.int b), u7], [])) rfl ?_
    exact kk h3 y2 c2 _ _ _ g1 g2 hs3 (by rw [F3.1]; exact hT2) ((F3.2.2 0 (by omega)).1.trans hx2) (I2.fm hs2 F3) J3 (by rw [F3.1]; exact F2.2.2.1) (by rw [F3.2.1]; exact F2.2.2.2)
  · have h0 : (f_sum (xs (k + 1)) (xs (k + 2)) (xs (k + 3)) S).1 = 0 := by
      have := i_ne.mp (Classical.not_not.mp hb)
      omega
    have q1 : (h3.2.2.1 94 0).toInt = (f_sum (xs (k + 1)) (xs (k + 2)) (xs (k + 3)) S).2.1 := by
      rw [(F3.2.2 94 (by omega)).2]
      exact ho h0 (by decide)
    have q2 := hb3 h0
    refine Ex.pure 2 (fr2 := (649, [some (.ref 0), some (.ref 1), some (.ref 77), some (.ref 94), some (.int i), some (.int r), some (.int b), u7], [.int 0, .ref 94])) rfl ?_
    refine Ex.lald rfl (sg_94 hs3) (by decide) ?_
    show Ex d [] tb_L_law (650, [some (.ref 0), some (.ref 1), some (.ref 77), some (.ref 94), some (.int i), some (.int r), some (.int b), u7], [.long (h3.2.2.1 94 0)]) h3 _
    refine Ex.pure 3 (fr2 := (654, [some (.ref 0), some (.ref 1), some (.ref 77), some (.ref 94), some (.int i), some (.int r), some (.int b), u7], [.int (lg_cmp (h3.2.2.1 94 0) ((b).toInt64))])) rfl ?_
    refine Ex.br (x := (659, [some (.ref 0), some (.ref 1), some (.ref 77), some (.ref 94), some (.int i), some (.int r), some (.int b), u7], [])) (y := (657, [some (.ref 0), some (.ref 1), some (.ref 77), some (.ref 94), some (.int i), some (.int r), some (.int b), u7], [])) (b := (lg_cmp (h3.2.2.1 94 0) ((b).toInt64)) = 0) rfl (fun _ => ?_) (fun hb => absurd ((lg_cmp_eq _ _).mpr (Int64.toInt_inj.mp (by rw [i_2j, q1, q2]))) hb)
    refine Ex.pure 1 (fr2 := (1799, [some (.ref 0), some (.ref 1), some (.ref 77), some (.ref 94), some (.int i), some (.int r), some (.int b), u7], [])) rfl ?_
    exact kk h3 y2 c2 _ _ _ g1 g2 hs3 (by rw [F3.1]; exact hT2) ((F3.2.2 0 (by omega)).1.trans hx2) (I2.fm hs2 F3) J3 (by rw [F3.1]; exact F2.2.2.1) (by rw [F3.2.1]; exact F2.2.2.2)
set_option maxRecDepth 100000 in
theorem cs_product (hd : 70 ≤ d) (hs : Sg h.1 y) (hT : h.1[0]? = some (5, L, [])) (hx : h.2.1 0 = xs) (I : CI h y c S) (J : MI h S) (V : VA S) (LB : LBS S) (LD : LBD S) (hc : c + 10020 < 16384) (hi : i.toInt = k) (hk : k + 6 < L) (hL : L ≤ 3584) (kk : KL i L xs c h y (f_product (xs (k + 1)) (xs (k + 2)) (xs (k + 3)) S).2.2 d K E) : Ex d [] tb_L_law (662, [some (.ref 0), some (.ref 1), some (.ref 77), some (.ref 94), some (.int i), u5, u6, u7], []) h (Po K E) := by
  refine Ex.pure 5 (fr2 := (668, [some (.ref 0), some (.ref 1), some (.ref 77), some (.ref 94), some (.int i), u5, u6, u7], [.int (i + 1), .ref 0, .ref 1])) rfl ?_
  refine Ex.scr rfl hT hx (i_sc (l := 1) (j := 1) hi (by omega) rfl (by omega)) (by omega) ?_
  refine Ex.pure 4 (fr2 := (674, [some (.ref 0), some (.ref 1), some (.ref 77), some (.ref 94), some (.int i), u5, u6, u7], [.int (i + 2), .ref 0, .int (xs (k + 1)), .ref 1])) rfl ?_
  refine Ex.scr rfl hT hx (i_sc (l := 2) (j := 2) hi (by omega) rfl (by omega)) (by omega) ?_
  refine Ex.pure 4 (fr2 := (680, [some (.ref 0), some (.ref 1), some (.ref 77), some (.ref 94), some (.int i), u5, u6, u7], [.int (i + 3), .ref 0, .int (xs (k + 2)), .int (xs (k + 1)), .ref 1])) rfl ?_
  refine Ex.scr rfl hT hx (i_sc (l := 3) (j := 3) hi (by omega) rfl (by omega)) (by omega) ?_
  refine Ex.pure 1 (fr2 := (682, [some (.ref 0), some (.ref 1), some (.ref 77), some (.ref 94), some (.int i), u5, u6, u7], [.ref 94, .int (xs (k + 3)), .int (xs (k + 2)), .int (xs (k + 1)), .ref 1])) rfl ?_
  refine Ex.cal (rest := []) (j := m_L_product) (as := [.ref 1, .int (xs (k + 1)), .int (xs (k + 2)), .int (xs (k + 3)), .ref 94]) (fun c => rfl) (Ca.ty2 (lw_product (by omega) hs I V hc (fun r h2 y2 c2 g1 g2 I2 F2 hr ho t2 => ?_)))
  have hs2 := F2.1
  have hT2 := t2 0 L hT
  have hx2 : h2.2.1 0 = xs := (F2.2.1 0 (Or.inl rfl) (by omega)).1.trans hx
  have J2 := J.fw F2
  show Ex d [] tb_L_law (685, [some (.ref 0), some (.ref 1), some (.ref 77), some (.ref 94), some (.int i), u5, u6, u7], [.int r]) h2 _
  refine Ex.pure 6 (fr2 := (693, [some (.ref 0), some (.ref 1), some (.ref 77), some (.ref 94), some (.int i), some (.int r), u6, u7], [.int (i + 1), .ref 0, .ref 77])) rfl ?_
  refine Ex.scr rfl hT2 hx2 (i_sc (l := 1) (j := 1) hi (by omega) rfl (by omega)) (by omega) ?_
  refine Ex.pure 4 (fr2 := (699, [some (.ref 0), some (.ref 1), some (.ref 77), some (.ref 94), some (.int i), some (.int r), u6, u7], [.int (i + 2), .ref 0, .int (xs (k + 1)), .ref 77])) rfl ?_
  refine Ex.scr rfl hT2 hx2 (i_sc (l := 2) (j := 2) hi (by omega) rfl (by omega)) (by omega) ?_
  refine Ex.pure 4 (fr2 := (705, [some (.ref 0), some (.ref 1), some (.ref 77), some (.ref 94), some (.int i), some (.int r), u6, u7], [.int (i + 3), .ref 0, .int (xs (k + 2)), .int (xs (k + 1)), .ref 77])) rfl ?_
  refine Ex.scr rfl hT2 hx2 (i_sc (l := 3) (j := 3) hi (by omega) rfl (by omega)) (by omega) ?_
  refine Ex.cal (rest := []) (j := m_X7_product) (as := [.ref 77, .int (xs (k + 1)), .int (xs (k + 2)), .int (xs (k + 3))]) (vst (a := 166) (b := 4) (c := 6) (rest := []) (vs := [.int (xs (k + 1)), .int (xs (k + 2)), .int (xs (k + 3))]) rfl ⟨Nat.le_of_ble_eq_true rfl, Nat.le_of_ble_eq_true rfl⟩ rfl rfl (sg_77 hs2)) (m_product (by omega) hs2 J2 V.2.1 V.2.2 V.1 LB (fun rv h3 J3 F3 t3 hr3 => ?_))
  have hs3 := F3.sg hs2
  obtain ⟨b, rfl, hb3⟩ := hr3
  show Ex d [] tb_L_law (709, [some (.ref 0), some (.ref 1), some (.ref 77), some (.ref 94), some (.int i), some (.int r), u6, u7], [.int b]) h3 _
  refine Ex.pure 2 (fr2 := (712, [some (.ref 0), some (.ref 1), some (.ref 77), some (.ref 94), some (.int i), some (.int r), some (.int b), u7], [.ref 77])) rfl ?_
  refine Ex.ask (rest := []) (j := m_X7_thrown) (as := [.ref 77]) (vst (a := 113) (b := 1) (c := 6) (rest := []) (vs := []) rfl ⟨Nat.le_of_ble_eq_true rfl, Nat.le_of_ble_eq_true rfl⟩ rfl rfl (sg_77 hs3)) ((t_X7_thrown hs3).mono (by omega) (fun _ _ z => z)) ?_
  rintro _ h0 ⟨rfl, e0⟩
  rw [e0]
  show Ex d [] tb_L_law (715, [some (.ref 0), some (.ref 1), some (.ref 77), some (.ref 94), some (.int i), some (.int r), some (.int b), u7], [.int (h3.2.1 77 0)]) h3 _
  refine Ex.pure 1 (fr2 := (717, [some (.ref 0), some (.ref 1), some (.ref 77), some (.ref 94), some (.int i), some (.int r), some (.int b), u7], [.int r, .int (h3.2.1 77 0)])) rfl ?_
  refine Ex.br (x := (722, [some (.ref 0), some (.ref 1), some (.ref 77), some (.ref 94), some (.int i), some (.int r), some (.int b), u7], [])) (y := (720, [some (.ref 0), some (.ref 1), some (.ref 77), some (.ref 94), some (.int i), some (.int r), some (.int b), u7], [])) (b := (h3.2.1 77 0) = r) rfl (fun _ => ?_) (fun hb => absurd (Int32.toInt_inj.mp (by rw [t3, hr])) hb)
  refine Ex.pure 1 (fr2 := (724, [some (.ref 0), some (.ref 1), some (.ref 77), some (.ref 94), some (.int i), some (.int r), some (.int b), u7], [.int r])) rfl ?_
  refine Ex.br (x := (739, [some (.ref 0), some (.ref 1), some (.ref 77), some (.ref 94), some (.int i), some (.int r), some (.int b), u7], [])) (y := (727, [some (.ref 0), some (.ref 1), some (.ref 77), some (.ref 94), some (.int i), some (.int r), some (.int b), u7], [])) (b := ¬ r = 0) rfl (fun _ => ?_) (fun hb => ?_)
  · skip
    refine Ex.pure 1 (fr2 := (1799, [some (.ref 0), some (.ref 1), some (.ref 77), some (.ref 94), some (.int i), some (.int r), some (.int b), u7], [])) rfl ?_
    exact kk h3 y2 c2 _ _ _ g1 g2 hs3 (by rw [F3.1]; exact hT2) ((F3.2.2 0 (by omega)).1.trans hx2) (I2.fm hs2 F3) J3 (by rw [F3.1]; exact F2.2.2.1) (by rw [F3.2.1]; exact F2.2.2.2)
  · have h0 : (f_product (xs (k + 1)) (xs (k + 2)) (xs (k + 3)) S).1 = 0 := by
      have := i_ne.mp (Classical.not_not.mp hb)
      omega
    have q1 : (h3.2.2.1 94 0).toInt = (f_product (xs (k + 1)) (xs (k + 2)) (xs (k + 3)) S).2.1 := by
      rw [(F3.2.2 94 (by omega)).2]
      exact ho h0 (by decide)
    have q2 := hb3 h0
    refine Ex.pure 2 (fr2 := (729, [some (.ref 0), some (.ref 1), some (.ref 77), some (.ref 94), some (.int i), some (.int r), some (.int b), u7], [.int 0, .ref 94])) rfl ?_
    refine Ex.lald rfl (sg_94 hs3) (by decide) ?_
    show Ex d [] tb_L_law (730, [some (.ref 0), some (.ref 1), some (.ref 77), some (.ref 94), some (.int i), some (.int r), some (.int b), u7], [.long (h3.2.2.1 94 0)]) h3 _
    refine Ex.pure 3 (fr2 := (734, [some (.ref 0), some (.ref 1), some (.ref 77), some (.ref 94), some (.int i), some (.int r), some (.int b), u7], [.int (lg_cmp (h3.2.2.1 94 0) ((b).toInt64))])) rfl ?_
    refine Ex.br (x := (739, [some (.ref 0), some (.ref 1), some (.ref 77), some (.ref 94), some (.int i), some (.int r), some (.int b), u7], [])) (y := (737, [some (.ref 0), some (.ref 1), some (.ref 77), some (.ref 94), some (.int i), some (.int r), some (.int b), u7], [])) (b := (lg_cmp (h3.2.2.1 94 0) ((b).toInt64)) = 0) rfl (fun _ => ?_) (fun hb => absurd ((lg_cmp_eq _ _).mpr (Int64.toInt_inj.mp (by rw [i_2j, q1, q2]))) hb)
    refine Ex.pure 1 (fr2 := (1799, [some (.ref 0), some (.ref 1), some (.ref 77), some (.ref 94), some (.int i), some (.int r), some (.int b), u7], [])) rfl ?_
    exact kk h3 y2 c2 _ _ _ g1 g2 hs3 (by rw [F3.1]; exact hT2) ((F3.2.2 0 (by omega)).1.trans hx2) (I2.fm hs2 F3) J3 (by rw [F3.1]; exact F2.2.2.1) (by rw [F3.2.1]; exact F2.2.2.2)
set_option maxRecDepth 100000 in
theorem cs_difference (hd : 70 ≤ d) (hs : Sg h.1 y) (hT : h.1[0]? = some (5, L, [])) (hx : h.2.1 0 = xs) (I : CI h y c S) (J : MI h S) (V : VA S) (LB : LBS S) (LD : LBD S) (hc : c + 10020 < 16384) (hi : i.toInt = k) (hk : k + 6 < L) (hL : L ≤ 3584) (kk : KL i L xs c h y (f_difference (xs (k + 1)) (xs (k + 2)) (xs (k + 3)) S).2.2 d K E) : Ex d [] tb_L_law (742, [some (.ref 0), some (.ref 1), some (.ref 77), some (.ref 94), some (.int i), u5, u6, u7], []) h (Po K E) := by
  refine Ex.pure 5 (fr2 := (748, [some (.ref 0), some (.ref 1), some (.ref 77), some (.ref 94), some (.int i), u5, u6, u7], [.int (i + 1), .ref 0, .ref 1])) rfl ?_
  refine Ex.scr rfl hT hx (i_sc (l := 1) (j := 1) hi (by omega) rfl (by omega)) (by omega) ?_
  refine Ex.pure 4 (fr2 := (754, [some (.ref 0), some (.ref 1), some (.ref 77), some (.ref 94), some (.int i), u5, u6, u7], [.int (i + 2), .ref 0, .int (xs (k + 1)), .ref 1])) rfl ?_
  refine Ex.scr rfl hT hx (i_sc (l := 2) (j := 2) hi (by omega) rfl (by omega)) (by omega) ?_
  refine Ex.pure 4 (fr2 := (760, [some (.ref 0), some (.ref 1), some (.ref 77), some (.ref 94), some (.int i), u5, u6, u7], [.int (i + 3), .ref 0, .int (xs (k + 2)), .int (xs (k + 1)), .ref 1])) rfl ?_
  refine Ex.scr rfl hT hx (i_sc (l := 3) (j := 3) hi (by omega) rfl (by omega)) (by omega) ?_
  refine Ex.pure 1 (fr2 := (762, [some (.ref 0), some (.ref 1), some (.ref 77), some (.ref 94), some (.int i), u5, u6, u7], [.ref 94, .int (xs (k + 3)), .int (xs (k + 2)), .int (xs (k + 1)), .ref 1])) rfl ?_
  refine Ex.cal (rest := []) (j := m_L_difference) (as := [.ref 1, .int (xs (k + 1)), .int (xs (k + 2)), .int (xs (k + 3)), .ref 94]) (fun c => rfl) (Ca.ty2 (lw_difference (by omega) hs I V hc (fun r h2 y2 c2 g1 g2 I2 F2 hr ho t2 => ?_)))
  have hs2 := F2.1
  have hT2 := t2 0 L hT
  have hx2 : h2.2.1 0 = xs := (F2.2.1 0 (Or.inl rfl) (by omega)).1.trans hx
  have J2 := J.fw F2
  show Ex d [] tb_L_law (765, [some (.ref 0), some (.ref 1), some (.ref 77), some (.ref 94), some (.int i), u5, u6, u7], [.int r]) h2 _
  refine Ex.pure 6 (fr2 := (773, [some (.ref 0), some (.ref 1), some (.ref 77), some (.ref 94), some (.int i), some (.int r), u6, u7], [.int (i + 1), .ref 0, .ref 77])) rfl ?_
  refine Ex.scr rfl hT2 hx2 (i_sc (l := 1) (j := 1) hi (by omega) rfl (by omega)) (by omega) ?_
  refine Ex.pure 4 (fr2 := (779, [some (.ref 0), some (.ref 1), some (.ref 77), some (.ref 94), some (.int i), some (.int r), u6, u7], [.int (i + 2), .ref 0, .int (xs (k + 1)), .ref 77])) rfl ?_
  refine Ex.scr rfl hT2 hx2 (i_sc (l := 2) (j := 2) hi (by omega) rfl (by omega)) (by omega) ?_
  refine Ex.pure 4 (fr2 := (785, [some (.ref 0), some (.ref 1), some (.ref 77), some (.ref 94), some (.int i), some (.int r), u6, u7], [.int (i + 3), .ref 0, .int (xs (k + 2)), .int (xs (k + 1)), .ref 77])) rfl ?_
  refine Ex.scr rfl hT2 hx2 (i_sc (l := 3) (j := 3) hi (by omega) rfl (by omega)) (by omega) ?_
  refine Ex.cal (rest := []) (j := m_X7_difference) (as := [.ref 77, .int (xs (k + 1)), .int (xs (k + 2)), .int (xs (k + 3))]) (vst (a := 168) (b := 4) (c := 6) (rest := []) (vs := [.int (xs (k + 1)), .int (xs (k + 2)), .int (xs (k + 3))]) rfl ⟨Nat.le_of_ble_eq_true rfl, Nat.le_of_ble_eq_true rfl⟩ rfl rfl (sg_77 hs2)) (m_difference (by omega) hs2 J2 V.2.1 V.2.2 V.1 (fun rv h3 J3 F3 t3 hr3 => ?_))
  have hs3 := F3.sg hs2
  obtain ⟨b, rfl, hb3⟩ := hr3
  show Ex d [] tb_L_law (789, [some (.ref 0), some (.ref 1), some (.ref 77), some (.ref 94), some (.int i), some (.int r), u6, u7], [.int b]) h3 _
  refine Ex.pure 2 (fr2 := (792, [some (.ref 0), some (.ref 1), some (.ref 77), some (.ref 94), some (.int i), some (.int r), some (.int b), u7], [.ref 77])) rfl ?_
  refine Ex.ask (rest := []) (j := m_X7_thrown) (as := [.ref 77]) (vst (a := 113) (b := 1) (c := 6) (rest := []) (vs := []) rfl ⟨Nat.le_of_ble_eq_true rfl, Nat.le_of_ble_eq_true rfl⟩ rfl rfl (sg_77 hs3)) ((t_X7_thrown hs3).mono (by omega) (fun _ _ z => z)) ?_
  rintro _ h0 ⟨rfl, e0⟩
  rw [e0]
  show Ex d [] tb_L_law (795, [some (.ref 0), some (.ref 1), some (.ref 77), some (.ref 94), some (.int i), some (.int r), some (.int b), u7], [.int (h3.2.1 77 0)]) h3 _
  refine Ex.pure 1 (fr2 := (797, [some (.ref 0), some (.ref 1), some (.ref 77), some (.ref 94), some (.int i), some (.int r), some (.int b), u7], [.int r, .int (h3.2.1 77 0)])) rfl ?_
  refine Ex.br (x := (802, [some (.ref 0), some (.ref 1), some (.ref 77), some (.ref 94), some (.int i), some (.int r), some (.int b), u7], [])) (y := (800, [some (.ref 0), some (.ref 1), some (.ref 77), some (.ref 94), some (.int i), some (.int r), some (.int b), u7], [])) (b := (h3.2.1 77 0) = r) rfl (fun _ => ?_) (fun hb => absurd (Int32.toInt_inj.mp (by rw [t3, hr])) hb)
  refine Ex.pure 1 (fr2 := (804, [some (.ref 0), some (.ref 1), some (.ref 77), some (.ref 94), some (.int i), some (.int r), some (.int b), u7], [.int r])) rfl ?_
  refine Ex.br (x := (819, [some (.ref 0), some (.ref 1), some (.ref 77), some (.ref 94), some (.int i), some (.int r), some (.int b), u7], [])) (y := (807, [some (.ref 0), some (.ref 1), some (.ref 77), some (.ref 94), some (.int i), some (.int r), some (.int b), u7], [])) (b := ¬ r = 0) rfl (fun _ => ?_) (fun hb => ?_)
  · skip
    refine Ex.pure 1 (fr2 := (1799, [some (.ref 0), some (.ref 1), some (.ref 77), some (.ref 94), some (.int i), some (.int r), some (.int b), u7], [])) rfl ?_
    exact kk h3 y2 c2 _ _ _ g1 g2 hs3 (by rw [F3.1]; exact hT2) ((F3.2.2 0 (by omega)).1.trans hx2) (I2.fm hs2 F3) J3 (by rw [F3.1]; exact F2.2.2.1) (by rw [F3.2.1]; exact F2.2.2.2)
  · have h0 : (f_difference (xs (k + 1)) (xs (k + 2)) (xs (k + 3)) S).1 = 0 := by
      have := i_ne.mp (Classical.not_not.mp hb)
      omega
    have q1 : (h3.2.2.1 94 0).toInt = (f_difference (xs (k + 1)) (xs (k + 2)) (xs (k + 3)) S).2.1 := by
      rw [(F3.2.2 94 (by omega)).2]
      exact ho h0 (by decide)
    have q2 := hb3 h0
    refine Ex.pure 2 (fr2 := (809, [some (.ref 0), some (.ref 1), some (.ref 77), some (.ref 94), some (.int i), some (.int r), some (.int b), u7], [.int 0, .ref 94])) rfl ?_
    refine Ex.lald rfl (sg_94 hs3) (by decide) ?_
    show Ex d [] tb_L_law (810, [some (.ref 0), some (.ref 1), some (.ref 77), some (.ref 94), some (.int i), some (.int r), some (.int b), u7], [.long (h3.2.2.1 94 0)]) h3 _
    refine Ex.pure 3 (fr2 := (814, [some (.ref 0), some (.ref 1), some (.ref 77), some (.ref 94), some (.int i), some (.int r), some (.int b), u7], [.int (lg_cmp (h3.2.2.1 94 0) ((b).toInt64))])) rfl ?_
    refine Ex.br (x := (819, [some (.ref 0), some (.ref 1), some (.ref 77), some (.ref 94), some (.int i), some (.int r), some (.int b), u7], [])) (y := (817, [some (.ref 0), some (.ref 1), some (.ref 77), some (.ref 94), some (.int i), some (.int r), some (.int b), u7], [])) (b := (lg_cmp (h3.2.2.1 94 0) ((b).toInt64)) = 0) rfl (fun _ => ?_) (fun hb => absurd ((lg_cmp_eq _ _).mpr (Int64.toInt_inj.mp (by rw [i_2j, q1, q2]))) hb)
    refine Ex.pure 1 (fr2 := (1799, [some (.ref 0), some (.ref 1), some (.ref 77), some (.ref 94), some (.int i), some (.int r), some (.int b), u7], [])) rfl ?_
    exact kk h3 y2 c2 _ _ _ g1 g2 hs3 (by rw [F3.1]; exact hT2) ((F3.2.2 0 (by omega)).1.trans hx2) (I2.fm hs2 F3) J3 (by rw [F3.1]; exact F2.2.2.1) (by rw [F3.2.1]; exact F2.2.2.2)
set_option maxRecDepth 100000 in
theorem cs_natural (hd : 70 ≤ d) (hs : Sg h.1 y) (hT : h.1[0]? = some (5, L, [])) (hx : h.2.1 0 = xs) (I : CI h y c S) (J : MI h S) (V : VA S) (LB : LBS S) (LD : LBD S) (hc : c + 10020 < 16384) (hi : i.toInt = k) (hk : k + 6 < L) (hL : L ≤ 3584) (kk : KL i L xs c h y (f_natural (xs (k + 1)) (xs (k + 2)) (xs (k + 3)) (bi (¬ xs (k + 4) = 0)) S).2.2 d K E) : Ex d [] tb_L_law (822, [some (.ref 0), some (.ref 1), some (.ref 77), some (.ref 94), some (.int i), u5, u6, u7], []) h (Po K E) := by
  refine Ex.pure 5 (fr2 := (828, [some (.ref 0), some (.ref 1), some (.ref 77), some (.ref 94), some (.int i), u5, u6, u7], [.int (i + 1), .ref 0, .ref 1])) rfl ?_
  refine Ex.scr rfl hT hx (i_sc (l := 1) (j := 1) hi (by omega) rfl (by omega)) (by omega) ?_
  refine Ex.pure 4 (fr2 := (834, [some (.ref 0), some (.ref 1), some (.ref 77), some (.ref 94), some (.int i), u5, u6, u7], [.int (i + 2), .ref 0, .int (xs (k + 1)), .ref 1])) rfl ?_
  refine Ex.scr rfl hT hx (i_sc (l := 2) (j := 2) hi (by omega) rfl (by omega)) (by omega) ?_
  refine Ex.pure 4 (fr2 := (840, [some (.ref 0), some (.ref 1), some (.ref 77), some (.ref 94), some (.int i), u5, u6, u7], [.int (i + 3), .ref 0, .int (xs (k + 2)), .int (xs (k + 1)), .ref 1])) rfl ?_
  refine Ex.scr rfl hT hx (i_sc (l := 3) (j := 3) hi (by omega) rfl (by omega)) (by omega) ?_
  refine Ex.pure 4 (fr2 := (846, [some (.ref 0), some (.ref 1), some (.ref 77), some (.ref 94), some (.int i), u5, u6, u7], [.int (i + 4), .ref 0, .int (xs (k + 3)), .int (xs (k + 2)), .int (xs (k + 1)), .ref 1])) rfl ?_
  refine Ex.scr rfl hT hx (i_sc (l := 4) (j := 4) hi (by omega) rfl (by omega)) (by omega) ?_
  refine Ex.br (x := (854, [some (.ref 0), some (.ref 1), some (.ref 77), some (.ref 94), some (.int i), u5, u6, u7], [.int (xs (k + 3)), .int (xs (k + 2)), .int (xs (k + 1)), .ref 1])) (y := (850, [some (.ref 0), some (.ref 1), some (.ref 77), some (.ref 94), some (.int i), u5, u6, u7], [.int (xs (k + 3)), .int (xs (k + 2)), .int (xs (k + 1)), .ref 1])) (b := xs (k + 4) = 0) rfl (fun hb => ?_) (fun hb => ?_)
  · rw [bi_f (fun w => w hb)] at kk
    refine Ex.pure 1 (fr2 := (855, [some (.ref 0), some (.ref 1), some (.ref 77), some (.ref 94), some (.int i), u5, u6, u7], [.int 0, .int (xs (k + 3)), .int (xs (k + 2)), .int (xs (k + 1)), .ref 1])) rfl ?_
    refine Ex.cal (rest := []) (j := m_L_natural) (as := [.ref 1, .int (xs (k + 1)), .int (xs (k + 2)), .int (xs (k + 3)), .int 0]) (fun c => rfl) (Ca.ty2 (lw_natural (by omega) hs I V hc (fun r h2 y2 c2 g1 g2 I2 F2 hr ho t2 => ?_)))
    have hs2 := F2.1
    have hT2 := t2 0 L hT
    have hx2 : h2.2.1 0 = xs := (F2.2.1 0 (Or.inl rfl) (by omega)).1.trans hx
    have J2 := J.fw F2
    show Ex d [] tb_L_law (858, [some (.ref 0), some (.ref 1), some (.ref 77), some (.ref 94), some (.int i), u5, u6, u7], [.int r]) h2 _
    refine Ex.pure 6 (fr2 := (866, [some (.ref 0), some (.ref 1), some (.ref 77), some (.ref 94), some (.int i), some (.int r), u6, u7], [.int (i + 1), .ref 0, .ref 77])) rfl ?_
    refine Ex.scr rfl hT2 hx2 (i_sc (l := 1) (j := 1) hi (by omega) rfl (by omega)) (by omega) ?_
    refine Ex.pure 4 (fr2 := (872, [some (.ref 0), some (.ref 1), some (.ref 77), some (.ref 94), some (.int i), some (.int r), u6, u7], [.int (i + 2), .ref 0, .int (xs (k + 1)), .ref 77])) rfl ?_
    refine Ex.scr rfl hT2 hx2 (i_sc (l := 2) (j := 2) hi (by omega) rfl (by omega)) (by omega) ?_
    refine Ex.pure 4 (fr2 := (878, [some (.ref 0), some (.ref 1), some (.ref 77), some (.ref 94), some (.int i), some (.int r), u6, u7], [.int (i + 3), .ref 0, .int (xs (k + 2)), .int (xs (k + 1)), .ref 77])) rfl ?_
    refine Ex.scr rfl hT2 hx2 (i_sc (l := 3) (j := 3) hi (by omega) rfl (by omega)) (by omega) ?_
    refine Ex.pure 4 (fr2 := (884, [some (.ref 0), some (.ref 1), some (.ref 77), some (.ref 94), some (.int i), some (.int r), u6, u7], [.int (i + 4), .ref 0, .int (xs (k + 3)), .int (xs (k + 2)), .int (xs (k + 1)), .ref 77])) rfl ?_
    refine Ex.scr rfl hT2 hx2 (i_sc (l := 4) (j := 4) hi (by omega) rfl (by omega)) (by omega) ?_
    refine Ex.br (x := (892, [some (.ref 0), some (.ref 1), some (.ref 77), some (.ref 94), some (.int i), some (.int r), u6, u7], [.int (xs (k + 3)), .int (xs (k + 2)), .int (xs (k + 1)), .ref 77])) (y := (888, [some (.ref 0), some (.ref 1), some (.ref 77), some (.ref 94), some (.int i), some (.int r), u6, u7], [.int (xs (k + 3)), .int (xs (k + 2)), .int (xs (k + 1)), .ref 77])) (b := xs (k + 4) = 0) rfl (fun _ => ?_) (fun hb2 => absurd hb hb2)
    refine Ex.pure 1 (fr2 := (893, [some (.ref 0), some (.ref 1), some (.ref 77), some (.ref 94), some (.int i), some (.int r), u6, u7], [.int 0, .int (xs (k + 3)), .int (xs (k + 2)), .int (xs (k + 1)), .ref 77])) rfl ?_
    refine Ex.cal (rest := []) (j := m_X7_natural) (as := [.ref 77, .int (xs (k + 1)), .int (xs (k + 2)), .int (xs (k + 3)), .int 0]) (vst (a := 170) (b := 5) (c := 6) (rest := []) (vs := [.int (xs (k + 1)), .int (xs (k + 2)), .int (xs (k + 3)), .int 0]) rfl ⟨Nat.le_of_ble_eq_true rfl, Nat.le_of_ble_eq_true rfl⟩ rfl rfl (sg_77 hs2)) (m_natural (by omega) hs2 J2 LB (fun rv h3 J3 F3 t3 hr3 => ?_))
    have hs3 := F3.sg hs2
    have hr3 : rv = none := hr3
    subst hr3
    show Ex d [] tb_L_law (896, [some (.ref 0), some (.ref 1), some (.ref 77), some (.ref 94), some (.int i), some (.int r), u6, u7], []) h3 _
    refine Ex.pure 1 (fr2 := (897, [some (.ref 0), some (.ref 1), some (.ref 77), some (.ref 94), some (.int i), some (.int r), u6, u7], [.ref 77])) rfl ?_
    refine Ex.ask (rest := []) (j := m_X7_thrown) (as := [.ref 77]) (vst (a := 113) (b := 1) (c := 6) (rest := []) (vs := []) rfl ⟨Nat.le_of_ble_eq_true rfl, Nat.le_of_ble_eq_true rfl⟩ rfl rfl (sg_77 hs3)) ((t_X7_thrown hs3).mono (by omega) (fun _ _ z => z)) ?_
    rintro _ h0 ⟨rfl, e0⟩
    rw [e0]
    show Ex d [] tb_L_law (900, [some (.ref 0), some (.ref 1), some (.ref 77), some (.ref 94), some (.int i), some (.int r), u6, u7], [.int (h3.2.1 77 0)]) h3 _
    refine Ex.pure 1 (fr2 := (902, [some (.ref 0), some (.ref 1), some (.ref 77), some (.ref 94), some (.int i), some (.int r), u6, u7], [.int r, .int (h3.2.1 77 0)])) rfl ?_
    refine Ex.br (x := (907, [some (.ref 0), some (.ref 1), some (.ref 77), some (.ref 94), some (.int i), some (.int r), u6, u7], [])) (y := (905, [some (.ref 0), some (.ref 1), some (.ref 77), some (.ref 94), some (.int i), some (.int r), u6, u7], [])) (b := (h3.2.1 77 0) = r) rfl (fun _ => ?_) (fun hb => absurd (Int32.toInt_inj.mp (by rw [t3, hr])) hb)
    refine Ex.pure 1 (fr2 := (1799, [some (.ref 0), some (.ref 1), some (.ref 77), some (.ref 94), some (.int i), some (.int r), u6, u7], [])) rfl ?_
    exact kk h3 y2 c2 _ _ _ g1 g2 hs3 (by rw [F3.1]; exact hT2) ((F3.2.2 0 (by omega)).1.trans hx2) (I2.fm hs2 F3) J3 (by rw [F3.1]; exact F2.2.2.1) (by rw [F3.2.1]; exact F2.2.2.2)
  · rw [bi_t hb] at kk
    refine Ex.pure 2 (fr2 := (855, [some (.ref 0), some (.ref 1), some (.ref 77), some (.ref 94), some (.int i), u5, u6, u7], [.int 1, .int (xs (k + 3)), .int (xs (k + 2)), .int (xs (k + 1)), .ref 1])) rfl ?_
    refine Ex.cal (rest := []) (j := m_L_natural) (as := [.ref 1, .int (xs (k + 1)), .int (xs (k + 2)), .int (xs (k + 3)), .int 1]) (fun c => rfl) (Ca.ty2 (lw_natural (by omega) hs I V hc (fun r h2 y2 c2 g1 g2 I2 F2 hr ho t2 => ?_)))
    have hs2 := F2.1
    have hT2 := t2 0 L hT
    have hx2 : h2.2.1 0 = xs := (F2.2.1 0 (Or.inl rfl) (by omega)).1.trans hx
    have J2 := J.fw F2
    show Ex d [] tb_L_law (858, [some (.ref 0), some (.ref 1), some (.ref 77), some (.ref 94), some (.int i), u5, u6, u7], [.int r]) h2 _
    refine Ex.pure 6 (fr2 := (866, [some (.ref 0), some (.ref 1), some (.ref 77), some (.ref 94), some (.int i), some (.int r), u6, u7], [.int (i + 1), .ref 0, .ref 77])) rfl ?_
    refine Ex.scr rfl hT2 hx2 (i_sc (l := 1) (j := 1) hi (by omega) rfl (by omega)) (by omega) ?_
    refine Ex.pure 4 (fr2 := (872, [some (.ref 0), some (.ref 1), some (.ref 77), some (.ref 94), some (.int i), some (.int r), u6, u7], [.int (i + 2), .ref 0, .int (xs (k + 1)), .ref 77])) rfl ?_
    refine Ex.scr rfl hT2 hx2 (i_sc (l := 2) (j := 2) hi (by omega) rfl (by omega)) (by omega) ?_
    refine Ex.pure 4 (fr2 := (878, [some (.ref 0), some (.ref 1), some (.ref 77), some (.ref 94), some (.int i), some (.int r), u6, u7], [.int (i + 3), .ref 0, .int (xs (k + 2)), .int (xs (k + 1)), .ref 77])) rfl ?_
    refine Ex.scr rfl hT2 hx2 (i_sc (l := 3) (j := 3) hi (by omega) rfl (by omega)) (by omega) ?_
    refine Ex.pure 4 (fr2 := (884, [some (.ref 0), some (.ref 1), some (.ref 77), some (.ref 94), some (.int i), some (.int r), u6, u7], [.int (i + 4), .ref 0, .int (xs (k + 3)), .int (xs (k + 2)), .int (xs (k + 1)), .ref 77])) rfl ?_
    refine Ex.scr rfl hT2 hx2 (i_sc (l := 4) (j := 4) hi (by omega) rfl (by omega)) (by omega) ?_
    refine Ex.br (x := (892, [some (.ref 0), some (.ref 1), some (.ref 77), some (.ref 94), some (.int i), some (.int r), u6, u7], [.int (xs (k + 3)), .int (xs (k + 2)), .int (xs (k + 1)), .ref 77])) (y := (888, [some (.ref 0), some (.ref 1), some (.ref 77), some (.ref 94), some (.int i), some (.int r), u6, u7], [.int (xs (k + 3)), .int (xs (k + 2)), .int (xs (k + 1)), .ref 77])) (b := xs (k + 4) = 0) rfl (fun hb2 => absurd hb2 hb) (fun _ => ?_)
    refine Ex.pure 2 (fr2 := (893, [some (.ref 0), some (.ref 1), some (.ref 77), some (.ref 94), some (.int i), some (.int r), u6, u7], [.int 1, .int (xs (k + 3)), .int (xs (k + 2)), .int (xs (k + 1)), .ref 77])) rfl ?_
    refine Ex.cal (rest := []) (j := m_X7_natural) (as := [.ref 77, .int (xs (k + 1)), .int (xs (k + 2)), .int (xs (k + 3)), .int 1]) (vst (a := 170) (b := 5) (c := 6) (rest := []) (vs := [.int (xs (k + 1)), .int (xs (k + 2)), .int (xs (k + 3)), .int 1]) rfl ⟨Nat.le_of_ble_eq_true rfl, Nat.le_of_ble_eq_true rfl⟩ rfl rfl (sg_77 hs2)) (m_natural (by omega) hs2 J2 LB (fun rv h3 J3 F3 t3 hr3 => ?_))
    have hs3 := F3.sg hs2
    have hr3 : rv = none := hr3
    subst hr3
    show Ex d [] tb_L_law (896, [some (.ref 0), some (.ref 1), some (.ref 77), some (.ref 94), some (.int i), some (.int r), u6, u7], []) h3 _
    refine Ex.pure 1 (fr2 := (897, [some (.ref 0), some (.ref 1), some (.ref 77), some (.ref 94), some (.int i), some (.int r), u6, u7], [.ref 77])) rfl ?_
    refine Ex.ask (rest := []) (j := m_X7_thrown) (as := [.ref 77]) (vst (a := 113) (b := 1) (c := 6) (rest := []) (vs := []) rfl ⟨Nat.le_of_ble_eq_true rfl, Nat.le_of_ble_eq_true rfl⟩ rfl rfl (sg_77 hs3)) ((t_X7_thrown hs3).mono (by omega) (fun _ _ z => z)) ?_
    rintro _ h0 ⟨rfl, e0⟩
    rw [e0]
    show Ex d [] tb_L_law (900, [some (.ref 0), some (.ref 1), some (.ref 77), some (.ref 94), some (.int i), some (.int r), u6, u7], [.int (h3.2.1 77 0)]) h3 _
    refine Ex.pure 1 (fr2 := (902, [some (.ref 0), some (.ref 1), some (.ref 77), some (.ref 94), some (.int i), some (.int r), u6, u7], [.int r, .int (h3.2.1 77 0)])) rfl ?_
    refine Ex.br (x := (907, [some (.ref 0), some (.ref 1), some (.ref 77), some (.ref 94), some (.int i), some (.int r), u6, u7], [])) (y := (905, [some (.ref 0), some (.ref 1), some (.ref 77), some (.ref 94), some (.int i), some (.int r), u6, u7], [])) (b := (h3.2.1 77 0) = r) rfl (fun _ => ?_) (fun hb => absurd (Int32.toInt_inj.mp (by rw [t3, hr])) hb)
    refine Ex.pure 1 (fr2 := (1799, [some (.ref 0), some (.ref 1), some (.ref 77), some (.ref 94), some (.int i), some (.int r), u6, u7], [])) rfl ?_
    exact kk h3 y2 c2 _ _ _ g1 g2 hs3 (by rw [F3.1]; exact hT2) ((F3.2.2 0 (by omega)).1.trans hx2) (I2.fm hs2 F3) J3 (by rw [F3.1]; exact F2.2.2.1) (by rw [F3.2.1]; exact F2.2.2.2)
set_option maxRecDepth 100000 in
theorem cs_derive (hd : 70 ≤ d) (hs : Sg h.1 y) (hT : h.1[0]? = some (5, L, [])) (hx : h.2.1 0 = xs) (I : CI h y c S) (J : MI h S) (V : VA S) (LB : LBS S) (LD : LBD S) (hc : c + 10020 < 16384) (hi : i.toInt = k) (hk : k + 6 < L) (hL : L ≤ 3584) (kk : KL i L xs c h y (f_derive (xs (k + 1)) (xs (k + 2)) S).2.2 d K E) : Ex d [] tb_L_law (910, [some (.ref 0), some (.ref 1), some (.ref 77), some (.ref 94), some (.int i), u5, u6, u7], []) h (Po K E) := by
  refine Ex.pure 5 (fr2 := (916, [some (.ref 0), some (.ref 1), some (.ref 77), some (.ref 94), some (.int i), u5, u6, u7], [.int (i + 1), .ref 0, .ref 1])) rfl ?_
  refine Ex.scr rfl hT hx (i_sc (l := 1) (j := 1) hi (by omega) rfl (by omega)) (by omega) ?_
  refine Ex.pure 4 (fr2 := (922, [some (.ref 0), some (.ref 1), some (.ref 77), some (.ref 94), some (.int i), u5, u6, u7], [.int (i + 2), .ref 0, .int (xs (k + 1)), .ref 1])) rfl ?_
  refine Ex.scr rfl hT hx (i_sc (l := 2) (j := 2) hi (by omega) rfl (by omega)) (by omega) ?_
  refine Ex.cal (rest := []) (j := m_L_derive) (as := [.ref 1, .int (xs (k + 1)), .int (xs (k + 2))]) (fun c => rfl) (Ca.ty2 (lw_derive (by omega) hs I V hc (fun r h2 y2 c2 g1 g2 I2 F2 hr ho t2 => ?_)))
  have hs2 := F2.1
  have hT2 := t2 0 L hT
  have hx2 : h2.2.1 0 = xs := (F2.2.1 0 (Or.inl rfl) (by omega)).1.trans hx
  have J2 := J.fw F2
  show Ex d [] tb_L_law (926, [some (.ref 0), some (.ref 1), some (.ref 77), some (.ref 94), some (.int i), u5, u6, u7], [.int r]) h2 _
  refine Ex.pure 6 (fr2 := (934, [some (.ref 0), some (.ref 1), some (.ref 77), some (.ref 94), some (.int i), some (.int r), u6, u7], [.int (i + 1), .ref 0, .ref 77])) rfl ?_
  refine Ex.scr rfl hT2 hx2 (i_sc (l := 1) (j := 1) hi (by omega) rfl (by omega)) (by omega) ?_
  refine Ex.pure 4 (fr2 := (940, [some (.ref 0), some (.ref 1), some (.ref 77), some (.ref 94), some (.int i), some (.int r), u6, u7], [.int (i + 2), .ref 0, .int (xs (k + 1)), .ref 77])) rfl ?_
  refine Ex.scr rfl hT2 hx2 (i_sc (l := 2) (j := 2) hi (by omega) rfl (by omega)) (by omega) ?_
  refine Ex.cal (rest := []) (j := m_X7_derive) (as := [.ref 77, .int (xs (k + 1)), .int (xs (k + 2))]) (vst (a := 171) (b := 3) (c := 6) (rest := []) (vs := [.int (xs (k + 1)), .int (xs (k + 2))]) rfl ⟨Nat.le_of_ble_eq_true rfl, Nat.le_of_ble_eq_true rfl⟩ rfl rfl (sg_77 hs2)) (m_derive (by omega) hs2 J2 V.2.1 (fun rv h3 J3 F3 t3 hr3 => ?_))
  have hs3 := F3.sg hs2
  have hr3 : rv = none := hr3
  subst hr3
  show Ex d [] tb_L_law (944, [some (.ref 0), some (.ref 1), some (.ref 77), some (.ref 94), some (.int i), some (.int r), u6, u7], []) h3 _
  refine Ex.pure 1 (fr2 := (945, [some (.ref 0), some (.ref 1), some (.ref 77), some (.ref 94), some (.int i), some (.int r), u6, u7], [.ref 77])) rfl ?_
  refine Ex.ask (rest := []) (j := m_X7_thrown) (as := [.ref 77]) (vst (a := 113) (b := 1) (c := 6) (rest := []) (vs := []) rfl ⟨Nat.le_of_ble_eq_true rfl, Nat.le_of_ble_eq_true rfl⟩ rfl rfl (sg_77 hs3)) ((t_X7_thrown hs3).mono (by omega) (fun _ _ z => z)) ?_
  rintro _ h0 ⟨rfl, e0⟩
  rw [e0]
  show Ex d [] tb_L_law (948, [some (.ref 0), some (.ref 1), some (.ref 77), some (.ref 94), some (.int i), some (.int r), u6, u7], [.int (h3.2.1 77 0)]) h3 _
  refine Ex.pure 1 (fr2 := (950, [some (.ref 0), some (.ref 1), some (.ref 77), some (.ref 94), some (.int i), some (.int r), u6, u7], [.int r, .int (h3.2.1 77 0)])) rfl ?_
  refine Ex.br (x := (955, [some (.ref 0), some (.ref 1), some (.ref 77), some (.ref 94), some (.int i), some (.int r), u6, u7], [])) (y := (953, [some (.ref 0), some (.ref 1), some (.ref 77), some (.ref 94), some (.int i), some (.int r), u6, u7], [])) (b := (h3.2.1 77 0) = r) rfl (fun _ => ?_) (fun hb => absurd (Int32.toInt_inj.mp (by rw [t3, hr])) hb)
  refine Ex.pure 1 (fr2 := (1799, [some (.ref 0), some (.ref 1), some (.ref 77), some (.ref 94), some (.int i), some (.int r), u6, u7], [])) rfl ?_
  exact kk h3 y2 c2 _ _ _ g1 g2 hs3 (by rw [F3.1]; exact hT2) ((F3.2.2 0 (by omega)).1.trans hx2) (I2.fm hs2 F3) J3 (by rw [F3.1]; exact F2.2.2.1) (by rw [F3.2.1]; exact F2.2.2.2)
set_option maxRecDepth 100000 in
theorem cs_compare (hd : 70 ≤ d) (hs : Sg h.1 y) (hT : h.1[0]? = some (5, L, [])) (hx : h.2.1 0 = xs) (I : CI h y c S) (J : MI h S) (V : VA S) (LB : LBS S) (LD : LBD S) (hc : c + 10020 < 16384) (hi : i.toInt = k) (hk : k + 6 < L) (hL : L ≤ 3584) (kk : KL i L xs c h y (f_compare (xs (k + 1)) (xs (k + 2)) S).2.2 d K E) : Ex d [] tb_L_law (958, [some (.ref 0), some (.ref 1), some (.ref 77), some (.ref 94), some (.int i), u5, u6, u7], []) h (Po K E) := by
  refine Ex.pure 5 (fr2 := (964, [some (.ref 0), some (.ref 1), some (.ref 77), some (.ref 94), some (.int i), u5, u6, u7], [.int (i + 1), .ref 0, .ref 1])) rfl ?_
  refine Ex.scr rfl hT hx (i_sc (l := 1) (j := 1) hi (by omega) rfl (by omega)) (by omega) ?_
  refine Ex.pure 4 (fr2 := (970, [some (.ref 0), some (.ref 1), some (.ref 77), some (.ref 94), some (.int i), u5, u6, u7], [.int (i + 2), .ref 0, .int (xs (k + 1)), .ref 1])) rfl ?_
  refine Ex.scr rfl hT hx (i_sc (l := 2) (j := 2) hi (by omega) rfl (by omega)) (by omega) ?_
  refine Ex.pure 1 (fr2 := (972, [some (.ref 0), some (.ref 1), some (.ref 77), some (.ref 94), some (.int i), u5, u6, u7], [.ref 94, .int (xs (k + 2)), .int (xs (k + 1)), .ref 1])) rfl ?_
  refine Ex.cal (rest := []) (j := m_L_compare) (as := [.ref 1, .int (xs (k + 1)), .int (xs (k + 2)), .ref 94]) (fun c => rfl) (Ca.ty2 (lw_compare (by omega) hs I V hc (fun r h2 y2 c2 g1 g2 I2 F2 hr ho t2 => ?_)))
  have hs2 := F2.1
  have hT2 := t2 0 L hT
  have hx2 : h2.2.1 0 = xs := (F2.2.1 0 (Or.inl rfl) (by omega)).1.trans hx
  have J2 := J.fw F2
  show Ex d [] tb_L_law (975, [some (.ref 0), some (.ref 1), some (.ref 77), some (.ref 94), some (.int i), u5, u6, u7], [.int r]) h2 _
  refine Ex.pure 6 (fr2 := (983, [some (.ref 0), some (.ref 1), some (.ref 77), some (.ref 94), some (.int i), some (.int r), u6, u7], [.int (i + 1), .ref 0, .ref 77])) rfl ?_
  refine Ex.scr rfl hT2 hx2 (i_sc (l := 1) (j := 1) hi (by omega) rfl (by omega)) (by omega) ?_
  refine Ex.pure 4 (fr2 := (989, [some (.ref 0), some (.ref 1), some (.ref 77), some (.ref 94), some (.int i), some (.int r), u6, u7], [.int (i + 2), .ref 0, .int (xs (k + 1)), .ref 77])) rfl ?_
  refine Ex.scr rfl hT2 hx2 (i_sc (l := 2) (j := 2) hi (by omega) rfl (by omega)) (by omega) ?_
  refine Ex.cal (rest := []) (j := m_X7_compare) (as := [.ref 77, .int (xs (k + 1)), .int (xs (k + 2))]) (vst (a := 174) (b := 3) (c := 6) (rest := []) (vs := [.int (xs (k + 1)), .int (xs (k + 2))]) rfl ⟨Nat.le_of_ble_eq_true rfl, Nat.le_of_ble_eq_true rfl⟩ rfl rfl (sg_77 hs2)) (m_compare (by omega) hs2 J2 V.2.1 V.2.2 (fun rv h3 J3 F3 t3 hr3 => ?_))
  have hs3 := F3.sg hs2
  obtain ⟨b, rfl, hb3⟩ := hr3
  show Ex d [] tb_L_law (993, [some (.ref 0), some (.ref 1), some (.ref 77), some (.ref 94), some (.int i), some (.int r), u6, u7], [.int b]) h3 _
  refine Ex.pure 2 (fr2 := (996, [some (.ref 0), some (.ref 1), some (.ref 77), some (.ref 94), some (.int i), some (.int r), some (.int b), u7], [.ref 77])) rfl ?_
  refine Ex.ask (rest := []) (j := m_X7_thrown) (as := [.ref 77]) (vst (a := 113) (b := 1) (c := 6) (rest := []) (vs := []) rfl ⟨Nat.le_of_ble_eq_true rfl, Nat.le_of_ble_eq_true rfl⟩ rfl rfl (sg_77 hs3)) ((t_X7_thrown hs3).mono (by omega) (fun _ _ z => z)) ?_
  rintro _ h0 ⟨rfl, e0⟩
  rw [e0]
  show Ex d [] tb_L_law (999, [some (.ref 0), some (.ref 1), some (.ref 77), some (.ref 94), some (.int i), some (.int r), some (.int b), u7], [.int (h3.2.1 77 0)]) h3 _
  refine Ex.pure 1 (fr2 := (1001, [some (.ref 0), some (.ref 1), some (.ref 77), some (.ref 94), some (.int i), some (.int r), some (.int b), u7], [.int r, .int (h3.2.1 77 0)])) rfl ?_
  refine Ex.br (x := (1006, [some (.ref 0), some (.ref 1), some (.ref 77), some (.ref 94), some (.int i), some (.int r), some (.int b), u7], [])) (y := (1004, [some (.ref 0), some (.ref 1), some (.ref 77), some (.ref 94), some (.int i), some (.int r), some (.int b), u7], [])) (b := (h3.2.1 77 0) = r) rfl (fun _ => ?_) (fun hb => absurd (Int32.toInt_inj.mp (by rw [t3, hr])) hb)
  refine Ex.pure 1 (fr2 := (1008, [some (.ref 0), some (.ref 1), some (.ref 77), some (.ref 94), some (.int i), some (.int r), some (.int b), u7], [.int r])) rfl ?_
  refine Ex.br (x := (1023, [some (.ref 0), some (.ref 1), some (.ref 77), some (.ref 94), some (.int i), some (.int r), some (.int b), u7], [])) (y := (1011, [some (.ref 0), some (.ref 1), some (.ref 77), some (.ref 94), some (.int i), some (.int r), some (.int b), u7], [])) (b := ¬ r = 0) rfl (fun _ => ?_) (fun hb => ?_)
  · skip
    refine Ex.pure 1 (fr2 := (1799, [some (.ref 0), some (.ref 1), some (.ref 77), some (.ref 94), some (.int i), some (.int r), some (.int b), u7], [])) rfl ?_
    exact kk h3 y2 c2 _ _ _ g1 g2 hs3 (by rw [F3.1]; exact hT2) ((F3.2.2 0 (by omega)).1.trans hx2) (I2.fm hs2 F3) J3 (by rw [F3.1]; exact F2.2.2.1) (by rw [F3.2.1]; exact F2.2.2.2)
  · have h0 : (f_compare (xs (k + 1)) (xs (k + 2)) S).1 = 0 := by
      have := i_ne.mp (Classical.not_not.mp hb)
      omega
    have q1 : (h3.2.2.1 94 0).toInt = (f_compare (xs (k + 1)) (xs (k + 2)) S).2.1 := by
      rw [(F3.2.2 94 (by omega)).2]
      exact ho h0 (by decide)
    have q2 := hb3 h0
    refine Ex.pure 2 (fr2 := (1013, [some (.ref 0), some (.ref 1), some (.ref 77), some (.ref 94), some (.int i), some (.int r), some (.int b), u7], [.int 0, .ref 94])) rfl ?_
    refine Ex.lald rfl (sg_94 hs3) (by decide) ?_
    show Ex d [] tb_L_law (1014, [some (.ref 0), some (.ref 1), some (.ref 77), some (.ref 94), some (.int i), some (.int r), some (.int b), u7], [.long (h3.2.2.1 94 0)]) h3 _
    refine Ex.pure 3 (fr2 := (1018, [some (.ref 0), some (.ref 1), some (.ref 77), some (.ref 94), some (.int i), some (.int r), some (.int b), u7], [.int (lg_cmp (h3.2.2.1 94 0) ((b).toInt64))])) rfl ?_
    refine Ex.br (x := (1023, [some (.ref 0), some (.ref 1), some (.ref 77), some (.ref 94), some (.int i), some (.int r), some (.int b), u7], [])) (y := (1021, [some (.ref 0), some (.ref 1), some (.ref 77), some (.ref 94), some (.int i), some (.int r), some (.int b), u7], [])) (b := (lg_cmp (h3.2.2.1 94 0) ((b).toInt64)) = 0) rfl (fun _ => ?_) (fun hb => absurd ((lg_cmp_eq _ _).mpr (Int64.toInt_inj.mp (by rw [i_2j, q1, q2]))) hb)
    refine Ex.pure 1 (fr2 := (1799, [some (.ref 0), some (.ref 1), some (.ref 77), some (.ref 94), some (.int i), some (.int r), some (.int b), u7], [])) rfl ?_
    exact kk h3 y2 c2 _ _ _ g1 g2 hs3 (by rw [F3.1]; exact hT2) ((F3.2.2 0 (by omega)).1.trans hx2) (I2.fm hs2 F3) J3 (by rw [F3.1]; exact F2.2.2.1) (by rw [F3.2.1]; exact F2.2.2.2)
set_option maxRecDepth 100000 in
theorem cs_step (hd : 70 ≤ d) (hs : Sg h.1 y) (hT : h.1[0]? = some (5, L, [])) (hx : h.2.1 0 = xs) (I : CI h y c S) (J : MI h S) (V : VA S) (LB : LBS S) (LD : LBD S) (hc : c + 10020 < 16384) (hi : i.toInt = k) (hk : k + 6 < L) (hL : L ≤ 3584) (kk : KL i L xs c h y (f_step (xs (k + 1)) (xs (k + 2)) (xs (k + 3)) S).2.2 d K E) : Ex d [] tb_L_law (1026, [some (.ref 0), some (.ref 1), some (.ref 77), some (.ref 94), some (.int i), u5, u6, u7], []) h (Po K E) := by
  refine Ex.pure 5 (fr2 := (1032, [some (.ref 0), some (.ref 1), some (.ref 77), some (.ref 94), some (.int i), u5, u6, u7], [.int (i + 1), .ref 0, .ref 1])) rfl ?_
  refine Ex.scr rfl hT hx (i_sc (l := 1) (j := 1) hi (by omega) rfl (by omega)) (by omega) ?_
  refine Ex.pure 4 (fr2 := (1038, [some (.ref 0), some (.ref 1), some (.ref 77), some (.ref 94), some (.int i), u5, u6, u7], [.int (i + 2), .ref 0, .int (xs (k + 1)), .ref 1])) rfl ?_
  refine Ex.scr rfl hT hx (i_sc (l := 2) (j := 2) hi (by omega) rfl (by omega)) (by omega) ?_
  refine Ex.pure 4 (fr2 := (1044, [some (.ref 0), some (.ref 1), some (.ref 77), some (.ref 94), some (.int i), u5, u6, u7], [.int (i + 3), .ref 0, .int (xs (k + 2)), .int (xs (k + 1)), .ref 1])) rfl ?_
  refine Ex.scr rfl hT hx (i_sc (l := 3) (j := 3) hi (by omega) rfl (by omega)) (by omega) ?_
  refine Ex.cal (rest := []) (j := m_L_step) (as := [.ref 1, .int (xs (k + 1)), .int (xs (k + 2)), .int (xs (k + 3))]) (fun c => rfl) (Ca.ty2 (lw_step (by omega) hs I V hc (fun r h2 y2 c2 g1 g2 I2 F2 hr ho t2 => ?_)))
  have hs2 := F2.1
  have hT2 := t2 0 L hT
  have hx2 : h2.2.1 0 = xs := (F2.2.1 0 (Or.inl rfl) (by omega)).1.trans hx
  have J2 := J.fw F2
  show Ex d [] tb_L_law (1048, [some (.ref 0), some (.ref 1), some (.ref 77), some (.ref 94), some (.int i), u5, u6, u7], [.int r]) h2 _
  refine Ex.pure 6 (fr2 := (1056, [some (.ref 0), some (.ref 1), some (.ref 77), some (.ref 94), some (.int i), some (.int r), u6, u7], [.int (i + 1), .ref 0, .ref 77])) rfl ?_
  refine Ex.scr rfl hT2 hx2 (i_sc (l := 1) (j := 1) hi (by omega) rfl (by omega)) (by omega) ?_
  refine Ex.pure 4 (fr2 := (1062, [some (.ref 0), some (.ref 1), some (.ref 77), some (.ref 94), some (.int i), some (.int r), u6, u7], [.int (i + 2), .ref 0, .int (xs (k + 1)), .ref 77])) rfl ?_
  refine Ex.scr rfl hT2 hx2 (i_sc (l := 2) (j := 2) hi (by omega) rfl (by omega)) (by omega) ?_
  refine Ex.pure 4 (fr2 := (1068, [some (.ref 0), some (.ref 1), some (.ref 77), some (.ref 94), some (.int i), some (.int r), u6, u7], [.int (i + 3), .ref 0, .int (xs (k + 2)), .int (xs (k + 1)), .ref 77])) rfl ?_
  refine Ex.scr rfl hT2 hx2 (i_sc (l := 3) (j := 3) hi (by omega) rfl (by omega)) (by omega) ?_
  refine Ex.cal (rest := []) (j := m_X7_step) (as := [.ref 77, .int (xs (k + 1)), .int (xs (k + 2)), .int (xs (k + 3))]) (vst (a := 176) (b := 4) (c := 6) (rest := []) (vs := [.int (xs (k + 1)), .int (xs (k + 2)), .int (xs (k + 3))]) rfl ⟨Nat.le_of_ble_eq_true rfl, Nat.le_of_ble_eq_true rfl⟩ rfl rfl (sg_77 hs2)) (m_step (by omega) hs2 J2 LB (fun rv h3 J3 F3 t3 hr3 => ?_))
  have hs3 := F3.sg hs2
  have hr3 : rv = none := hr3
  subst hr3
  show Ex d [] tb_L_law (1072, [some (.ref 0), some (.ref 1), some (.ref 77), some (.ref 94), some (.int i), some (.int r), u6, u7], []) h3 _
  refine Ex.pure 1 (fr2 := (1073, [some (.ref 0), some (.ref 1), some (.ref 77), some (.ref 94), some (.int i), some (.int r), u6, u7], [.ref 77])) rfl ?_
  refine Ex.ask (rest := []) (j := m_X7_thrown) (as := [.ref 77]) (vst (a := 113) (b := 1) (c := 6) (rest := []) (vs := []) rfl ⟨Nat.le_of_ble_eq_true rfl, Nat.le_of_ble_eq_true rfl⟩ rfl rfl (sg_77 hs3)) ((t_X7_thrown hs3).mono (by omega) (fun _ _ z => z)) ?_
  rintro _ h0 ⟨rfl, e0⟩
  rw [e0]
  show Ex d [] tb_L_law (1076, [some (.ref 0), some (.ref 1), some (.ref 77), some (.ref 94), some (.int i), some (.int r), u6, u7], [.int (h3.2.1 77 0)]) h3 _
  refine Ex.pure 1 (fr2 := (1078, [some (.ref 0), some (.ref 1), some (.ref 77), some (.ref 94), some (.int i), some (.int r), u6, u7], [.int r, .int (h3.2.1 77 0)])) rfl ?_
  refine Ex.br (x := (1083, [some (.ref 0), some (.ref 1), some (.ref 77), some (.ref 94), some (.int i), some (.int r), u6, u7], [])) (y := (1081, [some (.ref 0), some (.ref 1), some (.ref 77), some (.ref 94), some (.int i), some (.int r), u6, u7], [])) (b := (h3.2.1 77 0) = r) rfl (fun _ => ?_) (fun hb => absurd (Int32.toInt_inj.mp (by rw [t3, hr])) hb)
  refine Ex.pure 1 (fr2 := (1799, [some (.ref 0), some (.ref 1), some (.ref 77), some (.ref 94), some (.int i), some (.int r), u6, u7], [])) rfl ?_
  exact kk h3 y2 c2 _ _ _ g1 g2 hs3 (by rw [F3.1]; exact hT2) ((F3.2.2 0 (by omega)).1.trans hx2) (I2.fm hs2 F3) J3 (by rw [F3.1]; exact F2.2.2.1) (by rw [F3.2.1]; exact F2.2.2.2)
set_option maxRecDepth 100000 in
theorem cs_descent (hd : 70 ≤ d) (hs : Sg h.1 y) (hT : h.1[0]? = some (5, L, [])) (hx : h.2.1 0 = xs) (I : CI h y c S) (J : MI h S) (V : VA S) (LB : LBS S) (LD : LBD S) (hc : c + 10020 < 16384) (hi : i.toInt = k) (hk : k + 6 < L) (hL : L ≤ 3584) (kk : KL i L xs c h y (f_descent (xs (k + 1)) (xs (k + 2)) (xs (k + 3)) S).2.2 d K E) : Ex d [] tb_L_law (1086, [some (.ref 0), some (.ref 1), some (.ref 77), some (.ref 94), some (.int i), u5, u6, u7], []) h (Po K E) := by
  refine Ex.pure 5 (fr2 := (1092, [some (.ref 0), some (.ref 1), some (.ref 77), some (.ref 94), some (.int i), u5, u6, u7], [.int (i + 1), .ref 0, .ref 1])) rfl ?_
  refine Ex.scr rfl hT hx (i_sc (l := 1) (j := 1) hi (by omega) rfl (by omega)) (by omega) ?_
  refine Ex.pure 4 (fr2 := (1098, [some (.ref 0), some (.ref 1), some (.ref 77), some (.ref 94), some (.int i), u5, u6, u7], [.int (i + 2), .ref 0, .int (xs (k + 1)), .ref 1])) rfl ?_
  refine Ex.scr rfl hT hx (i_sc (l := 2) (j := 2) hi (by omega) rfl (by omega)) (by omega) ?_
  refine Ex.pure 4 (fr2 := (1104, [some (.ref 0), some (.ref 1), some (.ref 77), some (.ref 94), some (.int i), u5, u6, u7], [.int (i + 3), .ref 0, .int (xs (k + 2)), .int (xs (k + 1)), .ref 1])) rfl ?_
  refine Ex.scr rfl hT hx (i_sc (l := 3) (j := 3) hi (by omega) rfl (by omega)) (by omega) ?_
  refine Ex.pure 1 (fr2 := (1106, [some (.ref 0), some (.ref 1), some (.ref 77), some (.ref 94), some (.int i), u5, u6, u7], [.ref 94, .int (xs (k + 3)), .int (xs (k + 2)), .int (xs (k + 1)), .ref 1])) rfl ?_
  refine Ex.cal (rest := []) (j := m_L_descent) (as := [.ref 1, .int (xs (k + 1)), .int (xs (k + 2)), .int (xs (k + 3)), .ref 94]) (fun c => rfl) (Ca.ty2 (lw_descent (by omega) hs I V hc (fun r h2 y2 c2 g1 g2 I2 F2 hr ho t2 => ?_)))
  have hs2 := F2.1
  have hT2 := t2 0 L hT
  have hx2 : h2.2.1 0 = xs := (F2.2.1 0 (Or.inl rfl) (by omega)).1.trans hx
  have J2 := J.fw F2
  show Ex d [] tb_L_law (1109, [some (.ref 0), some (.ref 1), some (.ref 77), some (.ref 94), some (.int i), u5, u6, u7], [.int r]) h2 _
  refine Ex.pure 6 (fr2 := (1117, [some (.ref 0), some (.ref 1), some (.ref 77), some (.ref 94), some (.int i), some (.int r), u6, u7], [.int (i + 1), .ref 0, .ref 77])) rfl ?_
  refine Ex.scr rfl hT2 hx2 (i_sc (l := 1) (j := 1) hi (by omega) rfl (by omega)) (by omega) ?_
  refine Ex.pure 4 (fr2 := (1123, [some (.ref 0), some (.ref 1), some (.ref 77), some (.ref 94), some (.int i), some (.int r), u6, u7], [.int (i + 2), .ref 0, .int (xs (k + 1)), .ref 77])) rfl ?_
  refine Ex.scr rfl hT2 hx2 (i_sc (l := 2) (j := 2) hi (by omega) rfl (by omega)) (by omega) ?_
  refine Ex.pure 4 (fr2 := (1129, [some (.ref 0), some (.ref 1), some (.ref 77), some (.ref 94), some (.int i), some (.int r), u6, u7], [.int (i + 3), .ref 0, .int (xs (k + 2)), .int (xs (k + 1)), .ref 77])) rfl ?_
  refine Ex.scr rfl hT2 hx2 (i_sc (l := 3) (j := 3) hi (by omega) rfl (by omega)) (by omega) ?_
  refine Ex.cal (rest := []) (j := m_X7_descent) (as := [.ref 77, .int (xs (k + 1)), .int (xs (k + 2)), .int (xs (k + 3))]) (vst (a := 178) (b := 4) (c := 6) (rest := []) (vs := [.int (xs (k + 1)), .int (xs (k + 2)), .int (xs (k + 3))]) rfl ⟨Nat.le_of_ble_eq_true rfl, Nat.le_of_ble_eq_true rfl⟩ rfl rfl (sg_77 hs2)) (m_descent (by omega) hs2 J2 LD (fun rv h3 J3 F3 t3 hr3 => ?_))
  have hs3 := F3.sg hs2
  obtain ⟨b, rfl, hb3⟩ := hr3
  show Ex d [] tb_L_law (1133, [some (.ref 0), some (.ref 1), some (.ref 77), some (.ref 94), some (.int i), some (.int r), u6, u7], [.int b]) h3 _
  refine Ex.pure 2 (fr2 := (1136, [some (.ref 0), some (.ref 1), some (.ref 77), some (.ref 94), some (.int i), some (.int r), some (.int b), u7], [.ref 77])) rfl ?_
  refine Ex.ask (rest := []) (j := m_X7_thrown) (as := [.ref 77]) (vst (a := 113) (b := 1) (c := 6) (rest := []) (vs := []) rfl ⟨Nat.le_of_ble_eq_true rfl, Nat.le_of_ble_eq_true rfl⟩ rfl rfl (sg_77 hs3)) ((t_X7_thrown hs3).mono (by omega) (fun _ _ z => z)) ?_
  rintro _ h0 ⟨rfl, e0⟩
  rw [e0]
  show Ex d [] tb_L_law (1139, [some (.ref 0), some (.ref 1), some (.ref 77), some (.ref 94), some (.int i), some (.int r), some (.int b), u7], [.int (h3.2.1 77 0)]) h3 _
  refine Ex.pure 1 (fr2 := (1141, [some (.ref 0), some (.ref 1), some (.ref 77), some (.ref 94), some (.int i), some (.int r), some (.int b), u7], [.int r, .int (h3.2.1 77 0)])) rfl ?_
  refine Ex.br (x := (1146, [some (.ref 0), some (.ref 1), some (.ref 77), some (.ref 94), some (.int i), some (.int r), some (.int b), u7], [])) (y := (1144, [some (.ref 0), some (.ref 1), some (.ref 77), some (.ref 94), some (.int i), some (.int r), some (.int b), u7], [])) (b := (h3.2.1 77 0) = r) rfl (fun _ => ?_) (fun hb => absurd (Int32.toInt_inj.mp (by rw [t3, hr])) hb)
  refine Ex.pure 1 (fr2 := (1148, [some (.ref 0), some (.ref 1), some (.ref 77), some (.ref 94), some (.int i), some (.int r), some (.int b), u7], [.int r])) rfl ?_
  refine Ex.br (x := (1163, [some (.ref 0), some (.ref 1), some (.ref 77), some (.ref 94), some (.int i), some (.int r), some (.int b), u7], [])) (y := (1151, [some (.ref 0), some (.ref 1), some (.ref 77), some (.ref 94), some (.int i), some (.int r), some (.int b), u7], [])) (b := ¬ r = 0) rfl (fun _ => ?_) (fun hb => ?_)
  · skip
    refine Ex.pure 1 (fr2 := (1799, [some (.ref 0), some (.ref 1), some (.ref 77), some (.ref 94), some (.int i), some (.int r), some (.int b), u7], [])) rfl ?_
    exact kk h3 y2 c2 _ _ _ g1 g2 hs3 (by rw [F3.1]; exact hT2) ((F3.2.2 0 (by omega)).1.trans hx2) (I2.fm hs2 F3) J3 (by rw [F3.1]; exact F2.2.2.1) (by rw [F3.2.1]; exact F2.2.2.2)
  · have h0 : (f_descent (xs (k + 1)) (xs (k + 2)) (xs (k + 3)) S).1 = 0 := by
      have := i_ne.mp (Classical.not_not.mp hb)
      omega
    have q1 : (h3.2.2.1 94 0).toInt = (f_descent (xs (k + 1)) (xs (k + 2)) (xs (k + 3)) S).2.1 := by
      rw [(F3.2.2 94 (by omega)).2]
      exact ho h0 (by decide)
    have q2 := hb3 h0
    refine Ex.pure 2 (fr2 := (1153, [some (.ref 0), some (.ref 1), some (.ref 77), some (.ref 94), some (.int i), some (.int r), some (.int b), u7], [.int 0, .ref 94])) rfl ?_
    refine Ex.lald rfl (sg_94 hs3) (by decide) ?_
    show Ex d [] tb_L_law (1154, [some (.ref 0), some (.ref 1), some (.ref 77), some (.ref 94), some (.int i), some (.int r), some (.int b), u7], [.long (h3.2.2.1 94 0)]) h3 _
    refine Ex.pure 3 (fr2 := (1158, [some (.ref 0), some (.ref 1), some (.ref 77), some (.ref 94), some (.int i), some (.int r), some (.int b), u7], [.int (lg_cmp (h3.2.2.1 94 0) ((b).toInt64))])) rfl ?_
    refine Ex.br (x := (1163, [some (.ref 0), some (.ref 1), some (.ref 77), some (.ref 94), some (.int i), some (.int r), some (.int b), u7], [])) (y := (1161, [some (.ref 0), some (.ref 1), some (.ref 77), some (.ref 94), some (.int i), some (.int r), some (.int b), u7], [])) (b := (lg_cmp (h3.2.2.1 94 0) ((b).toInt64)) = 0) rfl (fun _ => ?_) (fun hb => absurd ((lg_cmp_eq _ _).mpr (Int64.toInt_inj.mp (by rw [i_2j, q1, q2]))) hb)
    refine Ex.pure 1 (fr2 := (1799, [some (.ref 0), some (.ref 1), some (.ref 77), some (.ref 94), some (.int i), some (.int r), some (.int b), u7], [])) rfl ?_
    exact kk h3 y2 c2 _ _ _ g1 g2 hs3 (by rw [F3.1]; exact hT2) ((F3.2.2 0 (by omega)).1.trans hx2) (I2.fm hs2 F3) J3 (by rw [F3.1]; exact F2.2.2.1) (by rw [F3.2.1]; exact F2.2.2.2)
set_option maxRecDepth 100000 in
theorem cs_powers (hd : 70 ≤ d) (hs : Sg h.1 y) (hT : h.1[0]? = some (5, L, [])) (hx : h.2.1 0 = xs) (I : CI h y c S) (J : MI h S) (V : VA S) (LB : LBS S) (LD : LBD S) (hc : c + 10020 < 16384) (hi : i.toInt = k) (hk : k + 6 < L) (hL : L ≤ 3584) (kk : KL i L xs c h y (f_powers (xs (k + 1)) S).2.2 d K E) : Ex d [] tb_L_law (1166, [some (.ref 0), some (.ref 1), some (.ref 77), some (.ref 94), some (.int i), u5, u6, u7], []) h (Po K E) := by
  refine Ex.pure 5 (fr2 := (1172, [some (.ref 0), some (.ref 1), some (.ref 77), some (.ref 94), some (.int i), u5, u6, u7], [.int (i + 1), .ref 0, .ref 1])) rfl ?_
  refine Ex.scr rfl hT hx (i_sc (l := 1) (j := 1) hi (by omega) rfl (by omega)) (by omega) ?_
  refine Ex.pure 1 (fr2 := (1174, [some (.ref 0), some (.ref 1), some (.ref 77), some (.ref 94), some (.int i), u5, u6, u7], [.ref 94, .int (xs (k + 1)), .ref 1])) rfl ?_
  refine Ex.cal (rest := []) (j := m_L_powers) (as := [.ref 1, .int (xs (k + 1)), .ref 94]) (fun c => rfl) (Ca.ty2 (lw_powers (by omega) hs I V hc (fun r h2 y2 c2 g1 g2 I2 F2 hr ho t2 => ?_)))
  have hs2 := F2.1
  have hT2 := t2 0 L hT
  have hx2 : h2.2.1 0 = xs := (F2.2.1 0 (Or.inl rfl) (by omega)).1.trans hx
  have J2 := J.fw F2
  show Ex d [] tb_L_law (1177, [some (.ref 0), some (.ref 1), some (.ref 77), some (.ref 94), some (.int i), u5, u6, u7], [.int r]) h2 _
  refine Ex.pure 6 (fr2 := (1185, [some (.ref 0), some (.ref 1), some (.ref 77), some (.ref 94), some (.int i), some (.int r), u6, u7], [.int (i + 1), .ref 0, .ref 77])) rfl ?_
  refine Ex.scr rfl hT2 hx2 (i_sc (l := 1) (j := 1) hi (by omega) rfl (by omega)) (by omega) ?_
  refine Ex.cal (rest := []) (j := m_X7_powers) (as := [.ref 77, .int (xs (k + 1))]) (vst (a := 179) (b := 2) (c := 6) (rest := []) (vs := [.int (xs (k + 1))]) rfl ⟨Nat.le_of_ble_eq_true rfl, Nat.le_of_ble_eq_true rfl⟩ rfl rfl (sg_77 hs2)) (m_powers (by omega) hs2 J2  (fun rv h3 J3 F3 t3 hr3 => ?_))
  have hs3 := F3.sg hs2
  obtain ⟨b, rfl, hb3⟩ := hr3
  show Ex d [] tb_L_law (1189, [some (.ref 0), some (.ref 1), some (.ref 77), some (.ref 94), some (.int i), some (.int r), u6, u7], [.int b]) h3 _
  refine Ex.pure 2 (fr2 := (1192, [some (.ref 0), some (.ref 1), some (.ref 77), some (.ref 94), some (.int i), some (.int r), some (.int b), u7], [.ref 77])) rfl ?_
  refine Ex.ask (rest := []) (j := m_X7_thrown) (as := [.ref 77]) (vst (a := 113) (b := 1) (c := 6) (rest := []) (vs := []) rfl ⟨Nat.le_of_ble_eq_true rfl, Nat.le_of_ble_eq_true rfl⟩ rfl rfl (sg_77 hs3)) ((t_X7_thrown hs3).mono (by omega) (fun _ _ z => z)) ?_
  rintro _ h0 ⟨rfl, e0⟩
  rw [e0]
  show Ex d [] tb_L_law (1195, [some (.ref 0), some (.ref 1), some (.ref 77), some (.ref 94), some (.int i), some (.int r), some (.int b), u7], [.int (h3.2.1 77 0)]) h3 _
  refine Ex.pure 1 (fr2 := (1197, [some (.ref 0), some (.ref 1), some (.ref 77), some (.ref 94), some (.int i), some (.int r), some (.int b), u7], [.int r, .int (h3.2.1 77 0)])) rfl ?_
  refine Ex.br (x := (1202, [some (.ref 0), some (.ref 1), some (.ref 77), some (.ref 94), some (.int i), some (.int r), some (.int b), u7], [])) (y := (1200, [some (.ref 0), some (.ref 1), some (.ref 77), some (.ref 94), some (.int i), some (.int r), some (.int b), u7], [])) (b := (h3.2.1 77 0) = r) rfl (fun _ => ?_) (fun hb => absurd (Int32.toInt_inj.mp (by rw [t3, hr])) hb)
  refine Ex.pure 1 (fr2 := (1204, [some (.ref 0), some (.ref 1), some (.ref 77), some (.ref 94), some (.int i), some (.int r), some (.int b), u7], [.int r])) rfl ?_
  refine Ex.br (x := (1219, [some (.ref 0), some (.ref 1), some (.ref 77), some (.ref 94), some (.int i), some (.int r), some (.int b), u7], [])) (y := (1207, [some (.ref 0), some (.ref 1), some (.ref 77), some (.ref 94), some (.int i), some (.int r), some (.int b), u7], [])) (b := ¬ r = 0) rfl (fun _ => ?_) (fun hb => ?_)
  · skip
    refine Ex.pure 1 (fr2 := (1799, [some (.ref 0), some (.ref 1), some (.ref 77), some (.ref 94), some (.int i), some (.int r), some (.int b), u7], [])) rfl ?_
    exact kk h3 y2 c2 _ _ _ g1 g2 hs3 (by rw [F3.1]; exact hT2) ((F3.2.2 0 (by omega)).1.trans hx2) (I2.fm hs2 F3) J3 (by rw [F3.1]; exact F2.2.2.1) (by rw [F3.2.1]; exact F2.2.2.2)
  · have h0 : (f_powers (xs (k + 1)) S).1 = 0 := by
      have := i_ne.mp (Classical.not_not.mp hb)
      omega
    have q1 : (h3.2.2.1 94 0).toInt = (f_powers (xs (k + 1)) S).2.1 := by
      rw [(F3.2.2 94 (by omega)).2]
      exact ho h0 (by decide)
    have q2 := hb3 h0
    refine Ex.pure 2 (fr2 := (1209, [some (.ref 0), some (.ref 1), some (.ref 77), some (.ref 94), some (.int i), some (.int r), some (.int b), u7], [.int 0, .ref 94])) rfl ?_
    refine Ex.lald rfl (sg_94 hs3) (by decide) ?_
    show Ex d [] tb_L_law (1210, [some (.ref 0), some (.ref 1), some (.ref 77), some (.ref 94), some (.int i), some (.int r), some (.int b), u7], [.long (h3.2.2.1 94 0)]) h3 _
    refine Ex.pure 3 (fr2 := (1214, [some (.ref 0), some (.ref 1), some (.ref 77), some (.ref 94), some (.int i), some (.int r), some (.int b), u7], [.int (lg_cmp (h3.2.2.1 94 0) ((b).toInt64))])) rfl ?_
    refine Ex.br (x := (1219, [some (.ref 0), some (.ref 1), some (.ref 77), some (.ref 94), some (.int i), some (.int r), some (.int b), u7], [])) (y := (1217, [some (.ref 0), some (.ref 1), some (.ref 77), some (.ref 94), some (.int i), some (.int r), some (.int b), u7], [])) (b := (lg_cmp (h3.2.2.1 94 0) ((b).toInt64)) = 0) rfl (fun _ => ?_) (fun hb => absurd ((lg_cmp_eq _ _).mpr (Int64.toInt_inj.mp (by rw [i_2j, q1, q2]))) hb)
    refine Ex.pure 1 (fr2 := (1799, [some (.ref 0), some (.ref 1), some (.ref 77), some (.ref 94), some (.int i), some (.int r), some (.int b), u7], [])) rfl ?_
    exact kk h3 y2 c2 _ _ _ g1 g2 hs3 (by rw [F3.1]; exact hT2) ((F3.2.2 0 (by omega)).1.trans hx2) (I2.fm hs2 F3) J3 (by rw [F3.1]; exact F2.2.2.1) (by rw [F3.2.1]; exact F2.2.2.2)
set_option maxRecDepth 100000 in
theorem cs_times (hd : 70 ≤ d) (hs : Sg h.1 y) (hT : h.1[0]? = some (5, L, [])) (hx : h.2.1 0 = xs) (I : CI h y c S) (J : MI h S) (V : VA S) (LB : LBS S) (LD : LBD S) (hc : c + 10020 < 16384) (hi : i.toInt = k) (hk : k + 6 < L) (hL : L ≤ 3584) (kk : KL i L xs c h y (f_times (xs (k + 1)) (xs (k + 2)) S).2.2 d K E) : Ex d [] tb_L_law (1222, [some (.ref 0), some (.ref 1), some (.ref 77), some (.ref 94), some (.int i), u5, u6, u7], []) h (Po K E) := by
  refine Ex.pure 5 (fr2 := (1228, [some (.ref 0), some (.ref 1), some (.ref 77), some (.ref 94), some (.int i), u5, u6, u7], [.int (i + 1), .ref 0, .ref 1])) rfl ?_
  refine Ex.scr rfl hT hx (i_sc (l := 1) (j := 1) hi (by omega) rfl (by omega)) (by omega) ?_
  refine Ex.pure 4 (fr2 := (1234, [some (.ref 0), some (.ref 1), some (.ref 77), some (.ref 94), some (.int i), u5, u6, u7], [.int (i + 2), .ref 0, .int (xs (k + 1)), .ref 1])) rfl ?_
  refine Ex.scr rfl hT hx (i_sc (l := 2) (j := 2) hi (by omega) rfl (by omega)) (by omega) ?_
  refine Ex.pure 1 (fr2 := (1236, [some (.ref 0), some (.ref 1), some (.ref 77), some (.ref 94), some (.int i), u5, u6, u7], [.ref 94, .int (xs (k + 2)), .int (xs (k + 1)), .ref 1])) rfl ?_
  refine Ex.cal (rest := []) (j := m_L_times) (as := [.ref 1, .int (xs (k + 1)), .int (xs (k + 2)), .ref 94]) (fun c => rfl) (Ca.ty2 (lw_times (by omega) hs I V hc (fun r h2 y2 c2 g1 g2 I2 F2 hr ho t2 => ?_)))
  have hs2 := F2.1
  have hT2 := t2 0 L hT
  have hx2 : h2.2.1 0 = xs := (F2.2.1 0 (Or.inl rfl) (by omega)).1.trans hx
  have J2 := J.fw F2
  show Ex d [] tb_L_law (1239, [some (.ref 0), some (.ref 1), some (.ref 77), some (.ref 94), some (.int i), u5, u6, u7], [.int r]) h2 _
  refine Ex.pure 6 (fr2 := (1247, [some (.ref 0), some (.ref 1), some (.ref 77), some (.ref 94), some (.int i), some (.int r), u6, u7], [.int (i + 1), .ref 0, .ref 77])) rfl ?_
  refine Ex.scr rfl hT2 hx2 (i_sc (l := 1) (j := 1) hi (by omega) rfl (by omega)) (by omega) ?_
  refine Ex.pure 4 (fr2 := (1253, [some (.ref 0), some (.ref 1), some (.ref 77), some (.ref 94), some (.int i), some (.int r), u6, u7], [.int (i + 2), .ref 0, .int (xs (k + 1)), .ref 77])) rfl ?_
  refine Ex.scr rfl hT2 hx2 (i_sc (l := 2) (j := 2) hi (by omega) rfl (by omega)) (by omega) ?_
  refine Ex.cal (rest := []) (j := m_X7_times) (as := [.ref 77, .int (xs (k + 1)), .int (xs (k + 2))]) (vst (a := 181) (b := 3) (c := 6) (rest := []) (vs := [.int (xs (k + 1)), .int (xs (k + 2))]) rfl ⟨Nat.le_of_ble_eq_true rfl, Nat.le_of_ble_eq_true rfl⟩ rfl rfl (sg_77 hs2)) (m_times (by omega) hs2 J2  (fun rv h3 J3 F3 t3 hr3 => ?_))
  have hs3 := F3.sg hs2
  obtain ⟨b, rfl, hb3⟩ := hr3
  show Ex d [] tb_L_law (1257, [some (.ref 0), some (.ref 1), some (.ref 77), some (.ref 94), some (.int i), some (.int r), u6, u7], [.long b]) h3 _
  refine Ex.pure 2 (fr2 := (1260, [some (.ref 0), some (.ref 1), some (.ref 77), some (.ref 94), some (.int i), some (.int r), some (.long b), none], [.ref 77])) rfl ?_
  refine Ex.ask (rest := []) (j := m_X7_thrown) (as := [.ref 77]) (vst (a := 113) (b := 1) (c := 6) (rest := []) (vs := []) rfl ⟨Nat.le_of_ble_eq_true rfl, Nat.le_of_ble_eq_true rfl⟩ rfl rfl (sg_77 hs3)) ((t_X7_thrown hs3).mono (by omega) (fun _ _ z => z)) ?_
  rintro _ h0 ⟨rfl, e0⟩
  rw [e0]
  show Ex d [] tb_L_law (1263, [some (.ref 0), some (.ref 1), some (.ref 77), some (.ref 94), some (.int i), some (.int r), some (.long b), none], [.int (h3.2.1 77 0)]) h3 _
  refine Ex.pure 1 (fr2 := (1265, [some (.ref 0), some (.ref 1), some (.ref 77), some (.ref 94), some (.int i), some (.int r), some (.long b), none], [.int r, .int (h3.2.1 77 0)])) rfl ?_
  refine Ex.br (x := (1270, [some (.ref 0), some (.ref 1), some (.ref 77), some (.ref 94), some (.int i), some (.int r), some (.long b), none], [])) (y := (1268, [some (.ref 0), some (.ref 1), some (.ref 77), some (.ref 94), some (.int i), some (.int r), some (.long b), none], [])) (b := (h3.2.1 77 0) = r) rfl (fun _ => ?_) (fun hb => absurd (Int32.toInt_inj.mp (by rw [t3, hr])) hb)
  refine Ex.pure 1 (fr2 := (1272, [some (.ref 0), some (.ref 1), some (.ref 77), some (.ref 94), some (.int i), some (.int r), some (.long b), none], [.int r])) rfl ?_
  refine Ex.br (x := (1286, [some (.ref 0), some (.ref 1), some (.ref 77), some (.ref 94), some (.int i), some (.int r), some (.long b), none], [])) (y := (1275, [some (.ref 0), some (.ref 1), some (.ref 77), some (.ref 94), some (.int i), some (.int r), some (.long b), none], [])) (b := ¬ r = 0) rfl (fun _ => ?_) (fun hb => ?_)
  · skip
    refine Ex.pure 1 (fr2 := (1799, [some (.ref 0), some (.ref 1), some (.ref 77), some (.ref 94), some (.int i), some (.int r), some (.long b), none], [])) rfl ?_
    exact kk h3 y2 c2 _ _ _ g1 g2 hs3 (by rw [F3.1]; exact hT2) ((F3.2.2 0 (by omega)).1.trans hx2) (I2.fm hs2 F3) J3 (by rw [F3.1]; exact F2.2.2.1) (by rw [F3.2.1]; exact F2.2.2.2)
  · have h0 : (f_times (xs (k + 1)) (xs (k + 2)) S).1 = 0 := by
      have := i_ne.mp (Classical.not_not.mp hb)
      omega
    have q1 : (h3.2.2.1 94 0).toInt = (f_times (xs (k + 1)) (xs (k + 2)) S).2.1 := by
      rw [(F3.2.2 94 (by omega)).2]
      exact ho h0 (by decide)
    have q2 := hb3 h0
    refine Ex.pure 2 (fr2 := (1277, [some (.ref 0), some (.ref 1), some (.ref 77), some (.ref 94), some (.int i), some (.int r), some (.long b), none], [.int 0, .ref 94])) rfl ?_
    refine Ex.lald rfl (sg_94 hs3) (by decide) ?_
    show Ex d [] tb_L_law (1278, [some (.ref 0), some (.ref 1), some (.ref 77), some (.ref 94), some (.int i), some (.int r), some (.long b), none], [.long (h3.2.2.1 94 0)]) h3 _
    refine Ex.pure 2 (fr2 := (1281, [some (.ref 0), some (.ref 1), some (.ref 77), some (.ref 94), some (.int i), some (.int r), some (.long b), none], [.int (lg_cmp (h3.2.2.1 94 0) b)])) rfl ?_
    refine Ex.br (x := (1286, [some (.ref 0), some (.ref 1), some (.ref 77), some (.ref 94), some (.int i), some (.int r), some (.long b), none], [])) (y := (1284, [some (.ref 0), some (.ref 1), some (.ref 77), some (.ref 94), some (.int i), some (.int r), some (.long b), none], [])) (b := (lg_cmp (h3.2.2.1 94 0) b) = 0) rfl (fun _ => ?_) (fun hb => absurd ((lg_cmp_eq _ _).mpr (Int64.toInt_inj.mp (by rw [q1, q2]))) hb)
    refine Ex.pure 1 (fr2 := (1799, [some (.ref 0), some (.ref 1), some (.ref 77), some (.ref 94), some (.int i), some (.int r), some (.long b), none], [])) rfl ?_
    exact kk h3 y2 c2 _ _ _ g1 g2 hs3 (by rw [F3.1]; exact hT2) ((F3.2.2 0 (by omega)).1.trans hx2) (I2.fm hs2 F3) J3 (by rw [F3.1]; exact F2.2.2.1) (by rw [F3.2.1]; exact F2.2.2.2)
set_option maxRecDepth 100000 in
theorem cs_exponent (hd : 70 ≤ d) (hs : Sg h.1 y) (hT : h.1[0]? = some (5, L, [])) (hx : h.2.1 0 = xs) (I : CI h y c S) (J : MI h S) (V : VA S) (LB : LBS S) (LD : LBD S) (hc : c + 10020 < 16384) (hi : i.toInt = k) (hk : k + 6 < L) (hL : L ≤ 3584) (kk : KL i L xs c h y (f_exponent (xs (k + 1)) (xs (k + 2)) (xs (k + 3)) S).2.2 d K E) : Ex d [] tb_L_law (1289, [some (.ref 0), some (.ref 1), some (.ref 77), some (.ref 94), some (.int i), u5, u6, u7], []) h (Po K E) := by
  refine Ex.pure 5 (fr2 := (1295, [some (.ref 0), some (.ref 1), some (.ref 77), some (.ref 94), some (.int i), u5, u6, u7], [.int (i + 1), .ref 0, .ref 1])) rfl ?_
  refine Ex.scr rfl hT hx (i_sc (l := 1) (j := 1) hi (by omega) rfl (by omega)) (by omega) ?_
  refine Ex.pure 4 (fr2 := (1301, [some (.ref 0), some (.ref 1), some (.ref 77), some (.ref 94), some (.int i), u5, u6, u7], [.int (i + 2), .ref 0, .int (xs (k + 1)), .ref 1])) rfl ?_
  refine Ex.scr rfl hT hx (i_sc (l := 2) (j := 2) hi (by omega) rfl (by omega)) (by omega) ?_
  refine Ex.pure 4 (fr2 := (1307, [some (.ref 0), some (.ref 1), some (.ref 77), some (.ref 94), some (.int i), u5, u6, u7], [.int (i + 3), .ref 0, .int (xs (k + 2)), .int (xs (k + 1)), .ref 1])) rfl ?_
  refine Ex.scr rfl hT hx (i_sc (l := 3) (j := 3) hi (by omega) rfl (by omega)) (by omega) ?_
  refine Ex.cal (rest := []) (j := m_L_exponent) (as := [.ref 1, .int (xs (k + 1)), .int (xs (k + 2)), .int (xs (k + 3))]) (fun c => rfl) (Ca.ty2 (lw_exponent (by omega) hs I V hc (fun r h2 y2 c2 g1 g2 I2 F2 hr ho t2 => ?_)))
  have hs2 := F2.1
  have hT2 := t2 0 L hT
  have hx2 : h2.2.1 0 = xs := (F2.2.1 0 (Or.inl rfl) (by omega)).1.trans hx
  have J2 := J.fw F2
  show Ex d [] tb_L_law (1311, [some (.ref 0), some (.ref 1), some (.ref 77), some (.ref 94), some (.int i), u5, u6, u7], [.int r]) h2 _
  refine Ex.pure 6 (fr2 := (1319, [some (.ref 0), some (.ref 1), some (.ref 77), some (.ref 94), some (.int i), some (.int r), u6, u7], [.int (i + 1), .ref 0, .ref 77])) rfl ?_
  refine Ex.scr rfl hT2 hx2 (i_sc (l := 1) (j := 1) hi (by omega) rfl (by omega)) (by omega) ?_
  refine Ex.pure 4 (fr2 := (1325, [some (.ref 0), some (.ref 1), some (.ref 77), some (.ref 94), some (.int i), some (.int r), u6, u7], [.int (i + 2), .ref 0, .int (xs (k + 1)), .ref 77])) rfl ?_
  refine Ex.scr rfl hT2 hx2 (i_sc (l := 2) (j := 2) hi (by omega) rfl (by omega)) (by omega) ?_
  refine Ex.pure 4 (fr2 := (1331, [some (.ref 0), some (.ref 1), some (.ref 77), some (.ref 94), some (.int i), some (.int r), u6, u7], [.int (i + 3), .ref 0, .int (xs (k + 2)), .int (xs (k + 1)), .ref 77])) rfl ?_
  refine Ex.scr rfl hT2 hx2 (i_sc (l := 3) (j := 3) hi (by omega) rfl (by omega)) (by omega) ?_
  refine Ex.cal (rest := []) (j := m_X7_exponent) (as := [.ref 77, .int (xs (k + 1)), .int (xs (k + 2)), .int (xs (k + 3))]) (vst (a := 182) (b := 4) (c := 6) (rest := []) (vs := [.int (xs (k + 1)), .int (xs (k + 2)), .int (xs (k + 3))]) rfl ⟨Nat.le_of_ble_eq_true rfl, Nat.le_of_ble_eq_true rfl⟩ rfl rfl (sg_77 hs2)) (m_exponent (by omega) hs2 J2  (fun rv h3 J3 F3 t3 hr3 => ?_))
  have hs3 := F3.sg hs2
  have hr3 : rv = none := hr3
  subst hr3
  show Ex d [] tb_L_law (1335, [some (.ref 0), some (.ref 1), some (.ref 77), some (.ref 94), some (.int i), some (.int r), u6, u7], []) h3 _
  refine Ex.pure 1 (fr2 := (1336, [some (.ref 0), some (.ref 1), some (.ref 77), some (.ref 94), some (.int i), some (.int r), u6, u7], [.ref 77])) rfl ?_
  refine Ex.ask (rest := []) (j := m_X7_thrown) (as := [.ref 77]) (vst (a := 113) (b := 1) (c := 6) (rest := []) (vs := []) rfl ⟨Nat.le_of_ble_eq_true rfl, Nat.le_of_ble_eq_true rfl⟩ rfl rfl (sg_77 hs3)) ((t_X7_thrown hs3).mono (by omega) (fun _ _ z => z)) ?_
  rintro _ h0 ⟨rfl, e0⟩
  rw [e0]
  show Ex d [] tb_L_law (1339, [some (.ref 0), some (.ref 1), some (.ref 77), some (.ref 94), some (.int i), some (.int r), u6, u7], [.int (h3.2.1 77 0)]) h3 _
  refine Ex.pure 1 (fr2 := (1341, [some (.ref 0), some (.ref 1), some (.ref 77), some (.ref 94), some (.int i), some (.int r), u6, u7], [.int r, .int (h3.2.1 77 0)])) rfl ?_
  refine Ex.br (x := (1346, [some (.ref 0), some (.ref 1), some (.ref 77), some (.ref 94), some (.int i), some (.int r), u6, u7], [])) (y := (1344, [some (.ref 0), some (.ref 1), some (.ref 77), some (.ref 94), some (.int i), some (.int r), u6, u7], [])) (b := (h3.2.1 77 0) = r) rfl (fun _ => ?_) (fun hb => absurd (Int32.toInt_inj.mp (by rw [t3, hr])) hb)
  refine Ex.pure 1 (fr2 := (1799, [some (.ref 0), some (.ref 1), some (.ref 77), some (.ref 94), some (.int i), some (.int r), u6, u7], [])) rfl ?_
  exact kk h3 y2 c2 _ _ _ g1 g2 hs3 (by rw [F3.1]; exact hT2) ((F3.2.2 0 (by omega)).1.trans hx2) (I2.fm hs2 F3) J3 (by rw [F3.1]; exact F2.2.2.1) (by rw [F3.2.1]; exact F2.2.2.2)
set_option maxRecDepth 100000 in
theorem cs_cut (hd : 70 ≤ d) (hs : Sg h.1 y) (hT : h.1[0]? = some (5, L, [])) (hx : h.2.1 0 = xs) (I : CI h y c S) (J : MI h S) (V : VA S) (LB : LBS S) (LD : LBD S) (hc : c + 10020 < 16384) (hi : i.toInt = k) (hk : k + 6 < L) (hL : L ≤ 3584) (kk : KL i L xs c h y (f_cut (xs (k + 1)) (xs (k + 2)) (xs (k + 3)) S).2.2 d K E) : Ex d [] tb_L_law (1349, [some (.ref 0), some (.ref 1), some (.ref 77), some (.ref 94), some (.int i), u5, u6, u7], []) h (Po K E) := by
  refine Ex.pure 5 (fr2 := (1355, [some (.ref 0), some (.ref 1), some (.ref 77), some (.ref 94), some (.int i), u5, u6, u7], [.int (i + 1), .ref 0, .ref 1])) rfl ?_
  refine Ex.scr rfl hT hx (i_sc (l := 1) (j := 1) hi (by omega) rfl (by omega)) (by omega) ?_
  refine Ex.pure 4 (fr2 := (1361, [some (.ref 0), some (.ref 1), some (.ref 77), some (.ref 94), some (.int i), u5, u6, u7], [.int (i + 2), .ref 0, .int (xs (k + 1)), .ref 1])) rfl ?_
  refine Ex.scr rfl hT hx (i_sc (l := 2) (j := 2) hi (by omega) rfl (by omega)) (by omega) ?_
  refine Ex.pure 4 (fr2 := (1367, [some (.ref 0), some (.ref 1), some (.ref 77), some (.ref 94), some (.int i), u5, u6, u7], [.int (i + 3), .ref 0, .int (xs (k + 2)), .int (xs (k + 1)), .ref 1])) rfl ?_
  refine Ex.scr rfl hT hx (i_sc (l := 3) (j := 3) hi (by omega) rfl (by omega)) (by omega) ?_
  refine Ex.pure 1 (fr2 := (1369, [some (.ref 0), some (.ref 1), some (.ref 77), some (.ref 94), some (.int i), u5, u6, u7], [.ref 94, .int (xs (k + 3)), .int (xs (k + 2)), .int (xs (k + 1)), .ref 1])) rfl ?_
  refine Ex.cal (rest := []) (j := m_L_cut) (as := [.ref 1, .int (xs (k + 1)), .int (xs (k + 2)), .int (xs (k + 3)), .ref 94]) (fun c => rfl) (Ca.ty2 (lw_cut (by omega) hs I V hc (fun r h2 y2 c2 g1 g2 I2 F2 hr ho t2 => ?_)))
  have hs2 := F2.1
  have hT2 := t2 0 L hT
  have hx2 : h2.2.1 0 = xs := (F2.2.1 0 (Or.inl rfl) (by omega)).1.trans hx
  have J2 := J.fw F2
  show Ex d [] tb_L_law (1372, [some (.ref 0), some (.ref 1), some (.ref 77), some (.ref 94), some (.int i), u5, u6, u7], [.int r]) h2 _
  refine Ex.pure 6 (fr2 := (1380, [some (.ref 0), some (.ref 1), some (.ref 77), some (.ref 94), some (.int i), some (.int r), u6, u7], [.int (i + 1), .ref 0, .ref 77])) rfl ?_
  refine Ex.scr rfl hT2 hx2 (i_sc (l := 1) (j := 1) hi (by omega) rfl (by omega)) (by omega) ?_
  refine Ex.pure 4 (fr2 := (1386, [some (.ref 0), some (.ref 1), some (.ref 77), some (.ref 94), some (.int i), some (.int r), u6, u7], [.int (i + 2), .ref 0, .int (xs (k + 1)), .ref 77])) rfl ?_
  refine Ex.scr rfl hT2 hx2 (i_sc (l := 2) (j := 2) hi (by omega) rfl (by omega)) (by omega) ?_
  refine Ex.pure 4 (fr2 := (1392, [some (.ref 0), some (.ref 1), some (.ref 77), some (.ref 94), some (.int i), some (.int r), u6, u7], [.int (i + 3), .ref 0, .int (xs (k + 2)), .int (xs (k + 1)), .ref 77])) rfl ?_
  refine Ex.scr rfl hT2 hx2 (i_sc (l := 3) (j := 3) hi (by omega) rfl (by omega)) (by omega) ?_
  refine Ex.cal (rest := []) (j := m_X7_cut) (as := [.ref 77, .int (xs (k + 1)), .int (xs (k + 2)), .int (xs (k + 3))]) (vst (a := 185) (b := 4) (c := 6) (rest := []) (vs := [.int (xs (k + 1)), .int (xs (k + 2)), .int (xs (k + 3))]) rfl ⟨Nat.le_of_ble_eq_true rfl, Nat.le_of_ble_eq_true rfl⟩ rfl rfl (sg_77 hs2)) (m_cut (by omega) hs2 J2 V.1 (fun rv h3 J3 F3 t3 hr3 => ?_))
  have hs3 := F3.sg hs2
  obtain ⟨b, rfl, hb3⟩ := hr3
  show Ex d [] tb_L_law (1396, [some (.ref 0), some (.ref 1), some (.ref 77), some (.ref 94), some (.int i), some (.int r), u6, u7], [.int b]) h3 _
  refine Ex.pure 2 (fr2 := (1399, [some (.ref 0), some (.ref 1), some (.ref 77), some (.ref 94), some (.int i), some (.int r), some (.int b), u7], [.ref 77])) rfl ?_
  refine Ex.ask (rest := []) (j := m_X7_thrown) (as := [.ref 77]) (vst (a := 113) (b := 1) (c := 6) (rest := []) (vs := []) rfl ⟨Nat.le_of_ble_eq_true rfl, Nat.le_of_ble_eq_true rfl⟩ rfl rfl (sg_77 hs3)) ((t_X7_thrown hs3).mono (by omega) (fun _ _ z => z)) ?_
  rintro _ h0 ⟨rfl, e0⟩
  rw [e0]
  show Ex d [] tb_L_law (1402, [some (.ref 0), some (.ref 1), some (.ref 77), some (.ref 94), some (.int i), some (.int r), some (.int b), u7], [.int (h3.2.1 77 0)]) h3 _
  refine Ex.pure 1 (fr2 := (1404, [some (.ref 0), some (.ref 1), some (.ref 77), some (.ref 94), some (.int i), some (.int r), some (.int b), u7], [.int r, .int (h3.2.1 77 0)])) rfl ?_
  refine Ex.br (x := (1409, [some (.ref 0), some (.ref 1), some (.ref 77), some (.ref 94), some (.int i), some (.int r), some (.int b), u7], [])) (y := (1407, [some (.ref 0), some (.ref 1), some (.ref 77), some (.ref 94), some (.int i), some (.int r), some (.int b), u7], [])) (b := (h3.2.1 77 0) = r) rfl (fun _ => ?_) (fun hb => absurd (Int32.toInt_inj.mp (by rw [t3, hr])) hb)
  refine Ex.pure 1 (fr2 := (1411, [some (.ref 0), some (.ref 1), some (.ref 77), some (.ref 94), some (.int i), some (.int r), some (.int b), u7], [.int r])) rfl ?_
  refine Ex.br (x := (1426, [some (.ref 0), some (.ref 1), some (.ref 77), some (.ref 94), some (.int i), some (.int r), some (.int b), u7], [])) (y := (1414, [some (.ref 0), some (.ref 1), some (.ref 77), some (.ref 94), some (.int i), some (.int r), some (.int b), u7], [])) (b := ¬ r = 0) rfl (fun _ => ?_) (fun hb => ?_)
  · skip
    refine Ex.pure 1 (fr2 := (1799, [some (.ref 0), some (.ref 1), some (.ref 77), some (.ref 94), some (.int i), some (.int r), some (.int b), u7], [])) rfl ?_
    exact kk h3 y2 c2 _ _ _ g1 g2 hs3 (by rw [F3.1]; exact hT2) ((F3.2.2 0 (by omega)).1.trans hx2) (I2.fm hs2 F3) J3 (by rw [F3.1]; exact F2.2.2.1) (by rw [F3.2.1]; exact F2.2.2.2)
  · have h0 : (f_cut (xs (k + 1)) (xs (k + 2)) (xs (k + 3)) S).1 = 0 := by
      have := i_ne.mp (Classical.not_not.mp hb)
      omega
    have q1 : (h3.2.2.1 94 0).toInt = (f_cut (xs (k + 1)) (xs (k + 2)) (xs (k + 3)) S).2.1 := by
      rw [(F3.2.2 94 (by omega)).2]
      exact ho h0 (by decide)
    have q2 := hb3 h0
    refine Ex.pure 2 (fr2 := (1416, [some (.ref 0), some (.ref 1), some (.ref 77), some (.ref 94), some (.int i), some (.int r), some (.int b), u7], [.int 0, .ref 94])) rfl ?_
    refine Ex.lald rfl (sg_94 hs3) (by decide) ?_
    show Ex d [] tb_L_law (1417, [some (.ref 0), some (.ref 1), some (.ref 77), some (.ref 94), some (.int i), some (.int r), some (.int b), u7], [.long (h3.2.2.1 94 0)]) h3 _
    refine Ex.pure 3 (fr2 := (1421, [some (.ref 0), some (.ref 1), some (.ref 77), some (.ref 94), some (.int i), some (.int r), some (.int b), u7], [.int (lg_cmp (h3.2.2.1 94 0) ((b).toInt64))])) rfl ?_
    refine Ex.br (x := (1426, [some (.ref 0), some (.ref 1), some (.ref 77), some (.ref 94), some (.int i), some (.int r), some (.int b), u7], [])) (y := (1424, [some (.ref 0), some (.ref 1), some (.ref 77), some (.ref 94), some (.int i), some (.int r), some (.int b), u7], [])) (b := (lg_cmp (h3.2.2.1 94 0) ((b).toInt64)) = 0) rfl (fun _ => ?_) (fun hb => absurd ((lg_cmp_eq _ _).mpr (Int64.toInt_inj.mp (by rw [i_2j, q1, q2]))) hb)
    refine Ex.pure 1 (fr2 := (1799, [some (.ref 0), some (.ref 1), some (.ref 77), some (.ref 94), some (.int i), some (.int r), some (.int b), u7], [])) rfl ?_
    exact kk h3 y2 c2 _ _ _ g1 g2 hs3 (by rw [F3.1]; exact hT2) ((F3.2.2 0 (by omega)).1.trans hx2) (I2.fm hs2 F3) J3 (by rw [F3.1]; exact F2.2.2.1) (by rw [F3.2.1]; exact F2.2.2.2)
set_option maxRecDepth 100000 in
theorem cs_birthday (hd : 70 ≤ d) (hs : Sg h.1 y) (hT : h.1[0]? = some (5, L, [])) (hx : h.2.1 0 = xs) (I : CI h y c S) (J : MI h S) (V : VA S) (LB : LBS S) (LD : LBD S) (hc : c + 10020 < 16384) (hi : i.toInt = k) (hk : k + 6 < L) (hL : L ≤ 3584) (kk : KL i L xs c h y (f_birthday (xs (k + 1)) S).2.2 d K E) : Ex d [] tb_L_law (1429, [some (.ref 0), some (.ref 1), some (.ref 77), some (.ref 94), some (.int i), u5, u6, u7], []) h (Po K E) := by
  refine Ex.pure 5 (fr2 := (1435, [some (.ref 0), some (.ref 1), some (.ref 77), some (.ref 94), some (.int i), u5, u6, u7], [.int (i + 1), .ref 0, .ref 1])) rfl ?_
  refine Ex.scr rfl hT hx (i_sc (l := 1) (j := 1) hi (by omega) rfl (by omega)) (by omega) ?_
  refine Ex.pure 1 (fr2 := (1437, [some (.ref 0), some (.ref 1), some (.ref 77), some (.ref 94), some (.int i), u5, u6, u7], [.ref 94, .int (xs (k + 1)), .ref 1])) rfl ?_
  refine Ex.cal (rest := []) (j := m_L_birthday) (as := [.ref 1, .int (xs (k + 1)), .ref 94]) (fun c => rfl) (Ca.ty2 (lw_birthday (by omega) hs I V hc (fun r h2 y2 c2 g1 g2 I2 F2 hr ho t2 => ?_)))
  have hs2 := F2.1
  have hT2 := t2 0 L hT
  have hx2 : h2.2.1 0 = xs := (F2.2.1 0 (Or.inl rfl) (by omega)).1.trans hx
  have J2 := J.fw F2
  show Ex d [] tb_L_law (1440, [some (.ref 0), some (.ref 1), some (.ref 77), some (.ref 94), some (.int i), u5, u6, u7], [.int r]) h2 _
  refine Ex.pure 6 (fr2 := (1448, [some (.ref 0), some (.ref 1), some (.ref 77), some (.ref 94), some (.int i), some (.int r), u6, u7], [.int (i + 1), .ref 0, .ref 77])) rfl ?_
  refine Ex.scr rfl hT2 hx2 (i_sc (l := 1) (j := 1) hi (by omega) rfl (by omega)) (by omega) ?_
  refine Ex.cal (rest := []) (j := m_X7_birthday) (as := [.ref 77, .int (xs (k + 1))]) (vst (a := 187) (b := 2) (c := 6) (rest := []) (vs := [.int (xs (k + 1))]) rfl ⟨Nat.le_of_ble_eq_true rfl, Nat.le_of_ble_eq_true rfl⟩ rfl rfl (sg_77 hs2)) (m_birthday (by omega) hs2 J2 V.1 (fun rv h3 J3 F3 t3 hr3 => ?_))
  have hs3 := F3.sg hs2
  obtain ⟨b, rfl, hb3⟩ := hr3
  show Ex d [] tb_L_law (1452, [some (.ref 0), some (.ref 1), some (.ref 77), some (.ref 94), some (.int i), some (.int r), u6, u7], [.int b]) h3 _
  refine Ex.pure 2 (fr2 := (1455, [some (.ref 0), some (.ref 1), some (.ref 77), some (.ref 94), some (.int i), some (.int r), some (.int b), u7], [.ref 77])) rfl ?_
  refine Ex.ask (rest := []) (j := m_X7_thrown) (as := [.ref 77]) (vst (a := 113) (b := 1) (c := 6) (rest := []) (vs := []) rfl ⟨Nat.le_of_ble_eq_true rfl, Nat.le_of_ble_eq_true rfl⟩ rfl rfl (sg_77 hs3)) ((t_X7_thrown hs3).mono (by omega) (fun _ _ z => z)) ?_
  rintro _ h0 ⟨rfl, e0⟩
  rw [e0]
  show Ex d [] tb_L_law (1458, [some (.ref 0), some (.ref 1), some (.ref 77), some (.ref 94), some (.int i), some (.int r), some (.int b), u7], [.int (h3.2.1 77 0)]) h3 _
  refine Ex.pure 1 (fr2 := (1460, [some (.ref 0), some (.ref 1), some (.ref 77), some (.ref 94), some (.int i), some (.int r), some (.int b), u7], [.int r, .int (h3.2.1 77 0)])) rfl ?_
  refine Ex.br (x := (1465, [some (.ref 0), some (.ref 1), some (.ref 77), some (.ref 94), some (.int i), some (.int r), some (.int b), u7], [])) (y := (1463, [some (.ref 0), some (.ref 1), some (.ref 77), some (.ref 94), some (.int i), some (.int r), some (.int b), u7], [])) (b := (h3.2.1 77 0) = r) rfl (fun _ => ?_) (fun hb => absurd (Int32.toInt_inj.mp (by rw [t3, hr])) hb)
  refine Ex.pure 1 (fr2 := (1467, [some (.ref 0), some (.ref 1), some (.ref 77), some (.ref 94), some (.int i), some (.int r), some (.int b), u7], [.int r])) rfl ?_
  refine Ex.br (x := (1482, [some (.ref 0), some (.ref 1), some (.ref 77), some (.ref 94), some (.int i), some (.int r), some (.int b), u7], [])) (y := (1470, [some (.ref 0), some (.ref 1), some (.ref 77), some (.ref 94), some (.int i), some (.int r), some (.int b), u7], [])) (b := ¬ r = 0) rfl (fun _ => ?_) (fun hb => ?_)
  · skip
    refine Ex.pure 1 (fr2 := (1799, [some (.ref 0), some (.ref 1), some (.ref 77), some (.ref 94), some (.int i), some (.int r), some (.int b), u7], [])) rfl ?_
    exact kk h3 y2 c2 _ _ _ g1 g2 hs3 (by rw [F3.1]; exact hT2) ((F3.2.2 0 (by omega)).1.trans hx2) (I2.fm hs2 F3) J3 (by rw [F3.1]; exact F2.2.2.1) (by rw [F3.2.1]; exact F2.2.2.2)
  · have h0 : (f_birthday (xs (k + 1)) S).1 = 0 := by
      have := i_ne.mp (Classical.not_not.mp hb)
      omega
    have q1 : (h3.2.2.1 94 0).toInt = (f_birthday (xs (k + 1)) S).2.1 := by
      rw [(F3.2.2 94 (by omega)).2]
      exact ho h0 (by decide)
    have q2 := hb3 h0
    refine Ex.pure 2 (fr2 := (1472, [some (.ref 0), some (.ref 1), some (.ref 77), some (.ref 94), some (.int i), some (.int r), some (.int b), u7], [.int 0, .ref 94])) rfl ?_
    refine Ex.lald rfl (sg_94 hs3) (by decide) ?_
    show Ex d [] tb_L_law (1473, [some (.ref 0), some (.ref 1), some (.ref 77), some (.ref 94), some (.int i), some (.int r), some (.int b), u7], [.long (h3.2.2.1 94 0)]) h3 _
    refine Ex.pure 3 (fr2 := (1477, [some (.ref 0), some (.ref 1), some (.ref 77), some (.ref 94), some (.int i), some (.int r), some (.int b), u7], [.int (lg_cmp (h3.2.2.1 94 0) ((b).toInt64))])) rfl ?_
    refine Ex.br (x := (1482, [some (.ref 0), some (.ref 1), some (.ref 77), some (.ref 94), some (.int i), some (.int r), some (.int b), u7], [])) (y := (1480, [some (.ref 0), some (.ref 1), some (.ref 77), some (.ref 94), some (.int i), some (.int r), some (.int b), u7], [])) (b := (lg_cmp (h3.2.2.1 94 0) ((b).toInt64)) = 0) rfl (fun _ => ?_) (fun hb => absurd ((lg_cmp_eq _ _).mpr (Int64.toInt_inj.mp (by rw [i_2j, q1, q2]))) hb)
    refine Ex.pure 1 (fr2 := (1799, [some (.ref 0), some (.ref 1), some (.ref 77), some (.ref 94), some (.int i), some (.int r), some (.int b), u7], [])) rfl ?_
    exact kk h3 y2 c2 _ _ _ g1 g2 hs3 (by rw [F3.1]; exact hT2) ((F3.2.2 0 (by omega)).1.trans hx2) (I2.fm hs2 F3) J3 (by rw [F3.1]; exact F2.2.2.1) (by rw [F3.2.1]; exact F2.2.2.2)
set_option maxRecDepth 100000 in
theorem cs_signOf (hd : 70 ≤ d) (hs : Sg h.1 y) (hT : h.1[0]? = some (5, L, [])) (hx : h.2.1 0 = xs) (I : CI h y c S) (J : MI h S) (V : VA S) (LB : LBS S) (LD : LBD S) (hc : c + 10020 < 16384) (hi : i.toInt = k) (hk : k + 6 < L) (hL : L ≤ 3584) (kk : KL i L xs c h y (f_signOf (xs (k + 1)) (xs (k + 2)) S).2.2 d K E) : Ex d [] tb_L_law (1485, [some (.ref 0), some (.ref 1), some (.ref 77), some (.ref 94), some (.int i), u5, u6, u7], []) h (Po K E) := by
  refine Ex.pure 5 (fr2 := (1491, [some (.ref 0), some (.ref 1), some (.ref 77), some (.ref 94), some (.int i), u5, u6, u7], [.int (i + 1), .ref 0, .ref 1])) rfl ?_
  refine Ex.scr rfl hT hx (i_sc (l := 1) (j := 1) hi (by omega) rfl (by omega)) (by omega) ?_
  refine Ex.pure 4 (fr2 := (1497, [some (.ref 0), some (.ref 1), some (.ref 77), some (.ref 94), some (.int i), u5, u6, u7], [.int (i + 2), .ref 0, .int (xs (k + 1)), .ref 1])) rfl ?_
  refine Ex.scr rfl hT hx (i_sc (l := 2) (j := 2) hi (by omega) rfl (by omega)) (by omega) ?_
  refine Ex.pure 1 (fr2 := (1499, [some (.ref 0), some (.ref 1), some (.ref 77), some (.ref 94), some (.int i), u5, u6, u7], [.ref 94, .int (xs (k + 2)), .int (xs (k + 1)), .ref 1])) rfl ?_
  refine Ex.cal (rest := []) (j := m_L_signOf) (as := [.ref 1, .int (xs (k + 1)), .int (xs (k + 2)), .ref 94]) (fun c => rfl) (Ca.ty2 (lw_signOf (by omega) hs I V hc (fun r h2 y2 c2 g1 g2 I2 F2 hr ho t2 => ?_)))
  have hs2 := F2.1
  have hT2 := t2 0 L hT
  have hx2 : h2.2.1 0 = xs := (F2.2.1 0 (Or.inl rfl) (by omega)).1.trans hx
  have J2 := J.fw F2
  show Ex d [] tb_L_law (1502, [some (.ref 0), some (.ref 1), some (.ref 77), some (.ref 94), some (.int i), u5, u6, u7], [.int r]) h2 _
  refine Ex.pure 6 (fr2 := (1510, [some (.ref 0), some (.ref 1), some (.ref 77), some (.ref 94), some (.int i), some (.int r), u6, u7], [.int (i + 1), .ref 0, .ref 77])) rfl ?_
  refine Ex.scr rfl hT2 hx2 (i_sc (l := 1) (j := 1) hi (by omega) rfl (by omega)) (by omega) ?_
  refine Ex.pure 4 (fr2 := (1516, [some (.ref 0), some (.ref 1), some (.ref 77), some (.ref 94), some (.int i), some (.int r), u6, u7], [.int (i + 2), .ref 0, .int (xs (k + 1)), .ref 77])) rfl ?_
  refine Ex.scr rfl hT2 hx2 (i_sc (l := 2) (j := 2) hi (by omega) rfl (by omega)) (by omega) ?_
  refine Ex.cal (rest := []) (j := m_X7_signOf) (as := [.ref 77, .int (xs (k + 1)), .int (xs (k + 2))]) (vst (a := 189) (b := 3) (c := 6) (rest := []) (vs := [.int (xs (k + 1)), .int (xs (k + 2))]) rfl ⟨Nat.le_of_ble_eq_true rfl, Nat.le_of_ble_eq_true rfl⟩ rfl rfl (sg_77 hs2)) (m_signOf (by omega) hs2 J2 V.1 (fun rv h3 J3 F3 t3 hr3 => ?_))
  have hs3 := F3.sg hs2
  obtain ⟨b, rfl, hb3⟩ := hr3
  show Ex d [] tb_L_law (1520, [some (.ref 0), some (.ref 1), some (.ref 77), some (.ref 94), some (.int i), some (.int r), u6, u7], [.int b]) h3 _
  refine Ex.pure 2 (fr2 := (1523, [some (.ref 0), some (.ref 1), some (.ref 77), some (.ref 94), some (.int i), some (.int r), some (.int b), u7], [.ref 77])) rfl ?_
  refine Ex.ask (rest := []) (j := m_X7_thrown) (as := [.ref 77]) (vst (a := 113) (b := 1) (c := 6) (rest := []) (vs := []) rfl ⟨Nat.le_of_ble_eq_true rfl, Nat.le_of_ble_eq_true rfl⟩ rfl rfl (sg_77 hs3)) ((t_X7_thrown hs3).mono (by omega) (fun _ _ z => z)) ?_
  rintro _ h0 ⟨rfl, e0⟩
  rw [e0]
  show Ex d [] tb_L_law (1526, [some (.ref 0), some (.ref 1), some (.ref 77), some (.ref 94), some (.int i), some (.int r), some (.int b), u7], [.int (h3.2.1 77 0)]) h3 _
  refine Ex.pure 1 (fr2 := (1528, [some (.ref 0), some (.ref 1), some (.ref 77), some (.ref 94), some (.int i), some (.int r), some (.int b), u7], [.int r, .int (h3.2.1 77 0)])) rfl ?_
  refine Ex.br (x := (1533, [some (.ref 0), some (.ref 1), some (.ref 77), some (.ref 94), some (.int i), some (.int r), some (.int b), u7], [])) (y := (1531, [some (.ref 0), some (.ref 1), some (.ref 77), some (.ref 94), some (.int i), some (.int r), some (.int b), u7], [])) (b := (h3.2.1 77 0) = r) rfl (fun _ => ?_) (fun hb => absurd (Int32.toInt_inj.mp (by rw [t3, hr])) hb)
  refine Ex.pure 1 (fr2 := (1535, [some (.ref 0), some (.ref 1), some (.ref 77), some (.ref 94), some (.int i), some (.int r), some (.int b), u7], [.int r])) rfl ?_
  refine Ex.br (x := (1550, [some (.ref 0), some (.ref 1), some (.ref 77), some (.ref 94), some (.int i), some (.int r), some (.int b), u7], [])) (y := (1538, [some (.ref 0), some (.ref 1), some (.ref 77), some (.ref 94), some (.int i), some (.int r), some (.int b), u7], [])) (b := ¬ r = 0) rfl (fun _ => ?_) (fun hb => ?_)
  · skip
    refine Ex.pure 1 (fr2 := (1799, [some (.ref 0), some (.ref 1), some (.ref 77), some (.ref 94), some (.int i), some (.int r), some (.int b), u7], [])) rfl ?_
    exact kk h3 y2 c2 _ _ _ g1 g2 hs3 (by rw [F3.1]; exact hT2) ((F3.2.2 0 (by omega)).1.trans hx2) (I2.fm hs2 F3) J3 (by rw [F3.1]; exact F2.2.2.1) (by rw [F3.2.1]; exact F2.2.2.2)
  · have h0 : (f_signOf (xs (k + 1)) (xs (k + 2)) S).1 = 0 := by
      have := i_ne.mp (Classical.not_not.mp hb)
      omega
    have q1 : (h3.2.2.1 94 0).toInt = (f_signOf (xs (k + 1)) (xs (k + 2)) S).2.1 := by
      rw [(F3.2.2 94 (by omega)).2]
      exact ho h0 (by decide)
    have q2 := hb3 h0
    refine Ex.pure 2 (fr2 := (1540, [some (.ref 0), some (.ref 1), some (.ref 77), some (.ref 94), some (.int i), some (.int r), some (.int b), u7], [.int 0, .ref 94])) rfl ?_
    refine Ex.lald rfl (sg_94 hs3) (by decide) ?_
    show Ex d [] tb_L_law (1541, [some (.ref 0), some (.ref 1), some (.ref 77), some (.ref 94), some (.int i), some (.int r), some (.int b), u7], [.long (h3.2.2.1 94 0)]) h3 _
    refine Ex.pure 3 (fr2 := (1545, [some (.ref 0), some (.ref 1), some (.ref 77), some (.ref 94), some (.int i), some (.int r), some (.int b), u7], [.int (lg_cmp (h3.2.2.1 94 0) ((b).toInt64))])) rfl ?_
    refine Ex.br (x := (1550, [some (.ref 0), some (.ref 1), some (.ref 77), some (.ref 94), some (.int i), some (.int r), some (.int b), u7], [])) (y := (1548, [some (.ref 0), some (.ref 1), some (.ref 77), some (.ref 94), some (.int i), some (.int r), some (.int b), u7], [])) (b := (lg_cmp (h3.2.2.1 94 0) ((b).toInt64)) = 0) rfl (fun _ => ?_) (fun hb => absurd ((lg_cmp_eq _ _).mpr (Int64.toInt_inj.mp (by rw [i_2j, q1, q2]))) hb)
    refine Ex.pure 1 (fr2 := (1799, [some (.ref 0), some (.ref 1), some (.ref 77), some (.ref 94), some (.int i), some (.int r), some (.int b), u7], [])) rfl ?_
    exact kk h3 y2 c2 _ _ _ g1 g2 hs3 (by rw [F3.1]; exact hT2) ((F3.2.2 0 (by omega)).1.trans hx2) (I2.fm hs2 F3) J3 (by rw [F3.1]; exact F2.2.2.1) (by rw [F3.2.1]; exact F2.2.2.2)
set_option maxRecDepth 100000 in
theorem cs_parts (hd : 70 ≤ d) (hs : Sg h.1 y) (hT : h.1[0]? = some (5, L, [])) (hx : h.2.1 0 = xs) (I : CI h y c S) (J : MI h S) (V : VA S) (LB : LBS S) (LD : LBD S) (hc : c + 10020 < 16384) (hi : i.toInt = k) (hk : k + 6 < L) (hL : L ≤ 3584) (kk : KL i L xs c h y (f_parts (xs (k + 1)) S).2.2 d K E) : Ex d [] tb_L_law (1553, [some (.ref 0), some (.ref 1), some (.ref 77), some (.ref 94), some (.int i), u5, u6, u7], []) h (Po K E) := by
  refine Ex.pure 5 (fr2 := (1559, [some (.ref 0), some (.ref 1), some (.ref 77), some (.ref 94), some (.int i), u5, u6, u7], [.int (i + 1), .ref 0, .ref 1])) rfl ?_
  refine Ex.scr rfl hT hx (i_sc (l := 1) (j := 1) hi (by omega) rfl (by omega)) (by omega) ?_
  refine Ex.pure 1 (fr2 := (1561, [some (.ref 0), some (.ref 1), some (.ref 77), some (.ref 94), some (.int i), u5, u6, u7], [.ref 94, .int (xs (k + 1)), .ref 1])) rfl ?_
  refine Ex.cal (rest := []) (j := m_L_parts) (as := [.ref 1, .int (xs (k + 1)), .ref 94]) (fun c => rfl) (Ca.ty2 (lw_parts (by omega) hs I V hc (fun r h2 y2 c2 g1 g2 I2 F2 hr ho t2 => ?_)))
  have hs2 := F2.1
  have hT2 := t2 0 L hT
  have hx2 : h2.2.1 0 = xs := (F2.2.1 0 (Or.inl rfl) (by omega)).1.trans hx
  have J2 := J.fw F2
  show Ex d [] tb_L_law (1564, [some (.ref 0), some (.ref 1), some (.ref 77), some (.ref 94), some (.int i), u5, u6, u7], [.int r]) h2 _
  refine Ex.pure 6 (fr2 := (1572, [some (.ref 0), some (.ref 1), some (.ref 77), some (.ref 94), some (.int i), some (.int r), u6, u7], [.int (i + 1), .ref 0, .ref 77])) rfl ?_
  refine Ex.scr rfl hT2 hx2 (i_sc (l := 1) (j := 1) hi (by omega) rfl (by omega)) (by omega) ?_
  refine Ex.cal (rest := []) (j := m_X7_parts) (as := [.ref 77, .int (xs (k + 1))]) (vst (a := 190) (b := 2) (c := 6) (rest := []) (vs := [.int (xs (k + 1))]) rfl ⟨Nat.le_of_ble_eq_true rfl, Nat.le_of_ble_eq_true rfl⟩ rfl rfl (sg_77 hs2)) (m_parts (by omega) hs2 J2  (fun rv h3 J3 F3 t3 hr3 => ?_))
  have hs3 := F3.sg hs2
  obtain ⟨b, rfl, hb3⟩ := hr3
  show Ex d [] tb_L_law (1576, [some (.ref 0), some (.ref 1), some (.ref 77), some (.ref 94), some (.int i), some (.int r), u6, u7], [.long b]) h3 _
  refine Ex.pure 2 (fr2 := (1579, [some (.ref 0), some (.ref 1), some (.ref 77), some (.ref 94), some (.int i), some (.int r), some (.long b), none], [.ref 77])) rfl ?_
  refine Ex.ask (rest := []) (j := m_X7_thrown) (as := [.ref 77]) (vst (a := 113) (b := 1) (c := 6) (rest := []) (vs := []) rfl ⟨Nat.le_of_ble_eq_true rfl, Nat.le_of_ble_eq_true rfl⟩ rfl rfl (sg_77 hs3)) ((t_X7_thrown hs3).mono (by omega) (fun _ _ z => z)) ?_
  rintro _ h0 ⟨rfl, e0⟩
  rw [e0]
  show Ex d [] tb_L_law (1582, [some (.ref 0), some (.ref 1), some (.ref 77), some (.ref 94), some (.int i), some (.int r), some (.long b), none], [.int (h3.2.1 77 0)]) h3 _
  refine Ex.pure 1 (fr2 := (1584, [some (.ref 0), some (.ref 1), some (.ref 77), some (.ref 94), some (.int i), some (.int r), some (.long b), none], [.int r, .int (h3.2.1 77 0)])) rfl ?_
  refine Ex.br (x := (1589, [some (.ref 0), some (.ref 1), some (.ref 77), some (.ref 94), some (.int i), some (.int r), some (.long b), none], [])) (y := (1587, [some (.ref 0), some (.ref 1), some (.ref 77), some (.ref 94), some (.int i), some (.int r), some (.long b), none], [])) (b := (h3.2.1 77 0) = r) rfl (fun _ => ?_) (fun hb => absurd (Int32.toInt_inj.mp (by rw [t3, hr])) hb)
  refine Ex.pure 1 (fr2 := (1591, [some (.ref 0), some (.ref 1), some (.ref 77), some (.ref 94), some (.int i), some (.int r), some (.long b), none], [.int r])) rfl ?_
  refine Ex.br (x := (1605, [some (.ref 0), some (.ref 1), some (.ref 77), some (.ref 94), some (.int i), some (.int r), some (.long b), none], [])) (y := (1594, [some (.ref 0), some (.ref 1), some (.ref 77), some (.ref 94), some (.int i), some (.int r), some (.long b), none], [])) (b := ¬ r = 0) rfl (fun _ => ?_) (fun hb => ?_)
  · skip
    refine Ex.pure 1 (fr2 := (1799, [some (.ref 0), some (.ref 1), some (.ref 77), some (.ref 94), some (.int i), some (.int r), some (.long b), none], [])) rfl ?_
    exact kk h3 y2 c2 _ _ _ g1 g2 hs3 (by rw [F3.1]; exact hT2) ((F3.2.2 0 (by omega)).1.trans hx2) (I2.fm hs2 F3) J3 (by rw [F3.1]; exact F2.2.2.1) (by rw [F3.2.1]; exact F2.2.2.2)
  · have h0 : (f_parts (xs (k + 1)) S).1 = 0 := by
      have := i_ne.mp (Classical.not_not.mp hb)
      omega
    have q1 : (h3.2.2.1 94 0).toInt = (f_parts (xs (k + 1)) S).2.1 := by
      rw [(F3.2.2 94 (by omega)).2]
      exact ho h0 (by decide)
    have q2 := hb3 h0
    refine Ex.pure 2 (fr2 := (1596, [some (.ref 0), some (.ref 1), some (.ref 77), some (.ref 94), some (.int i), some (.int r), some (.long b), none], [.int 0, .ref 94])) rfl ?_
    refine Ex.lald rfl (sg_94 hs3) (by decide) ?_
    show Ex d [] tb_L_law (1597, [some (.ref 0), some (.ref 1), some (.ref 77), some (.ref 94), some (.int i), some (.int r), some (.long b), none], [.long (h3.2.2.1 94 0)]) h3 _
    refine Ex.pure 2 (fr2 := (1600, [some (.ref 0), some (.ref 1), some (.ref 77), some (.ref 94), some (.int i), some (.int r), some (.long b), none], [.int (lg_cmp (h3.2.2.1 94 0) b)])) rfl ?_
    refine Ex.br (x := (1605, [some (.ref 0), some (.ref 1), some (.ref 77), some (.ref 94), some (.int i), some (.int r), some (.long b), none], [])) (y := (1603, [some (.ref 0), some (.ref 1), some (.ref 77), some (.ref 94), some (.int i), some (.int r), some (.long b), none], [])) (b := (lg_cmp (h3.2.2.1 94 0) b) = 0) rfl (fun _ => ?_) (fun hb => absurd ((lg_cmp_eq _ _).mpr (Int64.toInt_inj.mp (by rw [q1, q2]))) hb)
    refine Ex.pure 1 (fr2 := (1799, [some (.ref 0), some (.ref 1), some (.ref 77), some (.ref 94), some (.int i), some (.int r), some (.long b), none], [])) rfl ?_
    exact kk h3 y2 c2 _ _ _ g1 g2 hs3 (by rw [F3.1]; exact hT2) ((F3.2.2 0 (by omega)).1.trans hx2) (I2.fm hs2 F3) J3 (by rw [F3.1]; exact F2.2.2.1) (by rw [F3.2.1]; exact F2.2.2.2)
set_option maxRecDepth 100000 in
theorem cs_tends (hd : 70 ≤ d) (hs : Sg h.1 y) (hT : h.1[0]? = some (5, L, [])) (hx : h.2.1 0 = xs) (I : CI h y c S) (J : MI h S) (V : VA S) (LB : LBS S) (LD : LBD S) (hc : c + 10020 < 16384) (hi : i.toInt = k) (hk : k + 6 < L) (hL : L ≤ 3584) (kk : KL i L xs c h y (f_tends (xs (k + 1)) S).2.2 d K E) : Ex d [] tb_L_law (1608, [some (.ref 0), some (.ref 1), some (.ref 77), some (.ref 94), some (.int i), u5, u6, u7], []) h (Po K E) := by
  refine Ex.pure 5 (fr2 := (1614, [some (.ref 0), some (.ref 1), some (.ref 77), some (.ref 94), some (.int i), u5, u6, u7], [.int (i + 1), .ref 0, .ref 1])) rfl ?_
  refine Ex.scr rfl hT hx (i_sc (l := 1) (j := 1) hi (by omega) rfl (by omega)) (by omega) ?_
  refine Ex.pure 1 (fr2 := (1616, [some (.ref 0), some (.ref 1), some (.ref 77), some (.ref 94), some (.int i), u5, u6, u7], [.ref 94, .int (xs (k + 1)), .ref 1])) rfl ?_
  refine Ex.cal (rest := []) (j := m_L_tends) (as := [.ref 1, .int (xs (k + 1)), .ref 94]) (fun c => rfl) (Ca.ty2 (lw_tends (by omega) hs I V hc (fun r h2 y2 c2 g1 g2 I2 F2 hr ho t2 => ?_)))
  have hs2 := F2.1
  have hT2 := t2 0 L hT
  have hx2 : h2.2.1 0 = xs := (F2.2.1 0 (Or.inl rfl) (by omega)).1.trans hx
  have J2 := J.fw F2
  show Ex d [] tb_L_law (1619, [some (.ref 0), some (.ref 1), some (.ref 77), some (.ref 94), some (.int i), u5, u6, u7], [.int r]) h2 _
  refine Ex.pure 6 (fr2 := (1627, [some (.ref 0), some (.ref 1), some (.ref 77), some (.ref 94), some (.int i), some (.int r), u6, u7], [.int (i + 1), .ref 0, .ref 77])) rfl ?_
  refine Ex.scr rfl hT2 hx2 (i_sc (l := 1) (j := 1) hi (by omega) rfl (by omega)) (by omega) ?_
  refine Ex.cal (rest := []) (j := m_X7_tends) (as := [.ref 77, .int (xs (k + 1))]) (vst (a := 192) (b := 2) (c := 6) (rest := []) (vs := [.int (xs (k + 1))]) rfl ⟨Nat.le_of_ble_eq_true rfl, Nat.le_of_ble_eq_true rfl⟩ rfl rfl (sg_77 hs2)) (m_tends (by omega) hs2 J2 V.2.1 (fun rv h3 J3 F3 t3 hr3 => ?_))
  have hs3 := F3.sg hs2
  obtain ⟨b, rfl, hb3⟩ := hr3
  show Ex d [] tb_L_law (1631, [some (.ref 0), some (.ref 1), some (.ref 77), some (.ref 94), some (.int i), some (.int r), u6, u7], [.int b]) h3 _
  refine Ex.pure 2 (fr2 := (1634, [some (.ref 0), some (.ref 1), some (.ref 77), some (.ref 94), some (.int i), some (.int r), some (.int b), u7], [.ref 77])) rfl ?_
  refine Ex.ask (rest := []) (j := m_X7_thrown) (as := [.ref 77]) (vst (a := 113) (b := 1) (c := 6) (rest := []) (vs := []) rfl ⟨Nat.le_of_ble_eq_true rfl, Nat.le_of_ble_eq_true rfl⟩ rfl rfl (sg_77 hs3)) ((t_X7_thrown hs3).mono (by omega) (fun _ _ z => z)) ?_
  rintro _ h0 ⟨rfl, e0⟩
  rw [e0]
  show Ex d [] tb_L_law (1637, [some (.ref 0), some (.ref 1), some (.ref 77), some (.ref 94), some (.int i), some (.int r), some (.int b), u7], [.int (h3.2.1 77 0)]) h3 _
  refine Ex.pure 1 (fr2 := (1639, [some (.ref 0), some (.ref 1), some (.ref 77), some (.ref 94), some (.int i), some (.int r), some (.int b), u7], [.int r, .int (h3.2.1 77 0)])) rfl ?_
  refine Ex.br (x := (1644, [some (.ref 0), some (.ref 1), some (.ref 77), some (.ref 94), some (.int i), some (.int r), some (.int b), u7], [])) (y := (1642, [some (.ref 0), some (.ref 1), some (.ref 77), some (.ref 94), some (.int i), some (.int r), some (.int b), u7], [])) (b := (h3.2.1 77 0) = r) rfl (fun _ => ?_) (fun hb => absurd (Int32.toInt_inj.mp (by rw [t3, hr])) hb)
  refine Ex.pure 1 (fr2 := (1646, [some (.ref 0), some (.ref 1), some (.ref 77), some (.ref 94), some (.int i), some (.int r), some (.int b), u7], [.int r])) rfl ?_
  refine Ex.br (x := (1661, [some (.ref 0), some (.ref 1), some (.ref 77), some (.ref 94), some (.int i), some (.int r), some (.int b), u7], [])) (y := (1649, [some (.ref 0), some (.ref 1), some (.ref 77), some (.ref 94), some (.int i), some (.int r), some (.int b), u7], [])) (b := ¬ r = 0) rfl (fun _ => ?_) (fun hb => ?_)
  · skip
    refine Ex.pure 1 (fr2 := (1799, [some (.ref 0), some (.ref 1), some (.ref 77), some (.ref 94), some (.int i), some (.int r), some (.int b), u7], [])) rfl ?_
    exact kk h3 y2 c2 _ _ _ g1 g2 hs3 (by rw [F3.1]; exact hT2) ((F3.2.2 0 (by omega)).1.trans hx2) (I2.fm hs2 F3) J3 (by rw [F3.1]; exact F2.2.2.1) (by rw [F3.2.1]; exact F2.2.2.2)
  · have h0 : (f_tends (xs (k + 1)) S).1 = 0 := by
      have := i_ne.mp (Classical.not_not.mp hb)
      omega
    have q1 : (h3.2.2.1 94 0).toInt = (f_tends (xs (k + 1)) S).2.1 := by
      rw [(F3.2.2 94 (by omega)).2]
      exact ho h0 (by decide)
    have q2 := hb3 h0
    refine Ex.pure 2 (fr2 := (1651, [some (.ref 0), some (.ref 1), some (.ref 77), some (.ref 94), some (.int i), some (.int r), some (.int b), u7], [.int 0, .ref 94])) rfl ?_
    refine Ex.lald rfl (sg_94 hs3) (by decide) ?_
    show Ex d [] tb_L_law (1652, [some (.ref 0), some (.ref 1), some (.ref 77), some (.ref 94), some (.int i), some (.int r), some (.int b), u7], [.long (h3.2.2.1 94 0)]) h3 _
    refine Ex.pure 3 (fr2 := (1656, [some (.ref 0), some (.ref 1), some (.ref 77), some (.ref 94), some (.int i), some (.int r), some (.int b), u7], [.int (lg_cmp (h3.2.2.1 94 0) ((b).toInt64))])) rfl ?_
    refine Ex.br (x := (1661, [some (.ref 0), some (.ref 1), some (.ref 77), some (.ref 94), some (.int i), some (.int r), some (.int b), u7], [])) (y := (1659, [some (.ref 0), some (.ref 1), some (.ref 77), some (.ref 94), some (.int i), some (.int r), some (.int b), u7], [])) (b := (lg_cmp (h3.2.2.1 94 0) ((b).toInt64)) = 0) rfl (fun _ => ?_) (fun hb => absurd ((lg_cmp_eq _ _).mpr (Int64.toInt_inj.mp (by rw [i_2j, q1, q2]))) hb)
    refine Ex.pure 1 (fr2 := (1799, [some (.ref 0), some (.ref 1), some (.ref 77), some (.ref 94), some (.int i), some (.int r), some (.int b), u7], [])) rfl ?_
    exact kk h3 y2 c2 _ _ _ g1 g2 hs3 (by rw [F3.1]; exact hT2) ((F3.2.2 0 (by omega)).1.trans hx2) (I2.fm hs2 F3) J3 (by rw [F3.1]; exact F2.2.2.1) (by rw [F3.2.1]; exact F2.2.2.2)
set_option maxRecDepth 100000 in
theorem cs_terms (hd : 70 ≤ d) (hs : Sg h.1 y) (hT : h.1[0]? = some (5, L, [])) (hx : h.2.1 0 = xs) (I : CI h y c S) (J : MI h S) (V : VA S) (LB : LBS S) (LD : LBD S) (hc : c + 10020 < 16384) (hi : i.toInt = k) (hk : k + 6 < L) (hL : L ≤ 3584) (kk : KL i L xs c h y (f_terms (xs (k + 1)) S).2.2 d K E) : Ex d [] tb_L_law (1664, [some (.ref 0), some (.ref 1), some (.ref 77), some (.ref 94), some (.int i), u5, u6, u7], []) h (Po K E) := by
  refine Ex.pure 5 (fr2 := (1670, [some (.ref 0), some (.ref 1), some (.ref 77), some (.ref 94), some (.int i), u5, u6, u7], [.int (i + 1), .ref 0, .ref 1])) rfl ?_
  refine Ex.scr rfl hT hx (i_sc (l := 1) (j := 1) hi (by omega) rfl (by omega)) (by omega) ?_
  refine Ex.pure 1 (fr2 := (1672, [some (.ref 0), some (.ref 1), some (.ref 77), some (.ref 94), some (.int i), u5, u6, u7], [.ref 94, .int (xs (k + 1)), .ref 1])) rfl ?_
  refine Ex.cal (rest := []) (j := m_L_terms) (as := [.ref 1, .int (xs (k + 1)), .ref 94]) (fun c => rfl) (Ca.ty2 (lw_terms (by omega) hs I V hc (fun r h2 y2 c2 g1 g2 I2 F2 hr ho t2 => ?_)))
  have hs2 := F2.1
  have hT2 := t2 0 L hT
  have hx2 : h2.2.1 0 = xs := (F2.2.1 0 (Or.inl rfl) (by omega)).1.trans hx
  have J2 := J.fw F2
  show Ex d [] tb_L_law (1675, [some (.ref 0), some (.ref 1), some (.ref 77), some (.ref 94), some (.int i), u5, u6, u7], [.int r]) h2 _
  refine Ex.pure 6 (fr2 := (1683, [some (.ref 0), some (.ref 1), some (.ref 77), some (.ref 94), some (.int i), some (.int r), u6, u7], [.int (i + 1), .ref 0, .ref 77])) rfl ?_
  refine Ex.scr rfl hT2 hx2 (i_sc (l := 1) (j := 1) hi (by omega) rfl (by omega)) (by omega) ?_
  refine Ex.cal (rest := []) (j := m_X7_terms) (as := [.ref 77, .int (xs (k + 1))]) (vst (a := 193) (b := 2) (c := 6) (rest := []) (vs := [.int (xs (k + 1))]) rfl ⟨Nat.le_of_ble_eq_true rfl, Nat.le_of_ble_eq_true rfl⟩ rfl rfl (sg_77 hs2)) (m_terms (by omega) hs2 J2  (fun rv h3 J3 F3 t3 hr3 => ?_))
  have hs3 := F3.sg hs2
  obtain ⟨b, rfl, hb3⟩ := hr3
  show Ex d [] tb_L_law (1687, [some (.ref 0), some (.ref 1), some (.ref 77), some (.ref 94), some (.int i), some (.int r), u6, u7], [.int b]) h3 _
  refine Ex.pure 2 (fr2 := (1690, [some (.ref 0), some (.ref 1), some (.ref 77), some (.ref 94), some (.int i), some (.int r), some (.int b), u7], [.ref 77])) rfl ?_
  refine Ex.ask (rest := []) (j := m_X7_thrown) (as := [.ref 77]) (vst (a := 113) (b := 1) (c := 6) (rest := []) (vs := []) rfl ⟨Nat.le_of_ble_eq_true rfl, Nat.le_of_ble_eq_true rfl⟩ rfl rfl (sg_77 hs3)) ((t_X7_thrown hs3).mono (by omega) (fun _ _ z => z)) ?_
  rintro _ h0 ⟨rfl, e0⟩
  rw [e0]
  show Ex d [] tb_L_law (1693, [some (.ref 0), some (.ref 1), some (.ref 77), some (.ref 94), some (.int i), some (.int r), some (.int b), u7], [.int (h3.2.1 77 0)]) h3 _
  refine Ex.pure 1 (fr2 := (1695, [some (.ref 0), some (.ref 1), some (.ref 77), some (.ref 94), some (.int i), some (.int r), some (.int b), u7], [.int r, .int (h3.2.1 77 0)])) rfl ?_
  refine Ex.br (x := (1700, [some (.ref 0), some (.ref 1), some (.ref 77), some (.ref 94), some (.int i), some (.int r), some (.int b), u7], [])) (y := (1698, [some (.ref 0), some (.ref 1), some (.ref 77), some (.ref 94), some (.int i), some (.int r), some (.int b), u7], [])) (b := (h3.2.1 77 0) = r) rfl (fun _ => ?_) (fun hb => absurd (Int32.toInt_inj.mp (by rw [t3, hr])) hb)
  refine Ex.pure 1 (fr2 := (1702, [some (.ref 0), some (.ref 1), some (.ref 77), some (.ref 94), some (.int i), some (.int r), some (.int b), u7], [.int r])) rfl ?_
  refine Ex.br (x := (1717, [some (.ref 0), some (.ref 1), some (.ref 77), some (.ref 94), some (.int i), some (.int r), some (.int b), u7], [])) (y := (1705, [some (.ref 0), some (.ref 1), some (.ref 77), some (.ref 94), some (.int i), some (.int r), some (.int b), u7], [])) (b := ¬ r = 0) rfl (fun _ => ?_) (fun hb => ?_)
  · skip
    refine Ex.pure 1 (fr2 := (1799, [some (.ref 0), some (.ref 1), some (.ref 77), some (.ref 94), some (.int i), some (.int r), some (.int b), u7], [])) rfl ?_
    exact kk h3 y2 c2 _ _ _ g1 g2 hs3 (by rw [F3.1]; exact hT2) ((F3.2.2 0 (by omega)).1.trans hx2) (I2.fm hs2 F3) J3 (by rw [F3.1]; exact F2.2.2.1) (by rw [F3.2.1]; exact F2.2.2.2)
  · have h0 : (f_terms (xs (k + 1)) S).1 = 0 := by
      have := i_ne.mp (Classical.not_not.mp hb)
      omega
    have q1 : (h3.2.2.1 94 0).toInt = (f_terms (xs (k + 1)) S).2.1 := by
      rw [(F3.2.2 94 (by omega)).2]
      exact ho h0 (by decide)
    have q2 := hb3 h0
    refine Ex.pure 2 (fr2 := (1707, [some (.ref 0), some (.ref 1), some (.ref 77), some (.ref 94), some (.int i), some (.int r), some (.int b), u7], [.int 0, .ref 94])) rfl ?_
    refine Ex.lald rfl (sg_94 hs3) (by decide) ?_
    show Ex d [] tb_L_law (1708, [some (.ref 0), some (.ref 1), some (.ref 77), some (.ref 94), some (.int i), some (.int r), some (.int b), u7], [.long (h3.2.2.1 94 0)]) h3 _
    refine Ex.pure 3 (fr2 := (1712, [some (.ref 0), some (.ref 1), some (.ref 77), some (.ref 94), some (.int i), some (.int r), some (.int b), u7], [.int (lg_cmp (h3.2.2.1 94 0) ((b).toInt64))])) rfl ?_
    refine Ex.br (x := (1717, [some (.ref 0), some (.ref 1), some (.ref 77), some (.ref 94), some (.int i), some (.int r), some (.int b), u7], [])) (y := (1715, [some (.ref 0), some (.ref 1), some (.ref 77), some (.ref 94), some (.int i), some (.int r), some (.int b), u7], [])) (b := (lg_cmp (h3.2.2.1 94 0) ((b).toInt64)) = 0) rfl (fun _ => ?_) (fun hb => absurd ((lg_cmp_eq _ _).mpr (Int64.toInt_inj.mp (by rw [i_2j, q1, q2]))) hb)
    refine Ex.pure 1 (fr2 := (1799, [some (.ref 0), some (.ref 1), some (.ref 77), some (.ref 94), some (.int i), some (.int r), some (.int b), u7], [])) rfl ?_
    exact kk h3 y2 c2 _ _ _ g1 g2 hs3 (by rw [F3.1]; exact hT2) ((F3.2.2 0 (by omega)).1.trans hx2) (I2.fm hs2 F3) J3 (by rw [F3.1]; exact F2.2.2.1) (by rw [F3.2.1]; exact F2.2.2.2)
set_option maxRecDepth 100000 in
theorem cs_part (hd : 70 ≤ d) (hs : Sg h.1 y) (hT : h.1[0]? = some (5, L, [])) (hx : h.2.1 0 = xs) (I : CI h y c S) (J : MI h S) (V : VA S) (LB : LBS S) (LD : LBD S) (hc : c + 10020 < 16384) (hi : i.toInt = k) (hk : k + 6 < L) (hL : L ≤ 3584) (kk : KL i L xs c h y (f_part (xs (k + 1)) (xs (k + 2)) (xs (k + 3)) S).2.2 d K E) : Ex d [] tb_L_law (1720, [some (.ref 0), some (.ref 1), some (.ref 77), some (.ref 94), some (.int i), u5, u6, u7], []) h (Po K E) := by
  refine Ex.pure 5 (fr2 := (1726, [some (.ref 0), some (.ref 1), some (.ref 77), some (.ref 94), some (.int i), u5, u6, u7], [.int (i + 1), .ref 0, .ref 1])) rfl ?_
  refine Ex.scr rfl hT hx (i_sc (l := 1) (j := 1) hi (by omega) rfl (by omega)) (by omega) ?_
  refine Ex.pure 4 (fr2 := (1732, [some (.ref 0), some (.ref 1), some (.ref 77), some (.ref 94), some (.int i), u5, u6, u7], [.int (i + 2), .ref 0, .int (xs (k + 1)), .ref 1])) rfl ?_
  refine Ex.scr rfl hT hx (i_sc (l := 2) (j := 2) hi (by omega) rfl (by omega)) (by omega) ?_
  refine Ex.pure 4 (fr2 := (1738, [some (.ref 0), some (.ref 1), some (.ref 77), some (.ref 94), some (.int i), u5, u6, u7], [.int (i + 3), .ref 0, .int (xs (k + 2)), .int (xs (k + 1)), .ref 1])) rfl ?_
  refine Ex.scr rfl hT hx (i_sc (l := 3) (j := 3) hi (by omega) rfl (by omega)) (by omega) ?_
  refine Ex.pure 1 (fr2 := (1740, [some (.ref 0), some (.ref 1), some (.ref 77), some (.ref 94), some (.int i), u5, u6, u7], [.ref 94, .int (xs (k + 3)), .int (xs (k + 2)), .int (xs (k + 1)), .ref 1])) rfl ?_
  refine Ex.cal (rest := []) (j := m_L_part) (as := [.ref 1, .int (xs (k + 1)), .int (xs (k + 2)), .int (xs (k + 3)), .ref 94]) (fun c => rfl) (Ca.ty2 (lw_part (by omega) hs I V hc (fun r h2 y2 c2 g1 g2 I2 F2 hr ho t2 => ?_)))
  have hs2 := F2.1
  have hT2 := t2 0 L hT
  have hx2 : h2.2.1 0 = xs := (F2.2.1 0 (Or.inl rfl) (by omega)).1.trans hx
  have J2 := J.fw F2
  show Ex d [] tb_L_law (1743, [some (.ref 0), some (.ref 1), some (.ref 77), some (.ref 94), some (.int i), u5, u6, u7], [.int r]) h2 _
  refine Ex.pure 6 (fr2 := (1751, [some (.ref 0), some (.ref 1), some (.ref 77), some (.ref 94), some (.int i), some (.int r), u6, u7], [.int (i + 1), .ref 0, .ref 77])) rfl ?_
  refine Ex.scr rfl hT2 hx2 (i_sc (l := 1) (j := 1) hi (by omega) rfl (by omega)) (by omega) ?_
  refine Ex.pure 4 (fr2 := (1757, [some (.ref 0), some (.ref 1), some (.ref 77), some (.ref 94), some (.int i), some (.int r), u6, u7], [.int (i + 2), .ref 0, .int (xs (k + 1)), .ref 77])) rfl ?_
  refine Ex.scr rfl hT2 hx2 (i_sc (l := 2) (j := 2) hi (by omega) rfl (by omega)) (by omega) ?_
  refine Ex.pure 4 (fr2 := (1763, [some (.ref 0), some (.ref 1), some (.ref 77), some (.ref 94), some (.int i), some (.int r), u6, u7], [.int (i + 3), .ref 0, .int (xs (k + 2)), .int (xs (k + 1)), .ref 77])) rfl ?_
  refine Ex.scr rfl hT2 hx2 (i_sc (l := 3) (j := 3) hi (by omega) rfl (by omega)) (by omega) ?_
  refine Ex.cal (rest := []) (j := m_X7_part) (as := [.ref 77, .int (xs (k + 1)), .int (xs (k + 2)), .int (xs (k + 3))]) (vst (a := 195) (b := 4) (c := 6) (rest := []) (vs := [.int (xs (k + 1)), .int (xs (k + 2)), .int (xs (k + 3))]) rfl ⟨Nat.le_of_ble_eq_true rfl, Nat.le_of_ble_eq_true rfl⟩ rfl rfl (sg_77 hs2)) (m_part (by omega) hs2 J2 V.2.1 (fun rv h3 J3 F3 t3 hr3 => ?_))
  have hs3 := F3.sg hs2
  obtain ⟨b, rfl, hb3⟩ := hr3
  show Ex d [] tb_L_law (1767, [some (.ref 0), some (.ref 1), some (.ref 77), some (.ref 94), some (.int i), some (.int r), u6, u7], [.long b]) h3 _
  refine Ex.pure 2 (fr2 := (1770, [some (.ref 0), some (.ref 1), some (.ref 77), some (.ref 94), some (.int i), some (.int r), some (.long b), none], [.ref 77])) rfl ?_
  refine Ex.ask (rest := []) (j := m_X7_thrown) (as := [.ref 77]) (vst (a := 113) (b := 1) (c := 6) (rest := []) (vs := []) rfl ⟨Nat.le_of_ble_eq_true rfl, Nat.le_of_ble_eq_true rfl⟩ rfl rfl (sg_77 hs3)) ((t_X7_thrown hs3).mono (by omega) (fun _ _ z => z)) ?_
  rintro _ h0 ⟨rfl, e0⟩
  rw [e0]
  show Ex d [] tb_L_law (1773, [some (.ref 0), some (.ref 1), some (.ref 77), some (.ref 94), some (.int i), some (.int r), some (.long b), none], [.int (h3.2.1 77 0)]) h3 _
  refine Ex.pure 1 (fr2 := (1775, [some (.ref 0), some (.ref 1), some (.ref 77), some (.ref 94), some (.int i), some (.int r), some (.long b), none], [.int r, .int (h3.2.1 77 0)])) rfl ?_
  refine Ex.br (x := (1780, [some (.ref 0), some (.ref 1), some (.ref 77), some (.ref 94), some (.int i), some (.int r), some (.long b), none], [])) (y := (1778, [some (.ref 0), some (.ref 1), some (.ref 77), some (.ref 94), some (.int i), some (.int r), some (.long b), none], [])) (b := (h3.2.1 77 0) = r) rfl (fun _ => ?_) (fun hb => absurd (Int32.toInt_inj.mp (by rw [t3, hr])) hb)
  refine Ex.pure 1 (fr2 := (1782, [some (.ref 0), some (.ref 1), some (.ref 77), some (.ref 94), some (.int i), some (.int r), some (.long b), none], [.int r])) rfl ?_
  refine Ex.br (x := (1796, [some (.ref 0), some (.ref 1), some (.ref 77), some (.ref 94), some (.int i), some (.int r), some (.long b), none], [])) (y := (1785, [some (.ref 0), some (.ref 1), some (.ref 77), some (.ref 94), some (.int i), some (.int r), some (.long b), none], [])) (b := ¬ r = 0) rfl (fun _ => ?_) (fun hb => ?_)
  · skip
    refine Ex.pure 1 (fr2 := (1799, [some (.ref 0), some (.ref 1), some (.ref 77), some (.ref 94), some (.int i), some (.int r), some (.long b), none], [])) rfl ?_
    exact kk h3 y2 c2 _ _ _ g1 g2 hs3 (by rw [F3.1]; exact hT2) ((F3.2.2 0 (by omega)).1.trans hx2) (I2.fm hs2 F3) J3 (by rw [F3.1]; exact F2.2.2.1) (by rw [F3.2.1]; exact F2.2.2.2)
  · have h0 : (f_part (xs (k + 1)) (xs (k + 2)) (xs (k + 3)) S).1 = 0 := by
      have := i_ne.mp (Classical.not_not.mp hb)
      omega
    have q1 : (h3.2.2.1 94 0).toInt = (f_part (xs (k + 1)) (xs (k + 2)) (xs (k + 3)) S).2.1 := by
      rw [(F3.2.2 94 (by omega)).2]
      exact ho h0 (by decide)
    have q2 := hb3 h0
    refine Ex.pure 2 (fr2 := (1787, [some (.ref 0), some (.ref 1), some (.ref 77), some (.ref 94), some (.int i), some (.int r), some (.long b), none], [.int 0, .ref 94])) rfl ?_
    refine Ex.lald rfl (sg_94 hs3) (by decide) ?_
    show Ex d [] tb_L_law (1788, [some (.ref 0), some (.ref 1), some (.ref 77), some (.ref 94), some (.int i), some (.int r), some (.long b), none], [.long (h3.2.2.1 94 0)]) h3 _
    refine Ex.pure 2 (fr2 := (1791, [some (.ref 0), some (.ref 1), some (.ref 77), some (.ref 94), some (.int i), some (.int r), some (.long b), none], [.int (lg_cmp (h3.2.2.1 94 0) b)])) rfl ?_
    refine Ex.br (x := (1796, [some (.ref 0), some (.ref 1), some (.ref 77), some (.ref 94), some (.int i), some (.int r), some (.long b), none], [])) (y := (1794, [some (.ref 0), some (.ref 1), some (.ref 77), some (.ref 94), some (.int i), some (.int r), some (.long b), none], [])) (b := (lg_cmp (h3.2.2.1 94 0) b) = 0) rfl (fun _ => ?_) (fun hb => absurd ((lg_cmp_eq _ _).mpr (Int64.toInt_inj.mp (by rw [q1, q2]))) hb)
    refine Ex.pure 1 (fr2 := (1799, [some (.ref 0), some (.ref 1), some (.ref 77), some (.ref 94), some (.int i), some (.int r), some (.long b), none], [])) rfl ?_
    exact kk h3 y2 c2 _ _ _ g1 g2 hs3 (by rw [F3.1]; exact hT2) ((F3.2.2 0 (by omega)).1.trans hx2) (I2.fm hs2 F3) J3 (by rw [F3.1]; exact F2.2.2.1) (by rw [F3.2.1]; exact F2.2.2.2)
end
