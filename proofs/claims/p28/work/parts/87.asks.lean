/-! ===== layer 2: what the law asks, written by a program ===== -/
theorem out2_v {c1 c2 : Prop} {S S2 : XS} : (out2 c1 c2 0 S S2).2.1 = 0 := by
  by_cases a : c1
  · by_cases b : c2
    · rw [out2_0 a b]
    · rw [out2_2 a b]
  · rw [out2_1 a]
theorem out3_v {c1 c2 c3 : Prop} {S S2 : XS} : (out3 c1 c2 c3 0 S S2).2.1 = 0 := by
  by_cases a : c1
  · by_cases b : c2
    · by_cases c : c3
      · rw [out3_0 a b c]
      · rw [out3_3 a b c]
    · rw [out3_2 a b]
  · rw [out3_1 a]
theorem ecI_2 {c1 c2 : Prop} {v : Int} {S S2 : XS} (h : ¬ (out2 c1 c2 v S S2).1 = 0) : ecI (out2 c1 c2 v S S2).1 = 1 ∨ ecI (out2 c1 c2 v S S2).1 = 2 ∨ ecI (out2 c1 c2 v S S2).1 = 3 := by
  rcases out2_st h with z | z <;> rw [z]
  · exact Or.inl rfl
  · exact Or.inr (Or.inl rfl)
theorem ecS_2 {c1 c2 : Prop} {v : Int} {S S2 : XS} (h : ¬ (out2 c1 c2 v S S2).1 = 0) : ecS (out2 c1 c2 v S S2).1 = 1 ∨ ecS (out2 c1 c2 v S S2).1 = 2 ∨ ecS (out2 c1 c2 v S S2).1 = 3 := by
  rcases out2_st h with z | z <;> rw [z]
  · exact Or.inl rfl
  · exact Or.inr (Or.inr rfl)
theorem ecI_3 {c1 c2 c3 : Prop} {v : Int} {S S2 : XS} (h : ¬ (out3 c1 c2 c3 v S S2).1 = 0) : ecI (out3 c1 c2 c3 v S S2).1 = 1 ∨ ecI (out3 c1 c2 c3 v S S2).1 = 2 ∨ ecI (out3 c1 c2 c3 v S S2).1 = 3 := by
  rcases out3_st h with z | z | z <;> rw [z]
  · exact Or.inl rfl
  · exact Or.inr (Or.inl rfl)
  · exact Or.inr (Or.inr rfl)
/-- what an ask answers -/
def av (ec : Nat → Nat) (o : XC) : Int := if o.1 = 0 then o.2.1 else -1010 - (ec o.1 : Nat)
/-- what comes behind an ask -/
def KA (M : Nat) (ec : Nat → Nat) (c : Nat) (h : XH) (y : Nat → Nat) (o : XC) (K : XK) : Prop := ∀ (r : Int32) (h2 : XH) (y2 : Nat → Nat) (c2 : Nat), c ≤ c2 → c2 ≤ c + M → CI h2 y2 c2 o.2.2 → FC 1 h y h2 y2 → r.toInt = av ec o → K (some (.int r)) h2
theorem FC.le {n m : Nat} {h h2 : XH} {y y2 : Nat → Nat} (F : FC n h y h2 y2) (hn : n ≤ m) : FC m h y h2 y2 := ⟨F.1, F.2.1, by have := F.2.2.1; omega, by have := F.2.2.2; omega⟩
section
variable {d c M : Nat} {h : XH} {y : Nat → Nat} {S : XS} {K : XK} {E : XE}
theorem ask_of {w a b e : Int32} {o : XC} {ec : Nat → Nat} (he : ¬ o.1 = 0 → ec o.1 = 1 ∨ ec o.1 = 2 ∨ ec o.1 = 3) (hd : 61 ≤ d) (H : ∀ {d : Nat} {K : XK} {E : XE}, 60 ≤ d → KC M 1 ec c h y o K E → Ca d m_L_call [.ref 1, .int w, .int a, .int b, .int e] h K E) (kk : KA M ec c h y o K) : Ca d m_L_ask [.ref 1, .int w, .int a, .int b, .int e] h K E := by
  obtain ⟨d, rfl⟩ : ∃ e, d = e + 1 := ⟨d - 1, by omega⟩
  refine Ca.of ⟨by show 5 ≤ 6; omega, rfl⟩ ?_
  show Ex d [(0, 9, 10, 1, 5, 2), (0, 9, 16, 2, 5, 2), (0, 9, 22, 3, 5, 2)] tb_L_ask (0, [some (.ref 1), some (.int w), some (.int a), some (.int b), some (.int e), none], []) h _
  refine Ex.pure 5 (fr2 := (6, [some (.ref 1), some (.int w), some (.int a), some (.int b), some (.int e), none], [.int e, .int b, .int a, .int w, .ref 1])) rfl ?_
  refine Ex.calh (rest := []) (j := m_L_call) (as := [.ref 1, .int w, .int a, .int b, .int e]) (fun c => rfl) (H (by omega) ⟨fun h0 rv h2 y2 c2 g1 g2 I2 F2 hr => ?_, fun hn h2 y2 I2 F2 => ?_⟩)
  · obtain ⟨r, rfl, hr⟩ := hr
    show Ex d [(0, 9, 10, 1, 5, 2), (0, 9, 16, 2, 5, 2), (0, 9, 22, 3, 5, 2)] tb_L_ask (9, [some (.ref 1), some (.int w), some (.int a), some (.int b), some (.int e), none], [.int r]) h2 _
    exact Ex.iret rfl (Or.inl rfl) (kk r h2 y2 c2 g1 g2 I2 (F2.le (by omega)) (by unfold av; rw [if_pos h0]; exact hr trivial))
  · rcases he hn with hst | hst | hst
    · rw [hst]
      show Ex d [(0, 9, 10, 1, 5, 2), (0, 9, 16, 2, 5, 2), (0, 9, 22, 3, 5, 2)] tb_L_ask (12, [some (.ref 1), some (.int w), some (.int a), some (.int b), some (.int e), none], []) h2 _
      refine Ex.pure 1 (fr2 := (15, [some (.ref 1), some (.int w), some (.int a), some (.int b), some (.int e), none], [.int (-1011)])) rfl ?_
      exact Ex.iret rfl (Or.inl rfl) (kk (-1011) h2 y2 c (Nat.le_refl _) (by omega) I2 F2 (by unfold av; rw [if_neg hn, hst]; rfl))
    · rw [hst]
      show Ex d [(0, 9, 10, 1, 5, 2), (0, 9, 16, 2, 5, 2), (0, 9, 22, 3, 5, 2)] tb_L_ask (18, [some (.ref 1), some (.int w), some (.int a), some (.int b), some (.int e), none], []) h2 _
      refine Ex.pure 1 (fr2 := (21, [some (.ref 1), some (.int w), some (.int a), some (.int b), some (.int e), none], [.int (-1012)])) rfl ?_
      exact Ex.iret rfl (Or.inl rfl) (kk (-1012) h2 y2 c (Nat.le_refl _) (by omega) I2 F2 (by unfold av; rw [if_neg hn, hst]; rfl))
    · rw [hst]
      show Ex d [(0, 9, 10, 1, 5, 2), (0, 9, 16, 2, 5, 2), (0, 9, 22, 3, 5, 2)] tb_L_ask (24, [some (.ref 1), some (.int w), some (.int a), some (.int b), some (.int e), none], []) h2 _
      refine Ex.pure 1 (fr2 := (27, [some (.ref 1), some (.int w), some (.int a), some (.int b), some (.int e), none], [.int (-1013)])) rfl ?_
      exact Ex.iret rfl (Or.inl rfl) (kk (-1013) h2 y2 c (Nat.le_refl _) (by omega) I2 F2 (by unfold av; rw [if_neg hn, hst]; rfl))
theorem mk_0 {a b e : Int32} (hd : 55 ≤ d) (hs : Sg h.1 y) (I : CI h y c S) (V : VA S) (hc : c + 10020 < 16384) (kk : KC 9 0 ecI c h y (f_finite a b S) K E) : Ca d m_L_makes [.ref 1, .int 0, .int a, .int b, .int e] h K E := by
  obtain ⟨d, rfl⟩ : ∃ e, d = e + 1 := ⟨d - 1, by omega⟩
  refine Ca.of ⟨by show 5 ≤ 5; omega, rfl⟩ ?_
  show Ex d [] tb_L_makes (0, [some (.ref 1), some (.int 0), some (.int a), some (.int b), some (.int e)], []) h _
  refine Ex.pure 1 (fr2 := (1, [some (.ref 1), some (.int 0), some (.int a), some (.int b), some (.int e)], [.int 0])) rfl ?_
  refine Ex.br (x := (13, [some (.ref 1), some (.int 0), some (.int a), some (.int b), some (.int e)], [])) (y := (4, [some (.ref 1), some (.int 0), some (.int a), some (.int b), some (.int e)], [])) (b := ¬ (0 : Int32) = 0) rfl (fun hb => absurd hb (by decide)) (fun _ => ?_)
  refine Ex.pure 3 (fr2 := (7, [some (.ref 1), some (.int 0), some (.int a), some (.int b), some (.int e)], [.int b, .int a, .ref 1])) rfl ?_
  refine Ex.cal (rest := []) (j := m_X6_finite) (as := [.ref 1, .int a, .int b]) (vst (a := 69) (b := 3) (c := 5) (rest := []) (vs := [.int a, .int b]) rfl ⟨Nat.le_of_ble_eq_true rfl, Nat.le_of_ble_eq_true rfl⟩ rfl rfl (sg_1 hs)) (c_finite (by omega) hs I hc ⟨fun h0 rv h2 y2 c2 g1 g2 I2 F2 hr => ?_, fun hn h2 y2 I2 F2 => kk.2 hn h2 y2 I2 F2⟩)
  have hr : rv = none := hr
  subst hr
  show Ex d [] tb_L_makes (10, [some (.ref 1), some (.int 0), some (.int a), some (.int b), some (.int e)], []) h2 _
  refine Ex.pure 1 (fr2 := (126, [some (.ref 1), some (.int 0), some (.int a), some (.int b), some (.int e)], [])) rfl ?_
  exact Ex.vret rfl (kk.1 h0 none h2 y2 c2 g1 g2 I2 F2 rfl)
theorem cl_0 {a b e : Int32} (hd : 56 ≤ d) (hs : Sg h.1 y) (I : CI h y c S) (V : VA S) (hc : c + 10020 < 16384) (kk : KC 9 1 ecI c h y (f_finite a b S) K E) : Ca d m_L_call [.ref 1, .int 0, .int a, .int b, .int e] h K E := by
  obtain ⟨d, rfl⟩ : ∃ e, d = e + 1 := ⟨d - 1, by omega⟩
  refine Ca.of ⟨by show 5 ≤ 5; omega, rfl⟩ ?_
  show Ex d [] tb_L_call (0, [some (.ref 1), some (.int 0), some (.int a), some (.int b), some (.int e)], []) h _
  refine Ex.pure 7 (fr2 := (98, [some (.ref 1), some (.int 0), some (.int a), some (.int b), some (.int e)], [.int e, .int b, .int a, .int 0, .ref 1])) rfl ?_
  refine Ex.cal (rest := []) (j := m_L_makes) (as := [.ref 1, .int 0, .int a, .int b, .int e]) (fun c => rfl) (mk_0 (by omega) hs I V hc ⟨fun h0 rv h2 y2 c2 g1 g2 I2 F2 hr => ?_, fun hn h2 y2 I2 F2 => kk.2 hn h2 y2 I2 F2⟩)
  have hr : rv = none := hr
  subst hr
  show Ex d [] tb_L_call (101, [some (.ref 1), some (.int 0), some (.int a), some (.int b), some (.int e)], []) h2 _
  refine Ex.pure 1 (fr2 := (102, [some (.ref 1), some (.int 0), some (.int a), some (.int b), some (.int e)], [.int 0])) rfl ?_
  exact Ex.iret rfl (Or.inl rfl) (kk.1 h0 (some (.int 0)) h2 y2 c2 g1 g2 I2 F2 ⟨0, rfl, fun _ => out2_v.symm⟩)
theorem as_0 {a b e : Int32} (hd : 61 ≤ d) (hs : Sg h.1 y) (I : CI h y c S) (V : VA S) (hc : c + 10020 < 16384) (kk : KA 9 ecI c h y (f_finite a b S) K) : Ca d m_L_ask [.ref 1, .int 0, .int a, .int b, .int e] h K E :=
  ask_of ecI_2 (by omega) (fun hd2 k2 => cl_0 (by omega) hs I V hc k2) kk
theorem mk_1 {a b e : Int32} (hd : 55 ≤ d) (hs : Sg h.1 y) (I : CI h y c S) (V : VA S) (hc : c + 10020 < 16384) (kk : KC M 0 ecI c h y (f_number a b e S) K E) : Ca d m_L_makes [.ref 1, .int 1, .int a, .int b, .int e] h K E := by
  obtain ⟨d, rfl⟩ : ∃ e, d = e + 1 := ⟨d - 1, by omega⟩
  refine Ca.of ⟨by show 5 ≤ 5; omega, rfl⟩ ?_
  show Ex d [] tb_L_makes (0, [some (.ref 1), some (.int 1), some (.int a), some (.int b), some (.int e)], []) h _
  refine Ex.pure 1 (fr2 := (1, [some (.ref 1), some (.int 1), some (.int a), some (.int b), some (.int e)], [.int 1])) rfl ?_
  refine Ex.br (x := (13, [some (.ref 1), some (.int 1), some (.int a), some (.int b), some (.int e)], [])) (y := (4, [some (.ref 1), some (.int 1), some (.int a), some (.int b), some (.int e)], [])) (b := ¬ (1 : Int32) = 0) rfl (fun _ => ?_) (fun hb => absurd (by decide) hb)
  refine Ex.pure 2 (fr2 := (15, [some (.ref 1), some (.int 1), some (.int a), some (.int b), some (.int e)], [.int 1, .int 1])) rfl ?_
  refine Ex.br (x := (29, [some (.ref 1), some (.int 1), some (.int a), some (.int b), some (.int e)], [])) (y := (18, [some (.ref 1), some (.int 1), some (.int a), some (.int b), some (.int e)], [])) (b := ¬ (1 : Int32) = 1) rfl (fun hb => absurd hb (by decide)) (fun _ => ?_)
  refine Ex.pure 4 (fr2 := (23, [some (.ref 1), some (.int 1), some (.int a), some (.int b), some (.int e)], [.int e, .int b, .int a, .ref 1])) rfl ?_
  refine Ex.cal (rest := []) (j := m_X6_number) (as := [.ref 1, .int a, .int b, .int e]) (vst (a := 71) (b := 4) (c := 5) (rest := []) (vs := [.int a, .int b, .int e]) rfl ⟨Nat.le_of_ble_eq_true rfl, Nat.le_of_ble_eq_true rfl⟩ rfl rfl (sg_1 hs)) (c_number (M := M) (by omega) hs I  ⟨fun h0 rv h2 y2 c2 g1 g2 I2 F2 hr => ?_, fun hn h2 y2 I2 F2 => kk.2 hn h2 y2 I2 F2⟩)
  have hr : rv = none := hr
  subst hr
  show Ex d [] tb_L_makes (26, [some (.ref 1), some (.int 1), some (.int a), some (.int b), some (.int e)], []) h2 _
  refine Ex.pure 1 (fr2 := (126, [some (.ref 1), some (.int 1), some (.int a), some (.int b), some (.int e)], [])) rfl ?_
  exact Ex.vret rfl (kk.1 h0 none h2 y2 c2 g1 g2 I2 F2 rfl)
theorem cl_1 {a b e : Int32} (hd : 56 ≤ d) (hs : Sg h.1 y) (I : CI h y c S) (V : VA S) (hc : c + 10020 < 16384) (kk : KC M 1 ecI c h y (f_number a b e S) K E) : Ca d m_L_call [.ref 1, .int 1, .int a, .int b, .int e] h K E := by
  obtain ⟨d, rfl⟩ : ∃ e, d = e + 1 := ⟨d - 1, by omega⟩
  refine Ca.of ⟨by show 5 ≤ 5; omega, rfl⟩ ?_
  show Ex d [] tb_L_call (0, [some (.ref 1), some (.int 1), some (.int a), some (.int b), some (.int e)], []) h _
  refine Ex.pure 7 (fr2 := (98, [some (.ref 1), some (.int 1), some (.int a), some (.int b), some (.int e)], [.int e, .int b, .int a, .int 1, .ref 1])) rfl ?_
  refine Ex.cal (rest := []) (j := m_L_makes) (as := [.ref 1, .int 1, .int a, .int b, .int e]) (fun c => rfl) (mk_1 (M := M) (by omega) hs I V hc ⟨fun h0 rv h2 y2 c2 g1 g2 I2 F2 hr => ?_, fun hn h2 y2 I2 F2 => kk.2 hn h2 y2 I2 F2⟩)
  have hr : rv = none := hr
  subst hr
  show Ex d [] tb_L_call (101, [some (.ref 1), some (.int 1), some (.int a), some (.int b), some (.int e)], []) h2 _
  refine Ex.pure 1 (fr2 := (102, [some (.ref 1), some (.int 1), some (.int a), some (.int b), some (.int e)], [.int 0])) rfl ?_
  exact Ex.iret rfl (Or.inl rfl) (kk.1 h0 (some (.int 0)) h2 y2 c2 g1 g2 I2 F2 ⟨0, rfl, fun _ => out2_v.symm⟩)
theorem as_1 {a b e : Int32} (hd : 61 ≤ d) (hs : Sg h.1 y) (I : CI h y c S) (V : VA S) (hc : c + 10020 < 16384) (kk : KA M ecI c h y (f_number a b e S) K) : Ca d m_L_ask [.ref 1, .int 1, .int a, .int b, .int e] h K E :=
  ask_of ecI_2 (by omega) (fun hd2 k2 => cl_1 (by omega) hs I V hc k2) kk
theorem mk_2 {a b e : Int32} (hd : 55 ≤ d) (hs : Sg h.1 y) (I : CI h y c S) (V : VA S) (hc : c + 10020 < 16384) (kk : KC M 0 ecI c h y (f_signs a b e S) K E) : Ca d m_L_makes [.ref 1, .int 2, .int a, .int b, .int e] h K E := by
  obtain ⟨d, rfl⟩ : ∃ e, d = e + 1 := ⟨d - 1, by omega⟩
  refine Ca.of ⟨by show 5 ≤ 5; omega, rfl⟩ ?_
  show Ex d [] tb_L_makes (0, [some (.ref 1), some (.int 2), some (.int a), some (.int b), some (.int e)], []) h _
  refine Ex.pure 1 (fr2 := (1, [some (.ref 1), some (.int 2), some (.int a), some (.int b), some (.int e)], [.int 2])) rfl ?_
  refine Ex.br (x := (13, [some (.ref 1), some (.int 2), some (.int a), some (.int b), some (.int e)], [])) (y := (4, [some (.ref 1), some (.int 2), some (.int a), some (.int b), some (.int e)], [])) (b := ¬ (2 : Int32) = 0) rfl (fun _ => ?_) (fun hb => absurd (by decide) hb)
  refine Ex.pure 2 (fr2 := (15, [some (.ref 1), some (.int 2), some (.int a), some (.int b), some (.int e)], [.int 1, .int 2])) rfl ?_
  refine Ex.br (x := (29, [some (.ref 1), some (.int 2), some (.int a), some (.int b), some (.int e)], [])) (y := (18, [some (.ref 1), some (.int 2), some (.int a), some (.int b), some (.int e)], [])) (b := ¬ (2 : Int32) = 1) rfl (fun _ => ?_) (fun hb => absurd (by decide) hb)
  refine Ex.pure 2 (fr2 := (31, [some (.ref 1), some (.int 2), some (.int a), some (.int b), some (.int e)], [.int 2, .int 2])) rfl ?_
  refine Ex.br (x := (45, [some (.ref 1), some (.int 2), some (.int a), some (.int b), some (.int e)], [])) (y := (34, [some (.ref 1), some (.int 2), some (.int a), some (.int b), some (.int e)], [])) (b := ¬ (2 : Int32) = 2) rfl (fun hb => absurd hb (by decide)) (fun _ => ?_)
  refine Ex.pure 4 (fr2 := (39, [some (.ref 1), some (.int 2), some (.int a), some (.int b), some (.int e)], [.int e, .int b, .int a, .ref 1])) rfl ?_
  refine Ex.cal (rest := []) (j := m_X6_signs) (as := [.ref 1, .int a, .int b, .int e]) (vst (a := 72) (b := 4) (c := 5) (rest := []) (vs := [.int a, .int b, .int e]) rfl ⟨Nat.le_of_ble_eq_true rfl, Nat.le_of_ble_eq_true rfl⟩ rfl rfl (sg_1 hs)) (c_signs (M := M) (by omega) hs I  ⟨fun h0 rv h2 y2 c2 g1 g2 I2 F2 hr => ?_, fun hn h2 y2 I2 F2 => kk.2 hn h2 y2 I2 F2⟩)
  have hr : rv = none := hr
  subst hr
  show Ex d [] tb_L_makes (42, [some (.ref 1), some (.int 2), some (.int a), some (.int b), some (.int e)], []) h2 _
  refine Ex.pure 1 (fr2 := (126, [some (.ref 1), some (.int 2), some (.int a), some (.int b), some (.int e)], [])) rfl ?_
  exact Ex.vret rfl (kk.1 h0 none h2 y2 c2 g1 g2 I2 F2 rfl)
theorem cl_2 {a b e : Int32} (hd : 56 ≤ d) (hs : Sg h.1 y) (I : CI h y c S) (V : VA S) (hc : c + 10020 < 16384) (kk : KC M 1 ecI c h y (f_signs a b e S) K E) : Ca d m_L_call [.ref 1, .int 2, .int a, .int b, .int e] h K E := by
  obtain ⟨d, rfl⟩ : ∃ e, d = e + 1 := ⟨d - 1, by omega⟩
  refine Ca.of ⟨by show 5 ≤ 5; omega, rfl⟩ ?_
  show Ex d [] tb_L_call (0, [some (.ref 1), some (.int 2), some (.int a), some (.int b), some (.int e)], []) h _
  refine Ex.pure 7 (fr2 := (98, [some (.ref 1), some (.int 2), some (.int a), some (.int b), some (.int e)], [.int e, .int b, .int a, .int 2, .ref 1])) rfl ?_
  refine Ex.cal (rest := []) (j := m_L_makes) (as := [.ref 1, .int 2, .int a, .int b, .int e]) (fun c => rfl) (mk_2 (M := M) (by omega) hs I V hc ⟨fun h0 rv h2 y2 c2 g1 g2 I2 F2 hr => ?_, fun hn h2 y2 I2 F2 => kk.2 hn h2 y2 I2 F2⟩)
  have hr : rv = none := hr
  subst hr
  show Ex d [] tb_L_call (101, [some (.ref 1), some (.int 2), some (.int a), some (.int b), some (.int e)], []) h2 _
  refine Ex.pure 1 (fr2 := (102, [some (.ref 1), some (.int 2), some (.int a), some (.int b), some (.int e)], [.int 0])) rfl ?_
  exact Ex.iret rfl (Or.inl rfl) (kk.1 h0 (some (.int 0)) h2 y2 c2 g1 g2 I2 F2 ⟨0, rfl, fun _ => out2_v.symm⟩)
theorem as_2 {a b e : Int32} (hd : 61 ≤ d) (hs : Sg h.1 y) (I : CI h y c S) (V : VA S) (hc : c + 10020 < 16384) (kk : KA M ecI c h y (f_signs a b e S) K) : Ca d m_L_ask [.ref 1, .int 2, .int a, .int b, .int e] h K E :=
  ask_of ecI_2 (by omega) (fun hd2 k2 => cl_2 (by omega) hs I V hc k2) kk
theorem mk_3 {a b e : Int32} (hd : 55 ≤ d) (hs : Sg h.1 y) (I : CI h y c S) (V : VA S) (hc : c + 10020 < 16384) (kk : KC 9 0 ecS c h y (f_omega a b S) K E) : Ca d m_L_makes [.ref 1, .int 3, .int a, .int b, .int e] h K E := by
  obtain ⟨d, rfl⟩ : ∃ e, d = e + 1 := ⟨d - 1, by omega⟩
  refine Ca.of ⟨by show 5 ≤ 5; omega, rfl⟩ ?_
  show Ex d [] tb_L_makes (0, [some (.ref 1), some (.int 3), some (.int a), some (.int b), some (.int e)], []) h _
  refine Ex.pure 1 (fr2 := (1, [some (.ref 1), some (.int 3), some (.int a), some (.int b), some (.int e)], [.int 3])) rfl ?_
  refine Ex.br (x := (13, [some (.ref 1), some (.int 3), some (.int a), some (.int b), some (.int e)], [])) (y := (4, [some (.ref 1), some (.int 3), some (.int a), some (.int b), some (.int e)], [])) (b := ¬ (3 : Int32) = 0) rfl (fun _ => ?_) (fun hb => absurd (by decide) hb)
  refine Ex.pure 2 (fr2 := (15, [some (.ref 1), some (.int 3), some (.int a), some (.int b), some (.int e)], [.int 1, .int 3])) rfl ?_
  refine Ex.br (x := (29, [some (.ref 1), some (.int 3), some (.int a), some (.int b), some (.int e)], [])) (y := (18, [some (.ref 1), some (.int 3), some (.int a), some (.int b), some (.int e)], [])) (b := ¬ (3 : Int32) = 1) rfl (fun _ => ?_) (fun hb => absurd (by decide) hb)
  refine Ex.pure 2 (fr2 := (31, [some (.ref 1), some (.int 3), some (.int a), some (.int b), some (.int e)], [.int 2, .int 3])) rfl ?_
  refine Ex.br (x := (45, [some (.ref 1), some (.int 3), some (.int a), some (.int b), some (.int e)], [])) (y := (34, [some (.ref 1), some (.int 3), some (.int a), some (.int b), some (.int e)], [])) (b := ¬ (3 : Int32) = 2) rfl (fun _ => ?_) (fun hb => absurd (by decide) hb)
  refine Ex.pure 2 (fr2 := (47, [some (.ref 1), some (.int 3), some (.int a), some (.int b), some (.int e)], [.int 3, .int 3])) rfl ?_
  refine Ex.br (x := (59, [some (.ref 1), some (.int 3), some (.int a), some (.int b), some (.int e)], [])) (y := (50, [some (.ref 1), some (.int 3), some (.int a), some (.int b), some (.int e)], [])) (b := ¬ (3 : Int32) = 3) rfl (fun hb => absurd hb (by decide)) (fun _ => ?_)
  refine Ex.pure 3 (fr2 := (53, [some (.ref 1), some (.int 3), some (.int a), some (.int b), some (.int e)], [.int b, .int a, .ref 1])) rfl ?_
  refine Ex.cal (rest := []) (j := m_X6_omega) (as := [.ref 1, .int a, .int b]) (vst (a := 70) (b := 3) (c := 5) (rest := []) (vs := [.int a, .int b]) rfl ⟨Nat.le_of_ble_eq_true rfl, Nat.le_of_ble_eq_true rfl⟩ rfl rfl (sg_1 hs)) (c_omega (by omega) hs I hc ⟨fun h0 rv h2 y2 c2 g1 g2 I2 F2 hr => ?_, fun hn h2 y2 I2 F2 => kk.2 hn h2 y2 I2 F2⟩)
  have hr : rv = none := hr
  subst hr
  show Ex d [] tb_L_makes (56, [some (.ref 1), some (.int 3), some (.int a), some (.int b), some (.int e)], []) h2 _
  refine Ex.pure 1 (fr2 := (126, [some (.ref 1), some (.int 3), some (.int a), some (.int b), some (.int e)], [])) rfl ?_
  exact Ex.vret rfl (kk.1 h0 none h2 y2 c2 g1 g2 I2 F2 rfl)
theorem cl_3 {a b e : Int32} (hd : 56 ≤ d) (hs : Sg h.1 y) (I : CI h y c S) (V : VA S) (hc : c + 10020 < 16384) (kk : KC 9 1 ecS c h y (f_omega a b S) K E) : Ca d m_L_call [.ref 1, .int 3, .int a, .int b, .int e] h K E := by
  obtain ⟨d, rfl⟩ : ∃ e, d = e + 1 := ⟨d - 1, by omega⟩
  refine Ca.of ⟨by show 5 ≤ 5; omega, rfl⟩ ?_
  show Ex d [] tb_L_call (0, [some (.ref 1), some (.int 3), some (.int a), some (.int b), some (.int e)], []) h _
  refine Ex.pure 7 (fr2 := (98, [some (.ref 1), some (.int 3), some (.int a), some (.int b), some (.int e)], [.int e, .int b, .int a, .int 3, .ref 1])) rfl ?_
  refine Ex.cal (rest := []) (j := m_L_makes) (as := [.ref 1, .int 3, .int a, .int b, .int e]) (fun c => rfl) (mk_3 (by omega) hs I V hc ⟨fun h0 rv h2 y2 c2 g1 g2 I2 F2 hr => ?_, fun hn h2 y2 I2 F2 => kk.2 hn h2 y2 I2 F2⟩)
  have hr : rv = none := hr
  subst hr
  show Ex d [] tb_L_call (101, [some (.ref 1), some (.int 3), some (.int a), some (.int b), some (.int e)], []) h2 _
  refine Ex.pure 1 (fr2 := (102, [some (.ref 1), some (.int 3), some (.int a), some (.int b), some (.int e)], [.int 0])) rfl ?_
  exact Ex.iret rfl (Or.inl rfl) (kk.1 h0 (some (.int 0)) h2 y2 c2 g1 g2 I2 F2 ⟨0, rfl, fun _ => out2_v.symm⟩)
theorem as_3 {a b e : Int32} (hd : 61 ≤ d) (hs : Sg h.1 y) (I : CI h y c S) (V : VA S) (hc : c + 10020 < 16384) (kk : KA 9 ecS c h y (f_omega a b S) K) : Ca d m_L_ask [.ref 1, .int 3, .int a, .int b, .int e] h K E :=
  ask_of ecS_2 (by omega) (fun hd2 k2 => cl_3 (by omega) hs I V hc k2) kk
theorem mk_4 {a b e : Int32} (hd : 55 ≤ d) (hs : Sg h.1 y) (I : CI h y c S) (V : VA S) (hc : c + 10020 < 16384) (kk : KC 9 0 ecS c h y (f_natural a b e 0 S) K E) : Ca d m_L_makes [.ref 1, .int 4, .int a, .int b, .int e] h K E := by
  obtain ⟨d, rfl⟩ : ∃ e, d = e + 1 := ⟨d - 1, by omega⟩
  refine Ca.of ⟨by show 5 ≤ 5; omega, rfl⟩ ?_
  show Ex d [] tb_L_makes (0, [some (.ref 1), some (.int 4), some (.int a), some (.int b), some (.int e)], []) h _
  refine Ex.pure 1 (fr2 := (1, [some (.ref 1), some (.int 4), some (.int a), some (.int b), some (.int e)], [.int 4])) rfl ?_
  refine Ex.br (x := (13, [some (.ref 1), some (.int 4), some (.int a), some (.int b), some (.int e)], [])) (y := (4, [some (.ref 1), some (.int 4), some (.int a), some (.int b), some (.int e)], [])) (b := ¬ (4 : Int32) = 0) rfl (fun _ => ?_) (fun hb => absurd (by decide) hb)
  refine Ex.pure 2 (fr2 := (15, [some (.ref 1), some (.int 4), some (.int a), some (.int b), some (.int e)], [.int 1, .int 4])) rfl ?_
  refine Ex.br (x := (29, [some (.ref 1), some (.int 4), some (.int a), some (.int b), some (.int e)], [])) (y := (18, [some (.ref 1), some (.int 4), some (.int a), some (.int b), some (.int e)], [])) (b := ¬ (4 : Int32) = 1) rfl (fun _ => ?_) (fun hb => absurd (by decide) hb)
  refine Ex.pure 2 (fr2 := (31, [some (.ref 1), some (.int 4), some (.int a), some (.int b), some (.int e)], [.int 2, .int 4])) rfl ?_
  refine Ex.br (x := (45, [some (.ref 1), some (.int 4), some (.int a), some (.int b), some (.int e)], [])) (y := (34, [some (.ref 1), some (.int 4), some (.int a), some (.int b), some (.int e)], [])) (b := ¬ (4 : Int32) = 2) rfl (fun _ => ?_) (fun hb => absurd (by decide) hb)
  refine Ex.pure 2 (fr2 := (47, [some (.ref 1), some (.int 4), some (.int a), some (.int b), some (.int e)], [.int 3, .int 4])) rfl ?_
  refine Ex.br (x := (59, [some (.ref 1), some (.int 4), some (.int a), some (.int b), some (.int e)], [])) (y := (50, [some (.ref 1), some (.int 4), some (.int a), some (.int b), some (.int e)], [])) (b := ¬ (4 : Int32) = 3) rfl (fun _ => ?_) (fun hb => absurd (by decide) hb)
  refine Ex.pure 2 (fr2 := (62, [some (.ref 1), some (.int 4), some (.int a), some (.int b), some (.int e)], [.int 6, .int 4])) rfl ?_
  refine Ex.br (x := (86, [some (.ref 1), some (.int 4), some (.int a), some (.int b), some (.int e)], [])) (y := (65, [some (.ref 1), some (.int 4), some (.int a), some (.int b), some (.int e)], [])) (b := 6 ≤ (4 : Int32)) rfl (fun hb => absurd hb (by decide)) (fun _ => ?_)
  refine Ex.pure 6 (fr2 := (72, [some (.ref 1), some (.int 4), some (.int a), some (.int b), some (.int e)], [.int 5, .int 4, .int e, .int b, .int a, .ref 1])) rfl ?_
  refine Ex.br (x := (79, [some (.ref 1), some (.int 4), some (.int a), some (.int b), some (.int e)], [.int e, .int b, .int a, .ref 1])) (y := (75, [some (.ref 1), some (.int 4), some (.int a), some (.int b), some (.int e)], [.int e, .int b, .int a, .ref 1])) (b := ¬ (4 : Int32) = 5) rfl (fun _ => ?_) (fun hb => absurd (by decide) hb)
  refine Ex.pure 1 (fr2 := (80, [some (.ref 1), some (.int 4), some (.int a), some (.int b), some (.int e)], [.int 0, .int e, .int b, .int a, .ref 1])) rfl ?_
  refine Ex.cal (rest := []) (j := m_X6_natural) (as := [.ref 1, .int a, .int b, .int e, .int 0]) (vst (a := 77) (b := 5) (c := 5) (rest := []) (vs := [.int a, .int b, .int e, .int 0]) rfl ⟨Nat.le_of_ble_eq_true rfl, Nat.le_of_ble_eq_true rfl⟩ rfl rfl (sg_1 hs)) (c_natural (by omega) hs I hc ⟨fun h0 rv h2 y2 c2 g1 g2 I2 F2 hr => ?_, fun hn h2 y2 I2 F2 => kk.2 hn h2 y2 I2 F2⟩)
  have hr : rv = none := hr
  subst hr
  show Ex d [] tb_L_makes (83, [some (.ref 1), some (.int 4), some (.int a), some (.int b), some (.int e)], []) h2 _
  refine Ex.pure 1 (fr2 := (126, [some (.ref 1), some (.int 4), some (.int a), some (.int b), some (.int e)], [])) rfl ?_
  exact Ex.vret rfl (kk.1 h0 none h2 y2 c2 g1 g2 I2 F2 rfl)
theorem cl_4 {a b e : Int32} (hd : 56 ≤ d) (hs : Sg h.1 y) (I : CI h y c S) (V : VA S) (hc : c + 10020 < 16384) (kk : KC 9 1 ecS c h y (f_natural a b e 0 S) K E) : Ca d m_L_call [.ref 1, .int 4, .int a, .int b, .int e] h K E := by
  obtain ⟨d, rfl⟩ : ∃ e, d = e + 1 := ⟨d - 1, by omega⟩
  refine Ca.of ⟨by show 5 ≤ 5; omega, rfl⟩ ?_
  show Ex d [] tb_L_call (0, [some (.ref 1), some (.int 4), some (.int a), some (.int b), some (.int e)], []) h _
  refine Ex.pure 7 (fr2 := (98, [some (.ref 1), some (.int 4), some (.int a), some (.int b), some (.int e)], [.int e, .int b, .int a, .int 4, .ref 1])) rfl ?_
  refine Ex.cal (rest := []) (j := m_L_makes) (as := [.ref 1, .int 4, .int a, .int b, .int e]) (fun c => rfl) (mk_4 (by omega) hs I V hc ⟨fun h0 rv h2 y2 c2 g1 g2 I2 F2 hr => ?_, fun hn h2 y2 I2 F2 => kk.2 hn h2 y2 I2 F2⟩)
  have hr : rv = none := hr
  subst hr
  show Ex d [] tb_L_call (101, [some (.ref 1), some (.int 4), some (.int a), some (.int b), some (.int e)], []) h2 _
  refine Ex.pure 1 (fr2 := (102, [some (.ref 1), some (.int 4), some (.int a), some (.int b), some (.int e)], [.int 0])) rfl ?_
  exact Ex.iret rfl (Or.inl rfl) (kk.1 h0 (some (.int 0)) h2 y2 c2 g1 g2 I2 F2 ⟨0, rfl, fun _ => out2_v.symm⟩)
theorem as_4 {a b e : Int32} (hd : 61 ≤ d) (hs : Sg h.1 y) (I : CI h y c S) (V : VA S) (hc : c + 10020 < 16384) (kk : KA 9 ecS c h y (f_natural a b e 0 S) K) : Ca d m_L_ask [.ref 1, .int 4, .int a, .int b, .int e] h K E :=
  ask_of ecS_2 (by omega) (fun hd2 k2 => cl_4 (by omega) hs I V hc k2) kk
theorem mk_5 {a b e : Int32} (hd : 55 ≤ d) (hs : Sg h.1 y) (I : CI h y c S) (V : VA S) (hc : c + 10020 < 16384) (kk : KC 9 0 ecS c h y (f_natural a b e 1 S) K E) : Ca d m_L_makes [.ref 1, .int 5, .int a, .int b, .int e] h K E := by
  obtain ⟨d, rfl⟩ : ∃ e, d = e + 1 := ⟨d - 1, by omega⟩
  refine Ca.of ⟨by show 5 ≤ 5; omega, rfl⟩ ?_
  show Ex d [] tb_L_makes (0, [some (.ref 1), some (.int 5), some (.int a), some (.int b), some (.int e)], []) h _
  refine Ex.pure 1 (fr2 := (1, [some (.ref 1), some (.int 5), some (.int a), some (.int b), some (.int e)], [.int 5])) rfl ?_
  refine Ex.br (x := (13, [some (.ref 1), some (.int 5), some (.int a), some (.int b), some (.int e)], [])) (y := (4, [some (.ref 1), some (.int 5), some (.int a), some (.int b), some (.int e)], [])) (b := ¬ (5 : Int32) = 0) rfl (fun _ => ?_) (fun hb => absurd (by decide) hb)
  refine Ex.pure 2 (fr2 := (15, [some (.ref 1), some (.int 5), some (.int a), some (.int b), some (.int e)], [.int 1, .int 5])) rfl ?_
  refine Ex.br (x := (29, [some (.ref 1), some (.int 5), some (.int a), some (.int b), some (.int e)], [])) (y := (18, [some (.ref 1), some (.int 5), some (.int a), some (.int b), some (.int e)], [])) (b := ¬ (5 : Int32) = 1) rfl (fun _ => ?_) (fun hb => absurd (by decide) hb)
  refine Ex.pure 2 (fr2 := (31, [some (.ref 1), some (.int 5), some (.int a), some (.int b), some (.int e)], [.int 2, .int 5])) rfl ?_
  refine Ex.br (x := (45, [some (.ref 1), some (.int 5), some (.int a), some (.int b), some (.int e)], [])) (y := (34, [some (.ref 1), some (.int 5), some (.int a), some (.int b), some (.int e)], [])) (b := ¬ (5 : Int32) = 2) rfl (fun _ => ?_) (fun hb => absurd (by decide) hb)
  refine Ex.pure 2 (fr2 := (47, [some (.ref 1), some (.int 5), some (.int a), some (.int b), some (.int e)], [.int 3, .int 5])) rfl ?_
  refine Ex.br (x := (59, [some (.ref 1), some (.int 5), some (.int a), some (.int b), some (.int e)], [])) (y := (50, [some (.ref 1), some (.int 5), some (.int a), some (.int b), some (.int e)], [])) (b := ¬ (5 : Int32) = 3) rfl (fun _ => ?_) (fun hb => absurd (by decide) hb)
  refine Ex.pure 2 (fr2 := (62, [some (.ref 1), some (.int 5), some (.int a), some (.int b), some (.int e)], [.int 6, .int 5])) rfl ?_
  refine Ex.br (x := (86, [some (.ref 1), some (.int 5), some (.int a), some (.int b), some (.int e)], [])) (y := (65, [some (.ref 1), some (.int 5), some (.int a), some (.int b), some (.int e)], [])) (b := 6 ≤ (5 : Int32)) rfl (fun hb => absurd hb (by decide)) (fun _ => ?_)
  refine Ex.pure 6 (fr2 := (72, [some (.ref 1), some (.int 5), some (.int a), some (.int b), some (.int e)], [.int 5, .int 5, .int e, .int b, .int a, .ref 1])) rfl ?_
  refine Ex.br (x := (79, [some (.ref 1), some (.int 5), some (.int a), some (.int b), some (.int e)], [.int e, .int b, .int a, .ref 1])) (y := (75, [some (.ref 1), some (.int 5), some (.int a), some (.int b), some (.int e)], [.int e, .int b, .int a, .ref 1])) (b := ¬ (5 : Int32) = 5) rfl (fun hb => absurd hb (by decide)) (fun _ => ?_)
  refine Ex.pure 2 (fr2 := (80, [some (.ref 1), some (.int 5), some (.int a), some (.int b), some (.int e)], [.int 1, .int e, .int b, .int a, .ref 1])) rfl ?_
  refine Ex.cal (rest := []) (j := m_X6_natural) (as := [.ref 1, .int a, .int b, .int e, .int 1]) (vst (a := 77) (b := 5) (c := 5) (rest := []) (vs := [.int a, .int b, .int e, .int 1]) rfl ⟨Nat.le_of_ble_eq_true rfl, Nat.le_of_ble_eq_true rfl⟩ rfl rfl (sg_1 hs)) (c_natural (by omega) hs I hc ⟨fun h0 rv h2 y2 c2 g1 g2 I2 F2 hr => ?_, fun hn h2 y2 I2 F2 => kk.2 hn h2 y2 I2 F2⟩)
  have hr : rv = none := hr
  subst hr
  show Ex d [] tb_L_makes (83, [some (.ref 1), some (.int 5), some (.int a), some (.int b), some (.int e)], []) h2 _
  refine Ex.pure 1 (fr2 := (126, [some (.ref 1), some (.int 5), some (.int a), some (.int b), some (.int e)], [])) rfl ?_
  exact Ex.vret rfl (kk.1 h0 none h2 y2 c2 g1 g2 I2 F2 rfl)
theorem cl_5 {a b e : Int32} (hd : 56 ≤ d) (hs : Sg h.1 y) (I : CI h y c S) (V : VA S) (hc : c + 10020 < 16384) (kk : KC 9 1 ecS c h y (f_natural a b e 1 S) K E) : Ca d m_L_call [.ref 1, .int 5, .int a, .int b, .int e] h K E := by
  obtain ⟨d, rfl⟩ : ∃ e, d = e + 1 := ⟨d - 1, by omega⟩
  refine Ca.of ⟨by show 5 ≤ 5; omega, rfl⟩ ?_
  show Ex d [] tb_L_call (0, [some (.ref 1), some (.int 5), some (.int a), some (.int b), some (.int e)], []) h _
  refine Ex.pure 7 (fr2 := (98, [some (.ref 1), some (.int 5), some (.int a), some (.int b), some (.int e)], [.int e, .int b, .int a, .int 5, .ref 1])) rfl ?_
  refine Ex.cal (rest := []) (j := m_L_makes) (as := [.ref 1, .int 5, .int a, .int b, .int e]) (fun c => rfl) (mk_5 (by omega) hs I V hc ⟨fun h0 rv h2 y2 c2 g1 g2 I2 F2 hr => ?_, fun hn h2 y2 I2 F2 => kk.2 hn h2 y2 I2 F2⟩)
  have hr : rv = none := hr
  subst hr
  show Ex d [] tb_L_call (101, [some (.ref 1), some (.int 5), some (.int a), some (.int b), some (.int e)], []) h2 _
  refine Ex.pure 1 (fr2 := (102, [some (.ref 1), some (.int 5), some (.int a), some (.int b), some (.int e)], [.int 0])) rfl ?_
  exact Ex.iret rfl (Or.inl rfl) (kk.1 h0 (some (.int 0)) h2 y2 c2 g1 g2 I2 F2 ⟨0, rfl, fun _ => out2_v.symm⟩)
theorem as_5 {a b e : Int32} (hd : 61 ≤ d) (hs : Sg h.1 y) (I : CI h y c S) (V : VA S) (hc : c + 10020 < 16384) (kk : KA 9 ecS c h y (f_natural a b e 1 S) K) : Ca d m_L_ask [.ref 1, .int 5, .int a, .int b, .int e] h K E :=
  ask_of ecS_2 (by omega) (fun hd2 k2 => cl_5 (by omega) hs I V hc k2) kk
theorem mk_6 {a b e : Int32} (hd : 55 ≤ d) (hs : Sg h.1 y) (I : CI h y c S) (V : VA S) (hc : c + 10020 < 16384) (kk : KC M 0 ecS c h y (f_derive a b S) K E) : Ca d m_L_makes [.ref 1, .int 6, .int a, .int b, .int e] h K E := by
  obtain ⟨d, rfl⟩ : ∃ e, d = e + 1 := ⟨d - 1, by omega⟩
  refine Ca.of ⟨by show 5 ≤ 5; omega, rfl⟩ ?_
  show Ex d [] tb_L_makes (0, [some (.ref 1), some (.int 6), some (.int a), some (.int b), some (.int e)], []) h _
  refine Ex.pure 1 (fr2 := (1, [some (.ref 1), some (.int 6), some (.int a), some (.int b), some (.int e)], [.int 6])) rfl ?_
  refine Ex.br (x := (13, [some (.ref 1), some (.int 6), some (.int a), some (.int b), some (.int e)], [])) (y := (4, [some (.ref 1), some (.int 6), some (.int a), some (.int b), some (.int e)], [])) (b := ¬ (6 : Int32) = 0) rfl (fun _ => ?_) (fun hb => absurd (by decide) hb)
  refine Ex.pure 2 (fr2 := (15, [some (.ref 1), some (.int 6), some (.int a), some (.int b), some (.int e)], [.int 1, .int 6])) rfl ?_
  refine Ex.br (x := (29, [some (.ref 1), some (.int 6), some (.int a), some (.int b), some (.int e)], [])) (y := (18, [some (.ref 1), some (.int 6), some (.int a), some (.int b), some (.int e)], [])) (b := ¬ (6 : Int32) = 1) rfl (fun _ => ?_) (fun hb => absurd (by decide) hb)
  refine Ex.pure 2 (fr2 := (31, [some (.ref 1), some (.int 6), some (.int a), some (.int b), some (.int e)], [.int 2, .int 6])) rfl ?_
  refine Ex.br (x := (45, [some (.ref 1), some (.int 6), some (.int a), some (.int b), some (.int e)], [])) (y := (34, [some (.ref 1), some (.int 6), some (.int a), some (.int b), some (.int e)], [])) (b := ¬ (6 : Int32) = 2) rfl (fun _ => ?_) (fun hb => absurd (by decide) hb)
  refine Ex.pure 2 (fr2 := (47, [some (.ref 1), some (.int 6), some (.int a), some (.int b), some (.int e)], [.int 3, .int 6])) rfl ?_
  refine Ex.br (x := (59, [some (.ref 1), some (.int 6), some (.int a), some (.int b), some (.int e)], [])) (y := (50, [some (.ref 1), some (.int 6), some (.int a), some (.int b), some (.int e)], [])) (b := ¬ (6 : Int32) = 3) rfl (fun _ => ?_) (fun hb => absurd (by decide) hb)
  refine Ex.pure 2 (fr2 := (62, [some (.ref 1), some (.int 6), some (.int a), some (.int b), some (.int e)], [.int 6, .int 6])) rfl ?_
  refine Ex.br (x := (86, [some (.ref 1), some (.int 6), some (.int a), some (.int b), some (.int e)], [])) (y := (65, [some (.ref 1), some (.int 6), some (.int a), some (.int b), some (.int e)], [])) (b := 6 ≤ (6 : Int32)) rfl (fun _ => ?_) (fun hb => absurd (by decide) hb)
  refine Ex.pure 2 (fr2 := (89, [some (.ref 1), some (.int 6), some (.int a), some (.int b), some (.int e)], [.int 6, .int 6])) rfl ?_
  refine Ex.br (x := (101, [some (.ref 1), some (.int 6), some (.int a), some (.int b), some (.int e)], [])) (y := (92, [some (.ref 1), some (.int 6), some (.int a), some (.int b), some (.int e)], [])) (b := ¬ (6 : Int32) = 6) rfl (fun hb => absurd hb (by decide)) (fun _ => ?_)
  refine Ex.pure 3 (fr2 := (95, [some (.ref 1), some (.int 6), some (.int a), some (.int b), some (.int e)], [.int b, .int a, .ref 1])) rfl ?_
  refine Ex.cal (rest := []) (j := m_X6_derive) (as := [.ref 1, .int a, .int b]) (vst (a := 78) (b := 3) (c := 5) (rest := []) (vs := [.int a, .int b]) rfl ⟨Nat.le_of_ble_eq_true rfl, Nat.le_of_ble_eq_true rfl⟩ rfl rfl (sg_1 hs)) (c_derive (M := M) (by omega) hs I V.2.1 ⟨fun h0 rv h2 y2 c2 g1 g2 I2 F2 hr => ?_, fun hn h2 y2 I2 F2 => kk.2 hn h2 y2 I2 F2⟩)
  have hr : rv = none := hr
  subst hr
  show Ex d [] tb_L_makes (98, [some (.ref 1), some (.int 6), some (.int a), some (.int b), some (.int e)], []) h2 _
  refine Ex.pure 1 (fr2 := (126, [some (.ref 1), some (.int 6), some (.int a), some (.int b), some (.int e)], [])) rfl ?_
  exact Ex.vret rfl (kk.1 h0 none h2 y2 c2 g1 g2 I2 F2 rfl)
theorem cl_6 {a b e : Int32} (hd : 56 ≤ d) (hs : Sg h.1 y) (I : CI h y c S) (V : VA S) (hc : c + 10020 < 16384) (kk : KC M 1 ecS c h y (f_derive a b S) K E) : Ca d m_L_call [.ref 1, .int 6, .int a, .int b, .int e] h K E := by
  obtain ⟨d, rfl⟩ : ∃ e, d = e + 1 := ⟨d - 1, by omega⟩
  refine Ca.of ⟨by show 5 ≤ 5; omega, rfl⟩ ?_
  show Ex d [] tb_L_call (0, [some (.ref 1), some (.int 6), some (.int a), some (.int b), some (.int e)], []) h _
  refine Ex.pure 7 (fr2 := (98, [some (.ref 1), some (.int 6), some (.int a), some (.int b), some (.int e)], [.int e, .int b, .int a, .int 6, .ref 1])) rfl ?_
  refine Ex.cal (rest := []) (j := m_L_makes) (as := [.ref 1, .int 6, .int a, .int b, .int e]) (fun c => rfl) (mk_6 (M := M) (by omega) hs I V hc ⟨fun h0 rv h2 y2 c2 g1 g2 I2 F2 hr => ?_, fun hn h2 y2 I2 F2 => kk.2 hn h2 y2 I2 F2⟩)
  have hr : rv = none := hr
  subst hr
  show Ex d [] tb_L_call (101, [some (.ref 1), some (.int 6), some (.int a), some (.int b), some (.int e)], []) h2 _
  refine Ex.pure 1 (fr2 := (102, [some (.ref 1), some (.int 6), some (.int a), some (.int b), some (.int e)], [.int 0])) rfl ?_
  exact Ex.iret rfl (Or.inl rfl) (kk.1 h0 (some (.int 0)) h2 y2 c2 g1 g2 I2 F2 ⟨0, rfl, fun _ => out2_v.symm⟩)
theorem as_6 {a b e : Int32} (hd : 61 ≤ d) (hs : Sg h.1 y) (I : CI h y c S) (V : VA S) (hc : c + 10020 < 16384) (kk : KA M ecS c h y (f_derive a b S) K) : Ca d m_L_ask [.ref 1, .int 6, .int a, .int b, .int e] h K E :=
  ask_of ecS_2 (by omega) (fun hd2 k2 => cl_6 (by omega) hs I V hc k2) kk
theorem mk_7 {a b e : Int32} (hd : 55 ≤ d) (hs : Sg h.1 y) (I : CI h y c S) (V : VA S) (hc : c + 10020 < 16384) (kk : KC 5 0 ecI c h y (f_step a b e S) K E) : Ca d m_L_makes [.ref 1, .int 7, .int a, .int b, .int e] h K E := by
  obtain ⟨d, rfl⟩ : ∃ e, d = e + 1 := ⟨d - 1, by omega⟩
  refine Ca.of ⟨by show 5 ≤ 5; omega, rfl⟩ ?_
  show Ex d [] tb_L_makes (0, [some (.ref 1), some (.int 7), some (.int a), some (.int b), some (.int e)], []) h _
  refine Ex.pure 1 (fr2 := (1, [some (.ref 1), some (.int 7), some (.int a), some (.int b), some (.int e)], [.int 7])) rfl ?_
  refine Ex.br (x := (13, [some (.ref 1), some (.int 7), some (.int a), some (.int b), some (.int e)], [])) (y := (4, [some (.ref 1), some (.int 7), some (.int a), some (.int b), some (.int e)], [])) (b := ¬ (7 : Int32) = 0) rfl (fun _ => ?_) (fun hb => absurd (by decide) hb)
  refine Ex.pure 2 (fr2 := (15, [some (.ref 1), some (.int 7), some (.int a), some (.int b), some (.int e)], [.int 1, .int 7])) rfl ?_
  refine Ex.br (x := (29, [some (.ref 1), some (.int 7), some (.int a), some (.int b), some (.int e)], [])) (y := (18, [some (.ref 1), some (.int 7), some (.int a), some (.int b), some (.int e)], [])) (b := ¬ (7 : Int32) = 1) rfl (fun _ => ?_) (fun hb => absurd (by decide) hb)
  refine Ex.pure 2 (fr2 := (31, [some (.ref 1), some (.int 7), some (.int a), some (.int b), some (.int e)], [.int 2, .int 7])) rfl ?_
  refine Ex.br (x := (45, [some (.ref 1), some (.int 7), some (.int a), some (.int b), some (.int e)], [])) (y := (34, [some (.ref 1), some (.int 7), some (.int a), some (.int b), some (.int e)], [])) (b := ¬ (7 : Int32) = 2) rfl (fun _ => ?_) (fun hb => absurd (by decide) hb)
  refine Ex.pure 2 (fr2 := (47, [some (.ref 1), some (.int 7), some (.int a), some (.int b), some (.int e)], [.int 3, .int 7])) rfl ?_
  refine Ex.br (x := (59, [some (.ref 1), some (.int 7), some (.int a), some (.int b), some (.int e)], [])) (y := (50, [some (.ref 1), some (.int 7), some (.int a), some (.int b), some (.int e)], [])) (b := ¬ (7 : Int32) = 3) rfl (fun _ => ?_) (fun hb => absurd (by decide) hb)
  refine Ex.pure 2 (fr2 := (62, [some (.ref 1), some (.int 7), some (.int a), some (.int b), some (.int e)], [.int 6, .int 7])) rfl ?_
  refine Ex.br (x := (86, [some (.ref 1), some (.int 7), some (.int a), some (.int b), some (.int e)], [])) (y := (65, [some (.ref 1), some (.int 7), some (.int a), some (.int b), some (.int e)], [])) (b := 6 ≤ (7 : Int32)) rfl (fun _ => ?_) (fun hb => absurd (by decide) hb)
  refine Ex.pure 2 (fr2 := (89, [some (.ref 1), some (.int 7), some (.int a), some (.int b), some (.int e)], [.int 6, .int 7])) rfl ?_
  refine Ex.br (x := (101, [some (.ref 1), some (.int 7), some (.int a), some (.int b), some (.int e)], [])) (y := (92, [some (.ref 1), some (.int 7), some (.int a), some (.int b), some (.int e)], [])) (b := ¬ (7 : Int32) = 6) rfl (fun _ => ?_) (fun hb => absurd (by decide) hb)
  refine Ex.pure 2 (fr2 := (104, [some (.ref 1), some (.int 7), some (.int a), some (.int b), some (.int e)], [.int 7, .int 7])) rfl ?_
  refine Ex.br (x := (118, [some (.ref 1), some (.int 7), some (.int a), some (.int b), some (.int e)], [])) (y := (107, [some (.ref 1), some (.int 7), some (.int a), some (.int b), some (.int e)], [])) (b := ¬ (7 : Int32) = 7) rfl (fun hb => absurd hb (by decide)) (fun _ => ?_)
  refine Ex.pure 4 (fr2 := (112, [some (.ref 1), some (.int 7), some (.int a), some (.int b), some (.int e)], [.int e, .int b, .int a, .ref 1])) rfl ?_
  refine Ex.cal (rest := []) (j := m_X6_step) (as := [.ref 1, .int a, .int b, .int e]) (vst (a := 80) (b := 4) (c := 5) (rest := []) (vs := [.int a, .int b, .int e]) rfl ⟨Nat.le_of_ble_eq_true rfl, Nat.le_of_ble_eq_true rfl⟩ rfl rfl (sg_1 hs)) (c_step (by omega) hs I hc ⟨fun h0 rv h2 y2 c2 g1 g2 I2 F2 hr => ?_, fun hn h2 y2 I2 F2 => kk.2 hn h2 y2 I2 F2⟩)
  have hr : rv = none := hr
  subst hr
  show Ex d [] tb_L_makes (115, [some (.ref 1), some (.int 7), some (.int a), some (.int b), some (.int e)], []) h2 _
  refine Ex.pure 1 (fr2 := (126, [some (.ref 1), some (.int 7), some (.int a), some (.int b), some (.int e)], [])) rfl ?_
  exact Ex.vret rfl (kk.1 h0 none h2 y2 c2 g1 g2 I2 F2 rfl)
theorem cl_7 {a b e : Int32} (hd : 56 ≤ d) (hs : Sg h.1 y) (I : CI h y c S) (V : VA S) (hc : c + 10020 < 16384) (kk : KC 5 1 ecI c h y (f_step a b e S) K E) : Ca d m_L_call [.ref 1, .int 7, .int a, .int b, .int e] h K E := by
  obtain ⟨d, rfl⟩ : ∃ e, d = e + 1 := ⟨d - 1, by omega⟩
  refine Ca.of ⟨by show 5 ≤ 5; omega, rfl⟩ ?_
  show Ex d [] tb_L_call (0, [some (.ref 1), some (.int 7), some (.int a), some (.int b), some (.int e)], []) h _
  refine Ex.pure 7 (fr2 := (98, [some (.ref 1), some (.int 7), some (.int a), some (.int b), some (.int e)], [.int e, .int b, .int a, .int 7, .ref 1])) rfl ?_
  refine Ex.cal (rest := []) (j := m_L_makes) (as := [.ref 1, .int 7, .int a, .int b, .int e]) (fun c => rfl) (mk_7 (by omega) hs I V hc ⟨fun h0 rv h2 y2 c2 g1 g2 I2 F2 hr => ?_, fun hn h2 y2 I2 F2 => kk.2 hn h2 y2 I2 F2⟩)
  have hr : rv = none := hr
  subst hr
  show Ex d [] tb_L_call (101, [some (.ref 1), some (.int 7), some (.int a), some (.int b), some (.int e)], []) h2 _
  refine Ex.pure 1 (fr2 := (102, [some (.ref 1), some (.int 7), some (.int a), some (.int b), some (.int e)], [.int 0])) rfl ?_
  exact Ex.iret rfl (Or.inl rfl) (kk.1 h0 (some (.int 0)) h2 y2 c2 g1 g2 I2 F2 ⟨0, rfl, fun _ => out3_v.symm⟩)
theorem as_7 {a b e : Int32} (hd : 61 ≤ d) (hs : Sg h.1 y) (I : CI h y c S) (V : VA S) (hc : c + 10020 < 16384) (kk : KA 5 ecI c h y (f_step a b e S) K) : Ca d m_L_ask [.ref 1, .int 7, .int a, .int b, .int e] h K E :=
  ask_of ecI_3 (by omega) (fun hd2 k2 => cl_7 (by omega) hs I V hc k2) kk
theorem mk_8 {a b e : Int32} (hd : 55 ≤ d) (hs : Sg h.1 y) (I : CI h y c S) (V : VA S) (hc : c + 10020 < 16384) (kk : KC M 0 ecS c h y (f_exponent a b e S) K E) : Ca d m_L_makes [.ref 1, .int 8, .int a, .int b, .int e] h K E := by
  obtain ⟨d, rfl⟩ : ∃ e, d = e + 1 := ⟨d - 1, by omega⟩
  refine Ca.of ⟨by show 5 ≤ 5; omega, rfl⟩ ?_
  show Ex d [] tb_L_makes (0, [some (.ref 1), some (.int 8), some (.int a), some (.int b), some (.int e)], []) h _
  refine Ex.pure 1 (fr2 := (1, [some (.ref 1), some (.int 8), some (.int a), some (.int b), some (.int e)], [.int 8])) rfl ?_
  refine Ex.br (x := (13, [some (.ref 1), some (.int 8), some (.int a), some (.int b), some (.int e)], [])) (y := (4, [some (.ref 1), some (.int 8), some (.int a), some (.int b), some (.int e)], [])) (b := ¬ (8 : Int32) = 0) rfl (fun _ => ?_) (fun hb => absurd (by decide) hb)
  refine Ex.pure 2 (fr2 := (15, [some (.ref 1), some (.int 8), some (.int a), some (.int b), some (.int e)], [.int 1, .int 8])) rfl ?_
  refine Ex.br (x := (29, [some (.ref 1), some (.int 8), some (.int a), some (.int b), some (.int e)], [])) (y := (18, [some (.ref 1), some (.int 8), some (.int a), some (.int b), some (.int e)], [])) (b := ¬ (8 : Int32) = 1) rfl (fun _ => ?_) (fun hb => absurd (by decide) hb)
  refine Ex.pure 2 (fr2 := (31, [some (.ref 1), some (.int 8), some (.int a), some (.int b), some (.int e)], [.int 2, .int 8])) rfl ?_
  refine Ex.br (x := (45, [some (.ref 1), some (.int 8), some (.int a), some (.int b), some (.int e)], [])) (y := (34, [some (.ref 1), some (.int 8), some (.int a), some (.int b), some (.int e)], [])) (b := ¬ (8 : Int32) = 2) rfl (fun _ => ?_) (fun hb => absurd (by decide) hb)
  refine Ex.pure 2 (fr2 := (47, [some (.ref 1), some (.int 8), some (.int a), some (.int b), some (.int e)], [.int 3, .int 8])) rfl ?_
  refine Ex.br (x := (59, [some (.ref 1), some (.int 8), some (.int a), some (.int b), some (.int e)], [])) (y := (50, [some (.ref 1), some (.int 8), some (.int a), some (.int b), some (.int e)], [])) (b := ¬ (8 : Int32) = 3) rfl (fun _ => ?_) (fun hb => absurd (by decide) hb)
  refine Ex.pure 2 (fr2 := (62, [some (.ref 1), some (.int 8), some (.int a), some (.int b), some (.int e)], [.int 6, .int 8])) rfl ?_
  refine Ex.br (x := (86, [some (.ref 1), some (.int 8), some (.int a), some (.int b), some (.int e)], [])) (y := (65, [some (.ref 1), some (.int 8), some (.int a), some (.int b), some (.int e)], [])) (b := 6 ≤ (8 : Int32)) rfl (fun _ => ?_) (fun hb => absurd (by decide) hb)
  refine Ex.pure 2 (fr2 := (89, [some (.ref 1), some (.int 8), some (.int a), some (.int b), some (.int e)], [.int 6, .int 8])) rfl ?_
  refine Ex.br (x := (101, [some (.ref 1), some (.int 8), some (.int a), some (.int b), some (.int e)], [])) (y := (92, [some (.ref 1), some (.int 8), some (.int a), some (.int b), some (.int e)], [])) (b := ¬ (8 : Int32) = 6) rfl (fun _ => ?_) (fun hb => absurd (by decide) hb)
  refine Ex.pure 2 (fr2 := (104, [some (.ref 1), some (.int 8), some (.int a), some (.int b), some (.int e)], [.int 7, .int 8])) rfl ?_
  refine Ex.br (x := (118, [some (.ref 1), some (.int 8), some (.int a), some (.int b), some (.int e)], [])) (y := (107, [some (.ref 1), some (.int 8), some (.int a), some (.int b), some (.int e)], [])) (b := ¬ (8 : Int32) = 7) rfl (fun _ => ?_) (fun hb => absurd (by decide) hb)
  refine Ex.pure 4 (fr2 := (123, [some (.ref 1), some (.int 8), some (.int a), some (.int b), some (.int e)], [.int e, .int b, .int a, .ref 1])) rfl ?_
  refine Ex.cal (rest := []) (j := m_X6_exponent) (as := [.ref 1, .int a, .int b, .int e]) (vst (a := 84) (b := 4) (c := 5) (rest := []) (vs := [.int a, .int b, .int e]) rfl ⟨Nat.le_of_ble_eq_true rfl, Nat.le_of_ble_eq_true rfl⟩ rfl rfl (sg_1 hs)) (c_exponent (M := M) (by omega) hs I  ⟨fun h0 rv h2 y2 c2 g1 g2 I2 F2 hr => ?_, fun hn h2 y2 I2 F2 => kk.2 hn h2 y2 I2 F2⟩)
  have hr : rv = none := hr
  subst hr
  show Ex d [] tb_L_makes (126, [some (.ref 1), some (.int 8), some (.int a), some (.int b), some (.int e)], []) h2 _
  exact Ex.vret rfl (kk.1 h0 none h2 y2 c2 g1 g2 I2 F2 rfl)
theorem cl_8 {a b e : Int32} (hd : 56 ≤ d) (hs : Sg h.1 y) (I : CI h y c S) (V : VA S) (hc : c + 10020 < 16384) (kk : KC M 1 ecS c h y (f_exponent a b e S) K E) : Ca d m_L_call [.ref 1, .int 8, .int a, .int b, .int e] h K E := by
  obtain ⟨d, rfl⟩ : ∃ e, d = e + 1 := ⟨d - 1, by omega⟩
  refine Ca.of ⟨by show 5 ≤ 5; omega, rfl⟩ ?_
  show Ex d [] tb_L_call (0, [some (.ref 1), some (.int 8), some (.int a), some (.int b), some (.int e)], []) h _
  refine Ex.pure 7 (fr2 := (98, [some (.ref 1), some (.int 8), some (.int a), some (.int b), some (.int e)], [.int e, .int b, .int a, .int 8, .ref 1])) rfl ?_
  refine Ex.cal (rest := []) (j := m_L_makes) (as := [.ref 1, .int 8, .int a, .int b, .int e]) (fun c => rfl) (mk_8 (M := M) (by omega) hs I V hc ⟨fun h0 rv h2 y2 c2 g1 g2 I2 F2 hr => ?_, fun hn h2 y2 I2 F2 => kk.2 hn h2 y2 I2 F2⟩)
  have hr : rv = none := hr
  subst hr
  show Ex d [] tb_L_call (101, [some (.ref 1), some (.int 8), some (.int a), some (.int b), some (.int e)], []) h2 _
  refine Ex.pure 1 (fr2 := (102, [some (.ref 1), some (.int 8), some (.int a), some (.int b), some (.int e)], [.int 0])) rfl ?_
  exact Ex.iret rfl (Or.inl rfl) (kk.1 h0 (some (.int 0)) h2 y2 c2 g1 g2 I2 F2 ⟨0, rfl, fun _ => out2_v.symm⟩)
theorem as_8 {a b e : Int32} (hd : 61 ≤ d) (hs : Sg h.1 y) (I : CI h y c S) (V : VA S) (hc : c + 10020 < 16384) (kk : KA M ecS c h y (f_exponent a b e S) K) : Ca d m_L_ask [.ref 1, .int 8, .int a, .int b, .int e] h K E :=
  ask_of ecS_2 (by omega) (fun hd2 k2 => cl_8 (by omega) hs I V hc k2) kk
theorem cl_9 {a b e : Int32} (hd : 56 ≤ d) (hs : Sg h.1 y) (I : CI h y c S) (V : VA S) (hc : c + 10020 < 16384) (kk : KC 9 1 ecS c h y (f_sum a b e S) K E) : Ca d m_L_call [.ref 1, .int 9, .int a, .int b, .int e] h K E := by
  obtain ⟨d, rfl⟩ : ∃ e, d = e + 1 := ⟨d - 1, by omega⟩
  refine Ca.of ⟨by show 5 ≤ 5; omega, rfl⟩ ?_
  show Ex d [] tb_L_call (0, [some (.ref 1), some (.int 9), some (.int a), some (.int b), some (.int e)], []) h _
  refine Ex.pure 6 (fr2 := (45, [some (.ref 1), some (.int 9), some (.int a), some (.int b), some (.int e)], [.int e, .int b, .int a, .ref 1])) rfl ?_
  refine Ex.cal (rest := []) (j := m_X6_sum) (as := [.ref 1, .int a, .int b, .int e]) (vst (a := 74) (b := 4) (c := 5) (rest := []) (vs := [.int a, .int b, .int e]) rfl ⟨Nat.le_of_ble_eq_true rfl, Nat.le_of_ble_eq_true rfl⟩ rfl rfl (sg_1 hs)) (c_sum (by omega) hs I V.2.1 V.2.2 V.1 hc ⟨fun h0 rv h2 y2 c2 g1 g2 I2 F2 hr => ?_, fun hn h2 y2 I2 F2 => kk.2 hn h2 y2 I2 F2⟩)
  obtain ⟨r, rfl, hr⟩ := hr
  show Ex d [] tb_L_call (48, [some (.ref 1), some (.int 9), some (.int a), some (.int b), some (.int e)], [.int r]) h2 _
  exact Ex.iret rfl (Or.inl rfl) (kk.1 h0 (some (.int r)) h2 y2 c2 g1 g2 I2 F2 ⟨r, rfl, hr⟩)
theorem as_9 {a b e : Int32} (hd : 61 ≤ d) (hs : Sg h.1 y) (I : CI h y c S) (V : VA S) (hc : c + 10020 < 16384) (kk : KA 9 ecS c h y (f_sum a b e S) K) : Ca d m_L_ask [.ref 1, .int 9, .int a, .int b, .int e] h K E :=
  ask_of ecS_2 (by omega) (fun hd2 k2 => cl_9 (by omega) hs I V hc k2) kk
theorem cl_10 {a b e : Int32} (hd : 56 ≤ d) (hs : Sg h.1 y) (I : CI h y c S) (V : VA S) (hc : c + 10020 < 16384) (kk : KC 9 1 ecS c h y (f_product a b e S) K E) : Ca d m_L_call [.ref 1, .int 10, .int a, .int b, .int e] h K E := by
  obtain ⟨d, rfl⟩ : ∃ e, d = e + 1 := ⟨d - 1, by omega⟩
  refine Ca.of ⟨by show 5 ≤ 5; omega, rfl⟩ ?_
  show Ex d [] tb_L_call (0, [some (.ref 1), some (.int 10), some (.int a), some (.int b), some (.int e)], []) h _
  refine Ex.pure 6 (fr2 := (54, [some (.ref 1), some (.int 10), some (.int a), some (.int b), some (.int e)], [.int e, .int b, .int a, .ref 1])) rfl ?_
  refine Ex.cal (rest := []) (j := m_X6_product) (as := [.ref 1, .int a, .int b, .int e]) (vst (a := 75) (b := 4) (c := 5) (rest := []) (vs := [.int a, .int b, .int e]) rfl ⟨Nat.le_of_ble_eq_true rfl, Nat.le_of_ble_eq_true rfl⟩ rfl rfl (sg_1 hs)) (c_product (by omega) hs I V.2.1 V.2.2 V.1 hc ⟨fun h0 rv h2 y2 c2 g1 g2 I2 F2 hr => ?_, fun hn h2 y2 I2 F2 => kk.2 hn h2 y2 I2 F2⟩)
  obtain ⟨r, rfl, hr⟩ := hr
  show Ex d [] tb_L_call (57, [some (.ref 1), some (.int 10), some (.int a), some (.int b), some (.int e)], [.int r]) h2 _
  exact Ex.iret rfl (Or.inl rfl) (kk.1 h0 (some (.int r)) h2 y2 c2 g1 g2 I2 F2 ⟨r, rfl, hr⟩)
theorem as_10 {a b e : Int32} (hd : 61 ≤ d) (hs : Sg h.1 y) (I : CI h y c S) (V : VA S) (hc : c + 10020 < 16384) (kk : KA 9 ecS c h y (f_product a b e S) K) : Ca d m_L_ask [.ref 1, .int 10, .int a, .int b, .int e] h K E :=
  ask_of ecS_2 (by omega) (fun hd2 k2 => cl_10 (by omega) hs I V hc k2) kk
theorem cl_11 {a b e : Int32} (hd : 56 ≤ d) (hs : Sg h.1 y) (I : CI h y c S) (V : VA S) (hc : c + 10020 < 16384) (kk : KC 9 1 ecS c h y (f_difference a b e S) K E) : Ca d m_L_call [.ref 1, .int 11, .int a, .int b, .int e] h K E := by
  obtain ⟨d, rfl⟩ : ∃ e, d = e + 1 := ⟨d - 1, by omega⟩
  refine Ca.of ⟨by show 5 ≤ 5; omega, rfl⟩ ?_
  show Ex d [] tb_L_call (0, [some (.ref 1), some (.int 11), some (.int a), some (.int b), some (.int e)], []) h _
  refine Ex.pure 6 (fr2 := (63, [some (.ref 1), some (.int 11), some (.int a), some (.int b), some (.int e)], [.int e, .int b, .int a, .ref 1])) rfl ?_
  refine Ex.cal (rest := []) (j := m_X6_difference) (as := [.ref 1, .int a, .int b, .int e]) (vst (a := 76) (b := 4) (c := 5) (rest := []) (vs := [.int a, .int b, .int e]) rfl ⟨Nat.le_of_ble_eq_true rfl, Nat.le_of_ble_eq_true rfl⟩ rfl rfl (sg_1 hs)) (c_difference (by omega) hs I V.2.1 V.2.2 V.1 hc ⟨fun h0 rv h2 y2 c2 g1 g2 I2 F2 hr => ?_, fun hn h2 y2 I2 F2 => kk.2 hn h2 y2 I2 F2⟩)
  obtain ⟨r, rfl, hr⟩ := hr
  show Ex d [] tb_L_call (66, [some (.ref 1), some (.int 11), some (.int a), some (.int b), some (.int e)], [.int r]) h2 _
  exact Ex.iret rfl (Or.inl rfl) (kk.1 h0 (some (.int r)) h2 y2 c2 g1 g2 I2 F2 ⟨r, rfl, hr⟩)
theorem as_11 {a b e : Int32} (hd : 61 ≤ d) (hs : Sg h.1 y) (I : CI h y c S) (V : VA S) (hc : c + 10020 < 16384) (kk : KA 9 ecS c h y (f_difference a b e S) K) : Ca d m_L_ask [.ref 1, .int 11, .int a, .int b, .int e] h K E :=
  ask_of ecS_2 (by omega) (fun hd2 k2 => cl_11 (by omega) hs I V hc k2) kk
theorem cl_12 {a b e : Int32} (hd : 56 ≤ d) (hs : Sg h.1 y) (I : CI h y c S) (V : VA S) (hc : c + 10020 < 16384) (kk : KC M 1 ecS c h y (f_compare a b S) K E) : Ca d m_L_call [.ref 1, .int 12, .int a, .int b, .int e] h K E := by
  obtain ⟨d, rfl⟩ : ∃ e, d = e + 1 := ⟨d - 1, by omega⟩
  refine Ca.of ⟨by show 5 ≤ 5; omega, rfl⟩ ?_
  show Ex d [] tb_L_call (0, [some (.ref 1), some (.int 12), some (.int a), some (.int b), some (.int e)], []) h _
  refine Ex.pure 5 (fr2 := (70, [some (.ref 1), some (.int 12), some (.int a), some (.int b), some (.int e)], [.int b, .int a, .ref 1])) rfl ?_
  refine Ex.cal (rest := []) (j := m_X6_compare) (as := [.ref 1, .int a, .int b]) (vst (a := 79) (b := 3) (c := 5) (rest := []) (vs := [.int a, .int b]) rfl ⟨Nat.le_of_ble_eq_true rfl, Nat.le_of_ble_eq_true rfl⟩ rfl rfl (sg_1 hs)) (c_compare (M := M) (by omega) hs I V.2.1 V.2.2 ⟨fun h0 rv h2 y2 c2 g1 g2 I2 F2 hr => ?_, fun hn h2 y2 I2 F2 => kk.2 hn h2 y2 I2 F2⟩)
  obtain ⟨r, rfl, hr⟩ := hr
  show Ex d [] tb_L_call (73, [some (.ref 1), some (.int 12), some (.int a), some (.int b), some (.int e)], [.int r]) h2 _
  exact Ex.iret rfl (Or.inl rfl) (kk.1 h0 (some (.int r)) h2 y2 c2 g1 g2 I2 F2 ⟨r, rfl, hr⟩)
theorem as_12 {a b e : Int32} (hd : 61 ≤ d) (hs : Sg h.1 y) (I : CI h y c S) (V : VA S) (hc : c + 10020 < 16384) (kk : KA M ecS c h y (f_compare a b S) K) : Ca d m_L_ask [.ref 1, .int 12, .int a, .int b, .int e] h K E :=
  ask_of ecS_2 (by omega) (fun hd2 k2 => cl_12 (by omega) hs I V hc k2) kk
theorem cl_13 {a b e : Int32} (hd : 56 ≤ d) (hs : Sg h.1 y) (I : CI h y c S) (V : VA S) (hc : c + 10020 < 16384) (kk : KC M 1 ecI c h y (f_descent a b e S) K E) : Ca d m_L_call [.ref 1, .int 13, .int a, .int b, .int e] h K E := by
  obtain ⟨d, rfl⟩ : ∃ e, d = e + 1 := ⟨d - 1, by omega⟩
  refine Ca.of ⟨by show 5 ≤ 5; omega, rfl⟩ ?_
  show Ex d [] tb_L_call (0, [some (.ref 1), some (.int 13), some (.int a), some (.int b), some (.int e)], []) h _
  refine Ex.pure 6 (fr2 := (79, [some (.ref 1), some (.int 13), some (.int a), some (.int b), some (.int e)], [.int e, .int b, .int a, .ref 1])) rfl ?_
  refine Ex.cal (rest := []) (j := m_X6_descent) (as := [.ref 1, .int a, .int b, .int e]) (vst (a := 81) (b := 4) (c := 5) (rest := []) (vs := [.int a, .int b, .int e]) rfl ⟨Nat.le_of_ble_eq_true rfl, Nat.le_of_ble_eq_true rfl⟩ rfl rfl (sg_1 hs)) (c_descent (M := M) (by omega) hs I hc ⟨fun h0 rv h2 y2 c2 g1 g2 I2 F2 hr => ?_, fun hn h2 y2 I2 F2 => kk.2 hn h2 y2 I2 F2⟩)
  obtain ⟨r, rfl, hr⟩ := hr
  show Ex d [] tb_L_call (82, [some (.ref 1), some (.int 13), some (.int a), some (.int b), some (.int e)], [.int r]) h2 _
  exact Ex.iret rfl (Or.inl rfl) (kk.1 h0 (some (.int r)) h2 y2 c2 g1 g2 I2 F2 ⟨r, rfl, hr⟩)
theorem as_13 {a b e : Int32} (hd : 61 ≤ d) (hs : Sg h.1 y) (I : CI h y c S) (V : VA S) (hc : c + 10020 < 16384) (kk : KA M ecI c h y (f_descent a b e S) K) : Ca d m_L_ask [.ref 1, .int 13, .int a, .int b, .int e] h K E :=
  ask_of ecI_3 (by omega) (fun hd2 k2 => cl_13 (by omega) hs I V hc k2) kk
theorem cl_14 {a b e : Int32} (hd : 56 ≤ d) (hs : Sg h.1 y) (I : CI h y c S) (V : VA S) (hc : c + 10020 < 16384) (kk : KC M 1 ecI c h y (f_cut a b e S) K E) : Ca d m_L_call [.ref 1, .int 14, .int a, .int b, .int e] h K E := by
  obtain ⟨d, rfl⟩ : ∃ e, d = e + 1 := ⟨d - 1, by omega⟩
  refine Ca.of ⟨by show 5 ≤ 5; omega, rfl⟩ ?_
  show Ex d [] tb_L_call (0, [some (.ref 1), some (.int 14), some (.int a), some (.int b), some (.int e)], []) h _
  refine Ex.pure 6 (fr2 := (88, [some (.ref 1), some (.int 14), some (.int a), some (.int b), some (.int e)], [.int e, .int b, .int a, .ref 1])) rfl ?_
  refine Ex.cal (rest := []) (j := m_X6_cut) (as := [.ref 1, .int a, .int b, .int e]) (vst (a := 85) (b := 4) (c := 5) (rest := []) (vs := [.int a, .int b, .int e]) rfl ⟨Nat.le_of_ble_eq_true rfl, Nat.le_of_ble_eq_true rfl⟩ rfl rfl (sg_1 hs)) (c_cut (M := M) (by omega) hs I V.1 ⟨fun h0 rv h2 y2 c2 g1 g2 I2 F2 hr => ?_, fun hn h2 y2 I2 F2 => kk.2 hn h2 y2 I2 F2⟩)
  obtain ⟨r, rfl, hr⟩ := hr
  show Ex d [] tb_L_call (91, [some (.ref 1), some (.int 14), some (.int a), some (.int b), some (.int e)], [.int r]) h2 _
  exact Ex.iret rfl (Or.inl rfl) (kk.1 h0 (some (.int r)) h2 y2 c2 g1 g2 I2 F2 ⟨r, rfl, hr⟩)
theorem as_14 {a b e : Int32} (hd : 61 ≤ d) (hs : Sg h.1 y) (I : CI h y c S) (V : VA S) (hc : c + 10020 < 16384) (kk : KA M ecI c h y (f_cut a b e S) K) : Ca d m_L_ask [.ref 1, .int 14, .int a, .int b, .int e] h K E :=
  ask_of ecI_3 (by omega) (fun hd2 k2 => cl_14 (by omega) hs I V hc k2) kk
theorem as_term {a b e f g i : Int32} (hd : 61 ≤ d) (hs : Sg h.1 y) (I : CI h y c S) (kk : KA M ecI c h y (f_term a b e f g i S) K) : Ca d m_L_term [.ref 1, .int a, .int b, .int e, .int f, .int g, .int i] h K E := by
  obtain ⟨d, rfl⟩ : ∃ e, d = e + 1 := ⟨d - 1, by omega⟩
  refine Ca.of ⟨by show 7 ≤ 8; omega, rfl⟩ ?_
  show Ex d [(0, 14, 15, 1, 7, 2), (0, 14, 21, 2, 7, 2)] tb_L_term (0, [some (.ref 1), some (.int a), some (.int b), some (.int e), some (.int f), some (.int g), some (.int i), none], []) h _
  refine Ex.pure 7 (fr2 := (10, [some (.ref 1), some (.int a), some (.int b), some (.int e), some (.int f), some (.int g), some (.int i), none], [.int i, .int g, .int f, .int e, .int b, .int a, .ref 1])) rfl ?_
  refine Ex.calh (rest := []) (j := m_X6_term) (as := [.ref 1, .int a, .int b, .int e, .int f, .int g, .int i]) (vst (a := 73) (b := 7) (c := 5) (rest := []) (vs := [.int a, .int b, .int e, .int f, .int g, .int i]) rfl ⟨Nat.le_of_ble_eq_true rfl, Nat.le_of_ble_eq_true rfl⟩ rfl rfl (sg_1 hs)) (c_term (M := M) (by omega) hs I ⟨fun h0 rv h2 y2 c2 g1 g2 I2 F2 hr => ?_, fun hn h2 y2 I2 F2 => ?_⟩)
  · have hr : rv = none := hr
    subst hr
    show Ex d [(0, 14, 15, 1, 7, 2), (0, 14, 21, 2, 7, 2)] tb_L_term (13, [some (.ref 1), some (.int a), some (.int b), some (.int e), some (.int f), some (.int g), some (.int i), none], []) h2 _
    refine Ex.pure 1 (fr2 := (14, [some (.ref 1), some (.int a), some (.int b), some (.int e), some (.int f), some (.int g), some (.int i), none], [.int 0])) rfl ?_
    exact Ex.iret rfl (Or.inl rfl) (kk 0 h2 y2 c2 g1 g2 I2 (F2.le (by omega)) (by unfold av; rw [if_pos h0]; exact out2_v.symm))
  · rcases out2_st hn with z | z
    · have hst : (f_term a b e f g i S).1 = 1 := z
      rw [hst]
      show Ex d [(0, 14, 15, 1, 7, 2), (0, 14, 21, 2, 7, 2)] tb_L_term (17, [some (.ref 1), some (.int a), some (.int b), some (.int e), some (.int f), some (.int g), some (.int i), none], []) h2 _
      refine Ex.pure 1 (fr2 := (20, [some (.ref 1), some (.int a), some (.int b), some (.int e), some (.int f), some (.int g), some (.int i), none], [.int (-1011)])) rfl ?_
      exact Ex.iret rfl (Or.inl rfl) (kk (-1011) h2 y2 c (Nat.le_refl _) (by omega) I2 F2 (by unfold av; rw [if_neg hn, hst]; rfl))
    · have hst : (f_term a b e f g i S).1 = 2 := z
      rw [hst]
      show Ex d [(0, 14, 15, 1, 7, 2), (0, 14, 21, 2, 7, 2)] tb_L_term (23, [some (.ref 1), some (.int a), some (.int b), some (.int e), some (.int f), some (.int g), some (.int i), none], []) h2 _
      refine Ex.pure 1 (fr2 := (26, [some (.ref 1), some (.int a), some (.int b), some (.int e), some (.int f), some (.int g), some (.int i), none], [.int (-1012)])) rfl ?_
      exact Ex.iret rfl (Or.inl rfl) (kk (-1012) h2 y2 c (Nat.le_refl _) (by omega) I2 F2 (by unfold av; rw [if_neg hn, hst]; rfl))
end
