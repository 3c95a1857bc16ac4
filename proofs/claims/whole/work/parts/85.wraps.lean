/-! ===== layer 2: the law's wrappers, written by a program ===== -/
/-- a call that may throw where the frame has handlers -/
theorem Ex.calh {d : Nat} {hs : XHs} {tb : List (Option XI)} {pc : Nat} {L : XL} {st rest : List Value} {h : XH} {K : XK} {E : XE} {j : Nat} {as : List Value} (h1 : ∀ c, xstp c hs tb (pc, L, st) h = x_back hs pc L rest (c j as h)) (H : Ca d j as h (fun v h3 => Ex d hs tb (pc + 3, L, v.toList ++ rest) h3 (Po K E)) (fun e h3 => Rs d hs tb (x_back hs pc L rest (some (.inr e, h3))) (Po K E))) : Ex d hs tb (pc, L, st) h (Po K E) :=
  Ex.ask h1 H (fun o h3 hq => by
    cases o with
    | inl v => exact hq
    | inr e => exact hq)
theorem out2_st {c1 c2 : Prop} {v : Int} {S S2 : XS} (h : ¬ (out2 c1 c2 v S S2).1 = 0) : (out2 c1 c2 v S S2).1 = 1 ∨ (out2 c1 c2 v S S2).1 = 2 := by
  by_cases a : c1
  · by_cases b : c2
    · rw [out2_0 a b] at h; exact absurd rfl h
    · rw [out2_2 a b]; exact Or.inr rfl
  · rw [out2_1 a]; exact Or.inl rfl
theorem out3_st {c1 c2 c3 : Prop} {v : Int} {S S2 : XS} (h : ¬ (out3 c1 c2 c3 v S S2).1 = 0) : (out3 c1 c2 c3 v S S2).1 = 1 ∨ (out3 c1 c2 c3 v S S2).1 = 2 ∨ (out3 c1 c2 c3 v S S2).1 = 3 := by
  by_cases a : c1
  · by_cases b : c2
    · by_cases c : c3
      · rw [out3_0 a b c] at h; exact absurd rfl h
      · rw [out3_3 a b c]; exact Or.inr (Or.inr rfl)
    · rw [out3_2 a b]; exact Or.inr (Or.inl rfl)
  · rw [out3_1 a]; exact Or.inl rfl
/-- what a wrapper may change -/
def FW (h : XH) (y : Nat → Nat) (h2 : XH) (y2 : Nat → Nat) : Prop := Sg h2.1 y2 ∧ (∀ r, (r = 0 ∨ 77 ≤ r) → r < 94 → h2.2.1 r = h.2.1 r ∧ h2.2.2.1 r = h.2.2.1 r) ∧ h2.1.length + Ty y ≤ h.1.length + Ty y2 + 1 ∧ h2.2.2.2 + 2 * Ty y ≤ h.2.2.2 + 2 * Ty y2 + 6
/-- the numbers, growths, kinds of S are right -/
def VA (S : XS) : Prop := VN S ∧ VG S ∧ VK S
/-- what comes behind a wrapper -/
def KW (t c : Nat) (h : XH) (y : Nat → Nat) (o : XC) (K : XK) : Prop := ∀ (r : Int32) (h2 : XH) (y2 : Nat → Nat) (c2 : Nat), c ≤ c2 → c2 ≤ c + 9 → CI h2 y2 c2 o.2.2 → FW h y h2 y2 → r.toInt = o.1 → (o.1 = 0 → ¬ t = 0 → (h2.2.2.1 94 0).toInt = o.2.1) → K (some (.int r)) h2
theorem FC.fw {n : Nat} {h h2 : XH} {y y2 : Nat → Nat} (F : FC n h y h2 y2) (hn : n ≤ 1) : FW h y h2 y2 := ⟨F.1, fun r a b => F.2.1 r a (by omega), by have := F.2.2.1; omega, by have := F.2.2.2; omega⟩
theorem CI.o {h : XH} {y : Nat → Nat} {c : Nat} {S : XS} (I : CI h y c S) (hs : Sg h.1 y) (v : Int64) : CI (x_setJ h 94 0 v) y c S := by
  obtain ⟨ov, I1, I2⟩ := I
  exact ⟨ov, I1.fr rfl rfl rfl rfl rfl, I2.fr (fun r a b => ⟨rfl, sJ_nq _ _ (by omega)⟩) (Nat.le_refl _) (fun _ _ => rfl)⟩
theorem FW.o {h h2 : XH} {y y2 : Nat → Nat} (F : FW h y h2 y2) (v : Int64) : FW h y (x_setJ h2 94 0 v) y2 := ⟨F.1, fun r a b => ⟨(F.2.1 r a b).1, by rw [sJ_nq _ _ (by omega)]; exact (F.2.1 r a b).2⟩, F.2.2⟩
section
variable {d c : Nat} {h : XH} {y : Nat → Nat} {S : XS} {K : XK} {E : XE}
theorem lw_kind {a : Int32} (hd : 60 ≤ d) (hs : Sg h.1 y) (I : CI h y c S) (V : VA S) (hc : c + 10020 < 16384) (kk : KW 1 c h y (f_kind a S) K) : Ca d m_L_kind [.ref 1, .int a, .ref 94] h K E := by
  obtain ⟨d, rfl⟩ : ∃ e, d = e + 1 := ⟨d - 1, by omega⟩
  refine Ca.of ⟨by show 3 ≤ 4; omega, rfl⟩ ?_
  show Ex d [(0, 9, 12, 1, 3, 1)] tb_L_kind (0, [some (.ref 1), some (.int a), some (.ref 94), none], []) h _
  refine Ex.pure 4 (fr2 := (4, [some (.ref 1), some (.int a), some (.ref 94), none], [.int a, .ref 1, .int 0, .ref 94])) rfl ?_
  refine Ex.calh (rest := [.int 0, .ref 94]) (j := m_X6_kind) (as := [.ref 1, .int a]) (vst (a := 68) (b := 2) (c := 5) (rest := [.int 0, .ref 94]) (vs := [.int a]) rfl ⟨Nat.le_of_ble_eq_true rfl, Nat.le_of_ble_eq_true rfl⟩ rfl rfl (sg_1 hs)) (c_kind (by omega) hs I  ⟨fun h0 rv h2 y2 c2 g1 g2 I2 F2 hr => ?_, fun hn h2 y2 I2 F2 => ?_⟩)
  · obtain ⟨r, rfl, hr⟩ := hr
    have hr := hr trivial
    show Ex d [(0, 9, 12, 1, 3, 1)] tb_L_kind (7, [some (.ref 1), some (.int a), some (.ref 94), none], [.int r, .int 0, .ref 94]) h2 _
    refine Ex.pure 1 (fr2 := (8, [some (.ref 1), some (.int a), some (.ref 94), none], [.long r.toInt64, .int 0, .ref 94])) rfl ?_
    refine Ex.last rfl (sg_94 F2.1) (by decide) ?_
    refine Ex.pure 2 (fr2 := (16, [some (.ref 1), some (.int a), some (.ref 94), none], [.int 0])) rfl ?_
    exact Ex.iret rfl (Or.inl rfl) (kk 0 (x_setJ h2 94 0 r.toInt64) y2 c2 g1 g2 (I2.o F2.1 _) ((F2.fw (by omega)).o _) (by rw [h0]; rfl) (fun _ _ => by rw [sJ_eq]; exact (i_2j r).trans hr))
  · have hst : (f_kind a S).1 = 1 := by
      rcases out2_st hn with w | w
      · exact w
      · exfalso
        by_cases z : isp a
        · rw [show f_kind a S = _ from out2_0 z trivial] at hn
          exact hn rfl
        · rw [out2_1 z] at w
          exact absurd w (show ¬ (1 : Nat) = 2 by decide)
    have hst2 : (f_kind a S).1 = 1 := hst
    rw [hst2]
    show Ex d [(0, 9, 12, 1, 3, 1)] tb_L_kind (13, [some (.ref 1), some (.int a), some (.ref 94), none], []) h2 _
    refine Ex.pure 1 (fr2 := (14, [some (.ref 1), some (.int a), some (.ref 94), none], [.int 1])) rfl ?_
    exact Ex.iret rfl (Or.inl rfl) (kk 1 h2 y2 c (Nat.le_refl _) (by omega) I2 (F2.fw (by omega)) (by rw [hst2]; rfl) (fun w => absurd w hn))
theorem lw_clear {a : Int32} (hd : 60 ≤ d) (hs : Sg h.1 y) (I : CI h y c S) (V : VA S) (hc : c + 10020 < 16384) (kk : KW 1 c h y (f_clear a S) K) : Ca d m_L_clear [.ref 1, .int a, .ref 94] h K E := by
  obtain ⟨d, rfl⟩ : ∃ e, d = e + 1 := ⟨d - 1, by omega⟩
  refine Ca.of ⟨by show 3 ≤ 4; omega, rfl⟩ ?_
  show Ex d [(0, 9, 12, 1, 3, 1)] tb_L_clear (0, [some (.ref 1), some (.int a), some (.ref 94), none], []) h _
  refine Ex.pure 4 (fr2 := (4, [some (.ref 1), some (.int a), some (.ref 94), none], [.int a, .ref 1, .int 0, .ref 94])) rfl ?_
  refine Ex.calh (rest := [.int 0, .ref 94]) (j := m_X6_clear) (as := [.ref 1, .int a]) (vst (a := 69) (b := 2) (c := 5) (rest := [.int 0, .ref 94]) (vs := [.int a]) rfl ⟨Nat.le_of_ble_eq_true rfl, Nat.le_of_ble_eq_true rfl⟩ rfl rfl (sg_1 hs)) (c_clear (by omega) hs I  ⟨fun h0 rv h2 y2 c2 g1 g2 I2 F2 hr => ?_, fun hn h2 y2 I2 F2 => ?_⟩)
  · obtain ⟨r, rfl, hr⟩ := hr
    have hr := hr trivial
    show Ex d [(0, 9, 12, 1, 3, 1)] tb_L_clear (7, [some (.ref 1), some (.int a), some (.ref 94), none], [.int r, .int 0, .ref 94]) h2 _
    refine Ex.pure 1 (fr2 := (8, [some (.ref 1), some (.int a), some (.ref 94), none], [.long r.toInt64, .int 0, .ref 94])) rfl ?_
    refine Ex.last rfl (sg_94 F2.1) (by decide) ?_
    refine Ex.pure 2 (fr2 := (16, [some (.ref 1), some (.int a), some (.ref 94), none], [.int 0])) rfl ?_
    exact Ex.iret rfl (Or.inl rfl) (kk 0 (x_setJ h2 94 0 r.toInt64) y2 c2 g1 g2 (I2.o F2.1 _) ((F2.fw (by omega)).o _) (by rw [h0]; rfl) (fun _ _ => by rw [sJ_eq]; exact (i_2j r).trans hr))
  · have hst : (f_clear a S).1 = 1 := by
      rcases out2_st hn with w | w
      · exact w
      · exfalso
        by_cases z : isp a
        · rw [show f_clear a S = _ from out2_0 z trivial] at hn
          exact hn rfl
        · rw [out2_1 z] at w
          exact absurd w (show ¬ (1 : Nat) = 2 by decide)
    have hst2 : (f_clear a S).1 = 1 := hst
    rw [hst2]
    show Ex d [(0, 9, 12, 1, 3, 1)] tb_L_clear (13, [some (.ref 1), some (.int a), some (.ref 94), none], []) h2 _
    refine Ex.pure 1 (fr2 := (14, [some (.ref 1), some (.int a), some (.ref 94), none], [.int 1])) rfl ?_
    exact Ex.iret rfl (Or.inl rfl) (kk 1 h2 y2 c (Nat.le_refl _) (by omega) I2 (F2.fw (by omega)) (by rw [hst2]; rfl) (fun w => absurd w hn))
theorem lw_finite {a b : Int32} (hd : 60 ≤ d) (hs : Sg h.1 y) (I : CI h y c S) (V : VA S) (hc : c + 10020 < 16384) (kk : KW 0 c h y (f_finite a b S) K) : Ca d m_L_finite [.ref 1, .int a, .int b] h K E := by
  obtain ⟨d, rfl⟩ : ∃ e, d = e + 1 := ⟨d - 1, by omega⟩
  refine Ca.of ⟨by show 3 ≤ 4; omega, rfl⟩ ?_
  show Ex d [(0, 6, 9, 1, 3, 1), (0, 6, 12, 2, 3, 1)] tb_L_finite (0, [some (.ref 1), some (.int a), some (.int b), none], []) h _
  refine Ex.pure 3 (fr2 := (3, [some (.ref 1), some (.int a), some (.int b), none], [.int b, .int a, .ref 1])) rfl ?_
  refine Ex.calh (rest := []) (j := m_X6_finite) (as := [.ref 1, .int a, .int b]) (vst (a := 70) (b := 3) (c := 5) (rest := []) (vs := [.int a, .int b]) rfl ⟨Nat.le_of_ble_eq_true rfl, Nat.le_of_ble_eq_true rfl⟩ rfl rfl (sg_1 hs)) (c_finite (by omega) hs I hc ⟨fun h0 rv h2 y2 c2 g1 g2 I2 F2 hr => ?_, fun hn h2 y2 I2 F2 => ?_⟩)
  · have hr : rv = none := hr
    subst hr
    show Ex d [(0, 6, 9, 1, 3, 1), (0, 6, 12, 2, 3, 1)] tb_L_finite (6, [some (.ref 1), some (.int a), some (.int b), none], []) h2 _
    refine Ex.pure 2 (fr2 := (16, [some (.ref 1), some (.int a), some (.int b), none], [.int 0])) rfl ?_
    exact Ex.iret rfl (Or.inl rfl) (kk 0 h2 y2 c2 g1 g2 I2 (F2.fw (by omega)) (by rw [h0]; rfl) (fun _ w => absurd rfl w))
  · rcases out2_st hn with hst | hst
    · have hst2 : (f_finite a b S).1 = 1 := hst
      rw [hst2]
      show Ex d [(0, 6, 9, 1, 3, 1), (0, 6, 12, 2, 3, 1)] tb_L_finite (10, [some (.ref 1), some (.int a), some (.int b), none], []) h2 _
      refine Ex.pure 1 (fr2 := (11, [some (.ref 1), some (.int a), some (.int b), none], [.int 1])) rfl ?_
      exact Ex.iret rfl (Or.inl rfl) (kk 1 h2 y2 c (Nat.le_refl _) (by omega) I2 (F2.fw (by omega)) (by rw [hst2]; rfl) (fun w => absurd w hn))
    · have hst2 : (f_finite a b S).1 = 2 := hst
      rw [hst2]
      show Ex d [(0, 6, 9, 1, 3, 1), (0, 6, 12, 2, 3, 1)] tb_L_finite (13, [some (.ref 1), some (.int a), some (.int b), none], []) h2 _
      refine Ex.pure 1 (fr2 := (14, [some (.ref 1), some (.int a), some (.int b), none], [.int 2])) rfl ?_
      exact Ex.iret rfl (Or.inl rfl) (kk 2 h2 y2 c (Nat.le_refl _) (by omega) I2 (F2.fw (by omega)) (by rw [hst2]; rfl) (fun w => absurd w hn))
theorem lw_omega {a b : Int32} (hd : 60 ≤ d) (hs : Sg h.1 y) (I : CI h y c S) (V : VA S) (hc : c + 10020 < 16384) (kk : KW 0 c h y (f_omega a b S) K) : Ca d m_L_omega [.ref 1, .int a, .int b] h K E := by
  obtain ⟨d, rfl⟩ : ∃ e, d = e + 1 := ⟨d - 1, by omega⟩
  refine Ca.of ⟨by show 3 ≤ 4; omega, rfl⟩ ?_
  show Ex d [(0, 6, 9, 1, 3, 1), (0, 6, 12, 3, 3, 1)] tb_L_omega (0, [some (.ref 1), some (.int a), some (.int b), none], []) h _
  refine Ex.pure 3 (fr2 := (3, [some (.ref 1), some (.int a), some (.int b), none], [.int b, .int a, .ref 1])) rfl ?_
  refine Ex.calh (rest := []) (j := m_X6_omega) (as := [.ref 1, .int a, .int b]) (vst (a := 71) (b := 3) (c := 5) (rest := []) (vs := [.int a, .int b]) rfl ⟨Nat.le_of_ble_eq_true rfl, Nat.le_of_ble_eq_true rfl⟩ rfl rfl (sg_1 hs)) (c_omega (by omega) hs I hc ⟨fun h0 rv h2 y2 c2 g1 g2 I2 F2 hr => ?_, fun hn h2 y2 I2 F2 => ?_⟩)
  · have hr : rv = none := hr
    subst hr
    show Ex d [(0, 6, 9, 1, 3, 1), (0, 6, 12, 3, 3, 1)] tb_L_omega (6, [some (.ref 1), some (.int a), some (.int b), none], []) h2 _
    refine Ex.pure 2 (fr2 := (16, [some (.ref 1), some (.int a), some (.int b), none], [.int 0])) rfl ?_
    exact Ex.iret rfl (Or.inl rfl) (kk 0 h2 y2 c2 g1 g2 I2 (F2.fw (by omega)) (by rw [h0]; rfl) (fun _ w => absurd rfl w))
  · rcases out2_st hn with hst | hst
    · have hst2 : (f_omega a b S).1 = 1 := hst
      rw [hst2]
      show Ex d [(0, 6, 9, 1, 3, 1), (0, 6, 12, 3, 3, 1)] tb_L_omega (10, [some (.ref 1), some (.int a), some (.int b), none], []) h2 _
      refine Ex.pure 1 (fr2 := (11, [some (.ref 1), some (.int a), some (.int b), none], [.int 1])) rfl ?_
      exact Ex.iret rfl (Or.inl rfl) (kk 1 h2 y2 c (Nat.le_refl _) (by omega) I2 (F2.fw (by omega)) (by rw [hst2]; rfl) (fun w => absurd w hn))
    · have hst2 : (f_omega a b S).1 = 2 := hst
      rw [hst2]
      show Ex d [(0, 6, 9, 1, 3, 1), (0, 6, 12, 3, 3, 1)] tb_L_omega (13, [some (.ref 1), some (.int a), some (.int b), none], []) h2 _
      refine Ex.pure 1 (fr2 := (14, [some (.ref 1), some (.int a), some (.int b), none], [.int 2])) rfl ?_
      exact Ex.iret rfl (Or.inl rfl) (kk 2 h2 y2 c (Nat.le_refl _) (by omega) I2 (F2.fw (by omega)) (by rw [hst2]; rfl) (fun w => absurd w hn))
theorem lw_number {a b e : Int32} (hd : 60 ≤ d) (hs : Sg h.1 y) (I : CI h y c S) (V : VA S) (hc : c + 10020 < 16384) (kk : KW 0 c h y (f_number a b e S) K) : Ca d m_L_number [.ref 1, .int a, .int b, .int e] h K E := by
  obtain ⟨d, rfl⟩ : ∃ e, d = e + 1 := ⟨d - 1, by omega⟩
  refine Ca.of ⟨by show 4 ≤ 5; omega, rfl⟩ ?_
  show Ex d [(0, 7, 10, 1, 4, 2), (0, 7, 14, 2, 4, 2)] tb_L_number (0, [some (.ref 1), some (.int a), some (.int b), some (.int e), none], []) h _
  refine Ex.pure 4 (fr2 := (4, [some (.ref 1), some (.int a), some (.int b), some (.int e), none], [.int e, .int b, .int a, .ref 1])) rfl ?_
  refine Ex.calh (rest := []) (j := m_X6_number) (as := [.ref 1, .int a, .int b, .int e]) (vst (a := 72) (b := 4) (c := 5) (rest := []) (vs := [.int a, .int b, .int e]) rfl ⟨Nat.le_of_ble_eq_true rfl, Nat.le_of_ble_eq_true rfl⟩ rfl rfl (sg_1 hs)) (c_number (by omega) hs I  ⟨fun h0 rv h2 y2 c2 g1 g2 I2 F2 hr => ?_, fun hn h2 y2 I2 F2 => ?_⟩)
  · have hr : rv = none := hr
    subst hr
    show Ex d [(0, 7, 10, 1, 4, 2), (0, 7, 14, 2, 4, 2)] tb_L_number (7, [some (.ref 1), some (.int a), some (.int b), some (.int e), none], []) h2 _
    refine Ex.pure 2 (fr2 := (19, [some (.ref 1), some (.int a), some (.int b), some (.int e), none], [.int 0])) rfl ?_
    exact Ex.iret rfl (Or.inl rfl) (kk 0 h2 y2 c2 g1 g2 I2 (F2.fw (by omega)) (by rw [h0]; rfl) (fun _ w => absurd rfl w))
  · rcases out2_st hn with hst | hst
    · have hst2 : (f_number a b e S).1 = 1 := hst
      rw [hst2]
      show Ex d [(0, 7, 10, 1, 4, 2), (0, 7, 14, 2, 4, 2)] tb_L_number (12, [some (.ref 1), some (.int a), some (.int b), some (.int e), none], []) h2 _
      refine Ex.pure 1 (fr2 := (13, [some (.ref 1), some (.int a), some (.int b), some (.int e), none], [.int 1])) rfl ?_
      exact Ex.iret rfl (Or.inl rfl) (kk 1 h2 y2 c (Nat.le_refl _) (by omega) I2 (F2.fw (by omega)) (by rw [hst2]; rfl) (fun w => absurd w hn))
    · have hst2 : (f_number a b e S).1 = 2 := hst
      rw [hst2]
      show Ex d [(0, 7, 10, 1, 4, 2), (0, 7, 14, 2, 4, 2)] tb_L_number (16, [some (.ref 1), some (.int a), some (.int b), some (.int e), none], []) h2 _
      refine Ex.pure 1 (fr2 := (17, [some (.ref 1), some (.int a), some (.int b), some (.int e), none], [.int 2])) rfl ?_
      exact Ex.iret rfl (Or.inl rfl) (kk 2 h2 y2 c (Nat.le_refl _) (by omega) I2 (F2.fw (by omega)) (by rw [hst2]; rfl) (fun w => absurd w hn))
theorem lw_signs {a b e : Int32} (hd : 60 ≤ d) (hs : Sg h.1 y) (I : CI h y c S) (V : VA S) (hc : c + 10020 < 16384) (kk : KW 0 c h y (f_signs a b e S) K) : Ca d m_L_signs [.ref 1, .int a, .int b, .int e] h K E := by
  obtain ⟨d, rfl⟩ : ∃ e, d = e + 1 := ⟨d - 1, by omega⟩
  refine Ca.of ⟨by show 4 ≤ 5; omega, rfl⟩ ?_
  show Ex d [(0, 7, 10, 1, 4, 2), (0, 7, 14, 2, 4, 2)] tb_L_signs (0, [some (.ref 1), some (.int a), some (.int b), some (.int e), none], []) h _
  refine Ex.pure 4 (fr2 := (4, [some (.ref 1), some (.int a), some (.int b), some (.int e), none], [.int e, .int b, .int a, .ref 1])) rfl ?_
  refine Ex.calh (rest := []) (j := m_X6_signs) (as := [.ref 1, .int a, .int b, .int e]) (vst (a := 73) (b := 4) (c := 5) (rest := []) (vs := [.int a, .int b, .int e]) rfl ⟨Nat.le_of_ble_eq_true rfl, Nat.le_of_ble_eq_true rfl⟩ rfl rfl (sg_1 hs)) (c_signs (by omega) hs I  ⟨fun h0 rv h2 y2 c2 g1 g2 I2 F2 hr => ?_, fun hn h2 y2 I2 F2 => ?_⟩)
  · have hr : rv = none := hr
    subst hr
    show Ex d [(0, 7, 10, 1, 4, 2), (0, 7, 14, 2, 4, 2)] tb_L_signs (7, [some (.ref 1), some (.int a), some (.int b), some (.int e), none], []) h2 _
    refine Ex.pure 2 (fr2 := (19, [some (.ref 1), some (.int a), some (.int b), some (.int e), none], [.int 0])) rfl ?_
    exact Ex.iret rfl (Or.inl rfl) (kk 0 h2 y2 c2 g1 g2 I2 (F2.fw (by omega)) (by rw [h0]; rfl) (fun _ w => absurd rfl w))
  · rcases out2_st hn with hst | hst
    · have hst2 : (f_signs a b e S).1 = 1 := hst
      rw [hst2]
      show Ex d [(0, 7, 10, 1, 4, 2), (0, 7, 14, 2, 4, 2)] tb_L_signs (12, [some (.ref 1), some (.int a), some (.int b), some (.int e), none], []) h2 _
      refine Ex.pure 1 (fr2 := (13, [some (.ref 1), some (.int a), some (.int b), some (.int e), none], [.int 1])) rfl ?_
      exact Ex.iret rfl (Or.inl rfl) (kk 1 h2 y2 c (Nat.le_refl _) (by omega) I2 (F2.fw (by omega)) (by rw [hst2]; rfl) (fun w => absurd w hn))
    · have hst2 : (f_signs a b e S).1 = 2 := hst
      rw [hst2]
      show Ex d [(0, 7, 10, 1, 4, 2), (0, 7, 14, 2, 4, 2)] tb_L_signs (16, [some (.ref 1), some (.int a), some (.int b), some (.int e), none], []) h2 _
      refine Ex.pure 1 (fr2 := (17, [some (.ref 1), some (.int a), some (.int b), some (.int e), none], [.int 2])) rfl ?_
      exact Ex.iret rfl (Or.inl rfl) (kk 2 h2 y2 c (Nat.le_refl _) (by omega) I2 (F2.fw (by omega)) (by rw [hst2]; rfl) (fun w => absurd w hn))
theorem lw_term {a b e f g i : Int32} (hd : 60 ≤ d) (hs : Sg h.1 y) (I : CI h y c S) (V : VA S) (hc : c + 10020 < 16384) (kk : KW 0 c h y (f_term a b e f g i S) K) : Ca d m_L_term [.ref 1, .int a, .int b, .int e, .int f, .int g, .int i] h K E := by
  obtain ⟨d, rfl⟩ : ∃ e, d = e + 1 := ⟨d - 1, by omega⟩
  refine Ca.of ⟨by show 7 ≤ 8; omega, rfl⟩ ?_
  show Ex d [(0, 13, 16, 1, 7, 2), (0, 13, 20, 2, 7, 2)] tb_L_term (0, [some (.ref 1), some (.int a), some (.int b), some (.int e), some (.int f), some (.int g), some (.int i), none], []) h _
  refine Ex.pure 7 (fr2 := (10, [some (.ref 1), some (.int a), some (.int b), some (.int e), some (.int f), some (.int g), some (.int i), none], [.int i, .int g, .int f, .int e, .int b, .int a, .ref 1])) rfl ?_
  refine Ex.calh (rest := []) (j := m_X6_term) (as := [.ref 1, .int a, .int b, .int e, .int f, .int g, .int i]) (vst (a := 74) (b := 7) (c := 5) (rest := []) (vs := [.int a, .int b, .int e, .int f, .int g, .int i]) rfl ⟨Nat.le_of_ble_eq_true rfl, Nat.le_of_ble_eq_true rfl⟩ rfl rfl (sg_1 hs)) (c_term (by omega) hs I  ⟨fun h0 rv h2 y2 c2 g1 g2 I2 F2 hr => ?_, fun hn h2 y2 I2 F2 => ?_⟩)
  · have hr : rv = none := hr
    subst hr
    show Ex d [(0, 13, 16, 1, 7, 2), (0, 13, 20, 2, 7, 2)] tb_L_term (13, [some (.ref 1), some (.int a), some (.int b), some (.int e), some (.int f), some (.int g), some (.int i), none], []) h2 _
    refine Ex.pure 2 (fr2 := (25, [some (.ref 1), some (.int a), some (.int b), some (.int e), some (.int f), some (.int g), some (.int i), none], [.int 0])) rfl ?_
    exact Ex.iret rfl (Or.inl rfl) (kk 0 h2 y2 c2 g1 g2 I2 (F2.fw (by omega)) (by rw [h0]; rfl) (fun _ w => absurd rfl w))
  · rcases out2_st hn with hst | hst
    · have hst2 : (f_term a b e f g i S).1 = 1 := hst
      rw [hst2]
      show Ex d [(0, 13, 16, 1, 7, 2), (0, 13, 20, 2, 7, 2)] tb_L_term (18, [some (.ref 1), some (.int a), some (.int b), some (.int e), some (.int f), some (.int g), some (.int i), none], []) h2 _
      refine Ex.pure 1 (fr2 := (19, [some (.ref 1), some (.int a), some (.int b), some (.int e), some (.int f), some (.int g), some (.int i), none], [.int 1])) rfl ?_
      exact Ex.iret rfl (Or.inl rfl) (kk 1 h2 y2 c (Nat.le_refl _) (by omega) I2 (F2.fw (by omega)) (by rw [hst2]; rfl) (fun w => absurd w hn))
    · have hst2 : (f_term a b e f g i S).1 = 2 := hst
      rw [hst2]
      show Ex d [(0, 13, 16, 1, 7, 2), (0, 13, 20, 2, 7, 2)] tb_L_term (22, [some (.ref 1), some (.int a), some (.int b), some (.int e), some (.int f), some (.int g), some (.int i), none], []) h2 _
      refine Ex.pure 1 (fr2 := (23, [some (.ref 1), some (.int a), some (.int b), some (.int e), some (.int f), some (.int g), some (.int i), none], [.int 2])) rfl ?_
      exact Ex.iret rfl (Or.inl rfl) (kk 2 h2 y2 c (Nat.le_refl _) (by omega) I2 (F2.fw (by omega)) (by rw [hst2]; rfl) (fun w => absurd w hn))
theorem lw_sum {a b e : Int32} (hd : 60 ≤ d) (hs : Sg h.1 y) (I : CI h y c S) (V : VA S) (hc : c + 10020 < 16384) (kk : KW 1 c h y (f_sum a b e S) K) : Ca d m_L_sum [.ref 1, .int a, .int b, .int e, .ref 94] h K E := by
  obtain ⟨d, rfl⟩ : ∃ e, d = e + 1 := ⟨d - 1, by omega⟩
  refine Ca.of ⟨by show 5 ≤ 6; omega, rfl⟩ ?_
  show Ex d [(0, 12, 15, 1, 5, 2), (0, 12, 19, 3, 5, 2)] tb_L_sum (0, [some (.ref 1), some (.int a), some (.int b), some (.int e), some (.ref 94), none], []) h _
  refine Ex.pure 6 (fr2 := (7, [some (.ref 1), some (.int a), some (.int b), some (.int e), some (.ref 94), none], [.int e, .int b, .int a, .ref 1, .int 0, .ref 94])) rfl ?_
  refine Ex.calh (rest := [.int 0, .ref 94]) (j := m_X6_sum) (as := [.ref 1, .int a, .int b, .int e]) (vst (a := 75) (b := 4) (c := 5) (rest := [.int 0, .ref 94]) (vs := [.int a, .int b, .int e]) rfl ⟨Nat.le_of_ble_eq_true rfl, Nat.le_of_ble_eq_true rfl⟩ rfl rfl (sg_1 hs)) (c_sum (by omega) hs I V.2.1 V.2.2 V.1 hc ⟨fun h0 rv h2 y2 c2 g1 g2 I2 F2 hr => ?_, fun hn h2 y2 I2 F2 => ?_⟩)
  · obtain ⟨r, rfl, hr⟩ := hr
    have hr := hr trivial
    show Ex d [(0, 12, 15, 1, 5, 2), (0, 12, 19, 3, 5, 2)] tb_L_sum (10, [some (.ref 1), some (.int a), some (.int b), some (.int e), some (.ref 94), none], [.int r, .int 0, .ref 94]) h2 _
    refine Ex.pure 1 (fr2 := (11, [some (.ref 1), some (.int a), some (.int b), some (.int e), some (.ref 94), none], [.long r.toInt64, .int 0, .ref 94])) rfl ?_
    refine Ex.last rfl (sg_94 F2.1) (by decide) ?_
    refine Ex.pure 2 (fr2 := (24, [some (.ref 1), some (.int a), some (.int b), some (.int e), some (.ref 94), none], [.int 0])) rfl ?_
    exact Ex.iret rfl (Or.inl rfl) (kk 0 (x_setJ h2 94 0 r.toInt64) y2 c2 g1 g2 (I2.o F2.1 _) ((F2.fw (by omega)).o _) (by rw [h0]; rfl) (fun _ _ => by rw [sJ_eq]; exact (i_2j r).trans hr))
  · rcases out2_st hn with hst | hst
    · have hst2 : (f_sum a b e S).1 = 1 := hst
      rw [hst2]
      show Ex d [(0, 12, 15, 1, 5, 2), (0, 12, 19, 3, 5, 2)] tb_L_sum (17, [some (.ref 1), some (.int a), some (.int b), some (.int e), some (.ref 94), none], []) h2 _
      refine Ex.pure 1 (fr2 := (18, [some (.ref 1), some (.int a), some (.int b), some (.int e), some (.ref 94), none], [.int 1])) rfl ?_
      exact Ex.iret rfl (Or.inl rfl) (kk 1 h2 y2 c (Nat.le_refl _) (by omega) I2 (F2.fw (by omega)) (by rw [hst2]; rfl) (fun w => absurd w hn))
    · have hst2 : (f_sum a b e S).1 = 2 := hst
      rw [hst2]
      show Ex d [(0, 12, 15, 1, 5, 2), (0, 12, 19, 3, 5, 2)] tb_L_sum (21, [some (.ref 1), some (.int a), some (.int b), some (.int e), some (.ref 94), none], []) h2 _
      refine Ex.pure 1 (fr2 := (22, [some (.ref 1), some (.int a), some (.int b), some (.int e), some (.ref 94), none], [.int 2])) rfl ?_
      exact Ex.iret rfl (Or.inl rfl) (kk 2 h2 y2 c (Nat.le_refl _) (by omega) I2 (F2.fw (by omega)) (by rw [hst2]; rfl) (fun w => absurd w hn))
theorem lw_product {a b e : Int32} (hd : 60 ≤ d) (hs : Sg h.1 y) (I : CI h y c S) (V : VA S) (hc : c + 10020 < 16384) (kk : KW 1 c h y (f_product a b e S) K) : Ca d m_L_product [.ref 1, .int a, .int b, .int e, .ref 94] h K E := by
  obtain ⟨d, rfl⟩ : ∃ e, d = e + 1 := ⟨d - 1, by omega⟩
  refine Ca.of ⟨by show 5 ≤ 6; omega, rfl⟩ ?_
  show Ex d [(0, 12, 15, 1, 5, 2), (0, 12, 19, 3, 5, 2)] tb_L_product (0, [some (.ref 1), some (.int a), some (.int b), some (.int e), some (.ref 94), none], []) h _
  refine Ex.pure 6 (fr2 := (7, [some (.ref 1), some (.int a), some (.int b), some (.int e), some (.ref 94), none], [.int e, .int b, .int a, .ref 1, .int 0, .ref 94])) rfl ?_
  refine Ex.calh (rest := [.int 0, .ref 94]) (j := m_X6_product) (as := [.ref 1, .int a, .int b, .int e]) (vst (a := 76) (b := 4) (c := 5) (rest := [.int 0, .ref 94]) (vs := [.int a, .int b, .int e]) rfl ⟨Nat.le_of_ble_eq_true rfl, Nat.le_of_ble_eq_true rfl⟩ rfl rfl (sg_1 hs)) (c_product (by omega) hs I V.2.1 V.2.2 V.1 hc ⟨fun h0 rv h2 y2 c2 g1 g2 I2 F2 hr => ?_, fun hn h2 y2 I2 F2 => ?_⟩)
  · obtain ⟨r, rfl, hr⟩ := hr
    have hr := hr trivial
    show Ex d [(0, 12, 15, 1, 5, 2), (0, 12, 19, 3, 5, 2)] tb_L_product (10, [some (.ref 1), some (.int a), some (.int b), some (.int e), some (.ref 94), none], [.int r, .int 0, .ref 94]) h2 _
    refine Ex.pure 1 (fr2 := (11, [some (.ref 1), some (.int a), some (.int b), some (.int e), some (.ref 94), none], [.long r.toInt64, .int 0, .ref 94])) rfl ?_
    refine Ex.last rfl (sg_94 F2.1) (by decide) ?_
    refine Ex.pure 2 (fr2 := (24, [some (.ref 1), some (.int a), some (.int b), some (.int e), some (.ref 94), none], [.int 0])) rfl ?_
    exact Ex.iret rfl (Or.inl rfl) (kk 0 (x_setJ h2 94 0 r.toInt64) y2 c2 g1 g2 (I2.o F2.1 _) ((F2.fw (by omega)).o _) (by rw [h0]; rfl) (fun _ _ => by rw [sJ_eq]; exact (i_2j r).trans hr))
  · rcases out2_st hn with hst | hst
    · have hst2 : (f_product a b e S).1 = 1 := hst
      rw [hst2]
      show Ex d [(0, 12, 15, 1, 5, 2), (0, 12, 19, 3, 5, 2)] tb_L_product (17, [some (.ref 1), some (.int a), some (.int b), some (.int e), some (.ref 94), none], []) h2 _
      refine Ex.pure 1 (fr2 := (18, [some (.ref 1), some (.int a), some (.int b), some (.int e), some (.ref 94), none], [.int 1])) rfl ?_
      exact Ex.iret rfl (Or.inl rfl) (kk 1 h2 y2 c (Nat.le_refl _) (by omega) I2 (F2.fw (by omega)) (by rw [hst2]; rfl) (fun w => absurd w hn))
    · have hst2 : (f_product a b e S).1 = 2 := hst
      rw [hst2]
      show Ex d [(0, 12, 15, 1, 5, 2), (0, 12, 19, 3, 5, 2)] tb_L_product (21, [some (.ref 1), some (.int a), some (.int b), some (.int e), some (.ref 94), none], []) h2 _
      refine Ex.pure 1 (fr2 := (22, [some (.ref 1), some (.int a), some (.int b), some (.int e), some (.ref 94), none], [.int 2])) rfl ?_
      exact Ex.iret rfl (Or.inl rfl) (kk 2 h2 y2 c (Nat.le_refl _) (by omega) I2 (F2.fw (by omega)) (by rw [hst2]; rfl) (fun w => absurd w hn))
theorem lw_difference {a b e : Int32} (hd : 60 ≤ d) (hs : Sg h.1 y) (I : CI h y c S) (V : VA S) (hc : c + 10020 < 16384) (kk : KW 1 c h y (f_difference a b e S) K) : Ca d m_L_difference [.ref 1, .int a, .int b, .int e, .ref 94] h K E := by
  obtain ⟨d, rfl⟩ : ∃ e, d = e + 1 := ⟨d - 1, by omega⟩
  refine Ca.of ⟨by show 5 ≤ 6; omega, rfl⟩ ?_
  show Ex d [(0, 12, 15, 1, 5, 2), (0, 12, 19, 3, 5, 2)] tb_L_difference (0, [some (.ref 1), some (.int a), some (.int b), some (.int e), some (.ref 94), none], []) h _
  refine Ex.pure 6 (fr2 := (7, [some (.ref 1), some (.int a), some (.int b), some (.int e), some (.ref 94), none], [.int e, .int b, .int a, .ref 1, .int 0, .ref 94])) rfl ?_
  refine Ex.calh (rest := [.int 0, .ref 94]) (j := m_X6_difference) (as := [.ref 1, .int a, .int b, .int e]) (vst (a := 77) (b := 4) (c := 5) (rest := [.int 0, .ref 94]) (vs := [.int a, .int b, .int e]) rfl ⟨Nat.le_of_ble_eq_true rfl, Nat.le_of_ble_eq_true rfl⟩ rfl rfl (sg_1 hs)) (c_difference (by omega) hs I V.2.1 V.2.2 V.1 hc ⟨fun h0 rv h2 y2 c2 g1 g2 I2 F2 hr => ?_, fun hn h2 y2 I2 F2 => ?_⟩)
  · obtain ⟨r, rfl, hr⟩ := hr
    have hr := hr trivial
    show Ex d [(0, 12, 15, 1, 5, 2), (0, 12, 19, 3, 5, 2)] tb_L_difference (10, [some (.ref 1), some (.int a), some (.int b), some (.int e), some (.ref 94), none], [.int r, .int 0, .ref 94]) h2 _
    refine Ex.pure 1 (fr2 := (11, [some (.ref 1), some (.int a), some (.int b), some (.int e), some (.ref 94), none], [.long r.toInt64, .int 0, .ref 94])) rfl ?_
    refine Ex.last rfl (sg_94 F2.1) (by decide) ?_
    refine Ex.pure 2 (fr2 := (24, [some (.ref 1), some (.int a), some (.int b), some (.int e), some (.ref 94), none], [.int 0])) rfl ?_
    exact Ex.iret rfl (Or.inl rfl) (kk 0 (x_setJ h2 94 0 r.toInt64) y2 c2 g1 g2 (I2.o F2.1 _) ((F2.fw (by omega)).o _) (by rw [h0]; rfl) (fun _ _ => by rw [sJ_eq]; exact (i_2j r).trans hr))
  · rcases out2_st hn with hst | hst
    · have hst2 : (f_difference a b e S).1 = 1 := hst
      rw [hst2]
      show Ex d [(0, 12, 15, 1, 5, 2), (0, 12, 19, 3, 5, 2)] tb_L_difference (17, [some (.ref 1), some (.int a), some (.int b), some (.int e), some (.ref 94), none], []) h2 _
      refine Ex.pure 1 (fr2 := (18, [some (.ref 1), some (.int a), some (.int b), some (.int e), some (.ref 94), none], [.int 1])) rfl ?_
      exact Ex.iret rfl (Or.inl rfl) (kk 1 h2 y2 c (Nat.le_refl _) (by omega) I2 (F2.fw (by omega)) (by rw [hst2]; rfl) (fun w => absurd w hn))
    · have hst2 : (f_difference a b e S).1 = 2 := hst
      rw [hst2]
      show Ex d [(0, 12, 15, 1, 5, 2), (0, 12, 19, 3, 5, 2)] tb_L_difference (21, [some (.ref 1), some (.int a), some (.int b), some (.int e), some (.ref 94), none], []) h2 _
      refine Ex.pure 1 (fr2 := (22, [some (.ref 1), some (.int a), some (.int b), some (.int e), some (.ref 94), none], [.int 2])) rfl ?_
      exact Ex.iret rfl (Or.inl rfl) (kk 2 h2 y2 c (Nat.le_refl _) (by omega) I2 (F2.fw (by omega)) (by rw [hst2]; rfl) (fun w => absurd w hn))
theorem lw_natural {a b e f : Int32} (hd : 60 ≤ d) (hs : Sg h.1 y) (I : CI h y c S) (V : VA S) (hc : c + 10020 < 16384) (kk : KW 0 c h y (f_natural a b e f S) K) : Ca d m_L_natural [.ref 1, .int a, .int b, .int e, .int f] h K E := by
  obtain ⟨d, rfl⟩ : ∃ e, d = e + 1 := ⟨d - 1, by omega⟩
  refine Ca.of ⟨by show 5 ≤ 6; omega, rfl⟩ ?_
  show Ex d [(0, 9, 12, 1, 5, 2), (0, 9, 16, 3, 5, 2)] tb_L_natural (0, [some (.ref 1), some (.int a), some (.int b), some (.int e), some (.int f), none], []) h _
  refine Ex.pure 5 (fr2 := (6, [some (.ref 1), some (.int a), some (.int b), some (.int e), some (.int f), none], [.int f, .int e, .int b, .int a, .ref 1])) rfl ?_
  refine Ex.calh (rest := []) (j := m_X6_natural) (as := [.ref 1, .int a, .int b, .int e, .int f]) (vst (a := 78) (b := 5) (c := 5) (rest := []) (vs := [.int a, .int b, .int e, .int f]) rfl ⟨Nat.le_of_ble_eq_true rfl, Nat.le_of_ble_eq_true rfl⟩ rfl rfl (sg_1 hs)) (c_natural (by omega) hs I hc ⟨fun h0 rv h2 y2 c2 g1 g2 I2 F2 hr => ?_, fun hn h2 y2 I2 F2 => ?_⟩)
  · have hr : rv = none := hr
    subst hr
    show Ex d [(0, 9, 12, 1, 5, 2), (0, 9, 16, 3, 5, 2)] tb_L_natural (9, [some (.ref 1), some (.int a), some (.int b), some (.int e), some (.int f), none], []) h2 _
    refine Ex.pure 2 (fr2 := (21, [some (.ref 1), some (.int a), some (.int b), some (.int e), some (.int f), none], [.int 0])) rfl ?_
    exact Ex.iret rfl (Or.inl rfl) (kk 0 h2 y2 c2 g1 g2 I2 (F2.fw (by omega)) (by rw [h0]; rfl) (fun _ w => absurd rfl w))
  · rcases out2_st hn with hst | hst
    · have hst2 : (f_natural a b e f S).1 = 1 := hst
      rw [hst2]
      show Ex d [(0, 9, 12, 1, 5, 2), (0, 9, 16, 3, 5, 2)] tb_L_natural (14, [some (.ref 1), some (.int a), some (.int b), some (.int e), some (.int f), none], []) h2 _
      refine Ex.pure 1 (fr2 := (15, [some (.ref 1), some (.int a), some (.int b), some (.int e), some (.int f), none], [.int 1])) rfl ?_
      exact Ex.iret rfl (Or.inl rfl) (kk 1 h2 y2 c (Nat.le_refl _) (by omega) I2 (F2.fw (by omega)) (by rw [hst2]; rfl) (fun w => absurd w hn))
    · have hst2 : (f_natural a b e f S).1 = 2 := hst
      rw [hst2]
      show Ex d [(0, 9, 12, 1, 5, 2), (0, 9, 16, 3, 5, 2)] tb_L_natural (18, [some (.ref 1), some (.int a), some (.int b), some (.int e), some (.int f), none], []) h2 _
      refine Ex.pure 1 (fr2 := (19, [some (.ref 1), some (.int a), some (.int b), some (.int e), some (.int f), none], [.int 2])) rfl ?_
      exact Ex.iret rfl (Or.inl rfl) (kk 2 h2 y2 c (Nat.le_refl _) (by omega) I2 (F2.fw (by omega)) (by rw [hst2]; rfl) (fun w => absurd w hn))
theorem lw_derive {a b : Int32} (hd : 60 ≤ d) (hs : Sg h.1 y) (I : CI h y c S) (V : VA S) (hc : c + 10020 < 16384) (kk : KW 0 c h y (f_derive a b S) K) : Ca d m_L_derive [.ref 1, .int a, .int b] h K E := by
  obtain ⟨d, rfl⟩ : ∃ e, d = e + 1 := ⟨d - 1, by omega⟩
  refine Ca.of ⟨by show 3 ≤ 4; omega, rfl⟩ ?_
  show Ex d [(0, 6, 9, 1, 3, 1), (0, 6, 12, 3, 3, 1)] tb_L_derive (0, [some (.ref 1), some (.int a), some (.int b), none], []) h _
  refine Ex.pure 3 (fr2 := (3, [some (.ref 1), some (.int a), some (.int b), none], [.int b, .int a, .ref 1])) rfl ?_
  refine Ex.calh (rest := []) (j := m_X6_derive) (as := [.ref 1, .int a, .int b]) (vst (a := 79) (b := 3) (c := 5) (rest := []) (vs := [.int a, .int b]) rfl ⟨Nat.le_of_ble_eq_true rfl, Nat.le_of_ble_eq_true rfl⟩ rfl rfl (sg_1 hs)) (c_derive (by omega) hs I V.2.1 ⟨fun h0 rv h2 y2 c2 g1 g2 I2 F2 hr => ?_, fun hn h2 y2 I2 F2 => ?_⟩)
  · have hr : rv = none := hr
    subst hr
    show Ex d [(0, 6, 9, 1, 3, 1), (0, 6, 12, 3, 3, 1)] tb_L_derive (6, [some (.ref 1), some (.int a), some (.int b), none], []) h2 _
    refine Ex.pure 2 (fr2 := (16, [some (.ref 1), some (.int a), some (.int b), none], [.int 0])) rfl ?_
    exact Ex.iret rfl (Or.inl rfl) (kk 0 h2 y2 c2 g1 g2 I2 (F2.fw (by omega)) (by rw [h0]; rfl) (fun _ w => absurd rfl w))
  · rcases out2_st hn with hst | hst
    · have hst2 : (f_derive a b S).1 = 1 := hst
      rw [hst2]
      show Ex d [(0, 6, 9, 1, 3, 1), (0, 6, 12, 3, 3, 1)] tb_L_derive (10, [some (.ref 1), some (.int a), some (.int b), none], []) h2 _
      refine Ex.pure 1 (fr2 := (11, [some (.ref 1), some (.int a), some (.int b), none], [.int 1])) rfl ?_
      exact Ex.iret rfl (Or.inl rfl) (kk 1 h2 y2 c (Nat.le_refl _) (by omega) I2 (F2.fw (by omega)) (by rw [hst2]; rfl) (fun w => absurd w hn))
    · have hst2 : (f_derive a b S).1 = 2 := hst
      rw [hst2]
      show Ex d [(0, 6, 9, 1, 3, 1), (0, 6, 12, 3, 3, 1)] tb_L_derive (13, [some (.ref 1), some (.int a), some (.int b), none], []) h2 _
      refine Ex.pure 1 (fr2 := (14, [some (.ref 1), some (.int a), some (.int b), none], [.int 2])) rfl ?_
      exact Ex.iret rfl (Or.inl rfl) (kk 2 h2 y2 c (Nat.le_refl _) (by omega) I2 (F2.fw (by omega)) (by rw [hst2]; rfl) (fun w => absurd w hn))
theorem lw_compare {a b : Int32} (hd : 60 ≤ d) (hs : Sg h.1 y) (I : CI h y c S) (V : VA S) (hc : c + 10020 < 16384) (kk : KW 1 c h y (f_compare a b S) K) : Ca d m_L_compare [.ref 1, .int a, .int b, .ref 94] h K E := by
  obtain ⟨d, rfl⟩ : ∃ e, d = e + 1 := ⟨d - 1, by omega⟩
  refine Ca.of ⟨by show 4 ≤ 5; omega, rfl⟩ ?_
  show Ex d [(0, 10, 13, 1, 4, 2), (0, 10, 17, 3, 4, 2)] tb_L_compare (0, [some (.ref 1), some (.int a), some (.int b), some (.ref 94), none], []) h _
  refine Ex.pure 5 (fr2 := (5, [some (.ref 1), some (.int a), some (.int b), some (.ref 94), none], [.int b, .int a, .ref 1, .int 0, .ref 94])) rfl ?_
  refine Ex.calh (rest := [.int 0, .ref 94]) (j := m_X6_compare) (as := [.ref 1, .int a, .int b]) (vst (a := 80) (b := 3) (c := 5) (rest := [.int 0, .ref 94]) (vs := [.int a, .int b]) rfl ⟨Nat.le_of_ble_eq_true rfl, Nat.le_of_ble_eq_true rfl⟩ rfl rfl (sg_1 hs)) (c_compare (by omega) hs I V.2.1 V.2.2 ⟨fun h0 rv h2 y2 c2 g1 g2 I2 F2 hr => ?_, fun hn h2 y2 I2 F2 => ?_⟩)
  · obtain ⟨r, rfl, hr⟩ := hr
    have hr := hr trivial
    show Ex d [(0, 10, 13, 1, 4, 2), (0, 10, 17, 3, 4, 2)] tb_L_compare (8, [some (.ref 1), some (.int a), some (.int b), some (.ref 94), none], [.int r, .int 0, .ref 94]) h2 _
    refine Ex.pure 1 (fr2 := (9, [some (.ref 1), some (.int a), some (.int b), some (.ref 94), none], [.long r.toInt64, .int 0, .ref 94])) rfl ?_
    refine Ex.last rfl (sg_94 F2.1) (by decide) ?_
    refine Ex.pure 2 (fr2 := (22, [some (.ref 1), some (.int a), some (.int b), some (.ref 94), none], [.int 0])) rfl ?_
    exact Ex.iret rfl (Or.inl rfl) (kk 0 (x_setJ h2 94 0 r.toInt64) y2 c2 g1 g2 (I2.o F2.1 _) ((F2.fw (by omega)).o _) (by rw [h0]; rfl) (fun _ _ => by rw [sJ_eq]; exact (i_2j r).trans hr))
  · rcases out2_st hn with hst | hst
    · have hst2 : (f_compare a b S).1 = 1 := hst
      rw [hst2]
      show Ex d [(0, 10, 13, 1, 4, 2), (0, 10, 17, 3, 4, 2)] tb_L_compare (15, [some (.ref 1), some (.int a), some (.int b), some (.ref 94), none], []) h2 _
      refine Ex.pure 1 (fr2 := (16, [some (.ref 1), some (.int a), some (.int b), some (.ref 94), none], [.int 1])) rfl ?_
      exact Ex.iret rfl (Or.inl rfl) (kk 1 h2 y2 c (Nat.le_refl _) (by omega) I2 (F2.fw (by omega)) (by rw [hst2]; rfl) (fun w => absurd w hn))
    · have hst2 : (f_compare a b S).1 = 2 := hst
      rw [hst2]
      show Ex d [(0, 10, 13, 1, 4, 2), (0, 10, 17, 3, 4, 2)] tb_L_compare (19, [some (.ref 1), some (.int a), some (.int b), some (.ref 94), none], []) h2 _
      refine Ex.pure 1 (fr2 := (20, [some (.ref 1), some (.int a), some (.int b), some (.ref 94), none], [.int 2])) rfl ?_
      exact Ex.iret rfl (Or.inl rfl) (kk 2 h2 y2 c (Nat.le_refl _) (by omega) I2 (F2.fw (by omega)) (by rw [hst2]; rfl) (fun w => absurd w hn))
theorem lw_step {a b e : Int32} (hd : 60 ≤ d) (hs : Sg h.1 y) (I : CI h y c S) (V : VA S) (hc : c + 10020 < 16384) (kk : KW 0 c h y (f_step a b e S) K) : Ca d m_L_step [.ref 1, .int a, .int b, .int e] h K E := by
  obtain ⟨d, rfl⟩ : ∃ e, d = e + 1 := ⟨d - 1, by omega⟩
  refine Ca.of ⟨by show 4 ≤ 5; omega, rfl⟩ ?_
  show Ex d [(0, 7, 10, 1, 4, 2), (0, 7, 14, 2, 4, 2), (0, 7, 18, 3, 4, 2)] tb_L_step (0, [some (.ref 1), some (.int a), some (.int b), some (.int e), none], []) h _
  refine Ex.pure 4 (fr2 := (4, [some (.ref 1), some (.int a), some (.int b), some (.int e), none], [.int e, .int b, .int a, .ref 1])) rfl ?_
  refine Ex.calh (rest := []) (j := m_X6_step) (as := [.ref 1, .int a, .int b, .int e]) (vst (a := 81) (b := 4) (c := 5) (rest := []) (vs := [.int a, .int b, .int e]) rfl ⟨Nat.le_of_ble_eq_true rfl, Nat.le_of_ble_eq_true rfl⟩ rfl rfl (sg_1 hs)) (c_step (by omega) hs I hc ⟨fun h0 rv h2 y2 c2 g1 g2 I2 F2 hr => ?_, fun hn h2 y2 I2 F2 => ?_⟩)
  · have hr : rv = none := hr
    subst hr
    show Ex d [(0, 7, 10, 1, 4, 2), (0, 7, 14, 2, 4, 2), (0, 7, 18, 3, 4, 2)] tb_L_step (7, [some (.ref 1), some (.int a), some (.int b), some (.int e), none], []) h2 _
    refine Ex.pure 2 (fr2 := (23, [some (.ref 1), some (.int a), some (.int b), some (.int e), none], [.int 0])) rfl ?_
    exact Ex.iret rfl (Or.inl rfl) (kk 0 h2 y2 c2 g1 g2 I2 (F2.fw (by omega)) (by rw [h0]; rfl) (fun _ w => absurd rfl w))
  · rcases out3_st hn with hst | hst | hst
    · have hst2 : (f_step a b e S).1 = 1 := hst
      rw [hst2]
      show Ex d [(0, 7, 10, 1, 4, 2), (0, 7, 14, 2, 4, 2), (0, 7, 18, 3, 4, 2)] tb_L_step (12, [some (.ref 1), some (.int a), some (.int b), some (.int e), none], []) h2 _
      refine Ex.pure 1 (fr2 := (13, [some (.ref 1), some (.int a), some (.int b), some (.int e), none], [.int 1])) rfl ?_
      exact Ex.iret rfl (Or.inl rfl) (kk 1 h2 y2 c (Nat.le_refl _) (by omega) I2 (F2.fw (by omega)) (by rw [hst2]; rfl) (fun w => absurd w hn))
    · have hst2 : (f_step a b e S).1 = 2 := hst
      rw [hst2]
      show Ex d [(0, 7, 10, 1, 4, 2), (0, 7, 14, 2, 4, 2), (0, 7, 18, 3, 4, 2)] tb_L_step (16, [some (.ref 1), some (.int a), some (.int b), some (.int e), none], []) h2 _
      refine Ex.pure 1 (fr2 := (17, [some (.ref 1), some (.int a), some (.int b), some (.int e), none], [.int 2])) rfl ?_
      exact Ex.iret rfl (Or.inl rfl) (kk 2 h2 y2 c (Nat.le_refl _) (by omega) I2 (F2.fw (by omega)) (by rw [hst2]; rfl) (fun w => absurd w hn))
    · have hst2 : (f_step a b e S).1 = 3 := hst
      rw [hst2]
      show Ex d [(0, 7, 10, 1, 4, 2), (0, 7, 14, 2, 4, 2), (0, 7, 18, 3, 4, 2)] tb_L_step (20, [some (.ref 1), some (.int a), some (.int b), some (.int e), none], []) h2 _
      refine Ex.pure 1 (fr2 := (21, [some (.ref 1), some (.int a), some (.int b), some (.int e), none], [.int 3])) rfl ?_
      exact Ex.iret rfl (Or.inl rfl) (kk 3 h2 y2 c (Nat.le_refl _) (by omega) I2 (F2.fw (by omega)) (by rw [hst2]; rfl) (fun w => absurd w hn))
theorem lw_descent {a b e : Int32} (hd : 60 ≤ d) (hs : Sg h.1 y) (I : CI h y c S) (V : VA S) (hc : c + 10020 < 16384) (kk : KW 1 c h y (f_descent a b e S) K) : Ca d m_L_descent [.ref 1, .int a, .int b, .int e, .ref 94] h K E := by
  obtain ⟨d, rfl⟩ : ∃ e, d = e + 1 := ⟨d - 1, by omega⟩
  refine Ca.of ⟨by show 5 ≤ 6; omega, rfl⟩ ?_
  show Ex d [(0, 12, 15, 1, 5, 2), (0, 12, 19, 2, 5, 2), (0, 12, 23, 3, 5, 2)] tb_L_descent (0, [some (.ref 1), some (.int a), some (.int b), some (.int e), some (.ref 94), none], []) h _
  refine Ex.pure 6 (fr2 := (7, [some (.ref 1), some (.int a), some (.int b), some (.int e), some (.ref 94), none], [.int e, .int b, .int a, .ref 1, .int 0, .ref 94])) rfl ?_
  refine Ex.calh (rest := [.int 0, .ref 94]) (j := m_X6_descent) (as := [.ref 1, .int a, .int b, .int e]) (vst (a := 82) (b := 4) (c := 5) (rest := [.int 0, .ref 94]) (vs := [.int a, .int b, .int e]) rfl ⟨Nat.le_of_ble_eq_true rfl, Nat.le_of_ble_eq_true rfl⟩ rfl rfl (sg_1 hs)) (c_descent (by omega) hs I hc ⟨fun h0 rv h2 y2 c2 g1 g2 I2 F2 hr => ?_, fun hn h2 y2 I2 F2 => ?_⟩)
  · obtain ⟨r, rfl, hr⟩ := hr
    have hr := hr trivial
    show Ex d [(0, 12, 15, 1, 5, 2), (0, 12, 19, 2, 5, 2), (0, 12, 23, 3, 5, 2)] tb_L_descent (10, [some (.ref 1), some (.int a), some (.int b), some (.int e), some (.ref 94), none], [.int r, .int 0, .ref 94]) h2 _
    refine Ex.pure 1 (fr2 := (11, [some (.ref 1), some (.int a), some (.int b), some (.int e), some (.ref 94), none], [.long r.toInt64, .int 0, .ref 94])) rfl ?_
    refine Ex.last rfl (sg_94 F2.1) (by decide) ?_
    refine Ex.pure 2 (fr2 := (28, [some (.ref 1), some (.int a), some (.int b), some (.int e), some (.ref 94), none], [.int 0])) rfl ?_
    exact Ex.iret rfl (Or.inl rfl) (kk 0 (x_setJ h2 94 0 r.toInt64) y2 c2 g1 g2 (I2.o F2.1 _) ((F2.fw (by omega)).o _) (by rw [h0]; rfl) (fun _ _ => by rw [sJ_eq]; exact (i_2j r).trans hr))
  · rcases out3_st hn with hst | hst | hst
    · have hst2 : (f_descent a b e S).1 = 1 := hst
      rw [hst2]
      show Ex d [(0, 12, 15, 1, 5, 2), (0, 12, 19, 2, 5, 2), (0, 12, 23, 3, 5, 2)] tb_L_descent (17, [some (.ref 1), some (.int a), some (.int b), some (.int e), some (.ref 94), none], []) h2 _
      refine Ex.pure 1 (fr2 := (18, [some (.ref 1), some (.int a), some (.int b), some (.int e), some (.ref 94), none], [.int 1])) rfl ?_
      exact Ex.iret rfl (Or.inl rfl) (kk 1 h2 y2 c (Nat.le_refl _) (by omega) I2 (F2.fw (by omega)) (by rw [hst2]; rfl) (fun w => absurd w hn))
    · have hst2 : (f_descent a b e S).1 = 2 := hst
      rw [hst2]
      show Ex d [(0, 12, 15, 1, 5, 2), (0, 12, 19, 2, 5, 2), (0, 12, 23, 3, 5, 2)] tb_L_descent (21, [some (.ref 1), some (.int a), some (.int b), some (.int e), some (.ref 94), none], []) h2 _
      refine Ex.pure 1 (fr2 := (22, [some (.ref 1), some (.int a), some (.int b), some (.int e), some (.ref 94), none], [.int 2])) rfl ?_
      exact Ex.iret rfl (Or.inl rfl) (kk 2 h2 y2 c (Nat.le_refl _) (by omega) I2 (F2.fw (by omega)) (by rw [hst2]; rfl) (fun w => absurd w hn))
    · have hst2 : (f_descent a b e S).1 = 3 := hst
      rw [hst2]
      show Ex d [(0, 12, 15, 1, 5, 2), (0, 12, 19, 2, 5, 2), (0, 12, 23, 3, 5, 2)] tb_L_descent (25, [some (.ref 1), some (.int a), some (.int b), some (.int e), some (.ref 94), none], []) h2 _
      refine Ex.pure 1 (fr2 := (26, [some (.ref 1), some (.int a), some (.int b), some (.int e), some (.ref 94), none], [.int 3])) rfl ?_
      exact Ex.iret rfl (Or.inl rfl) (kk 3 h2 y2 c (Nat.le_refl _) (by omega) I2 (F2.fw (by omega)) (by rw [hst2]; rfl) (fun w => absurd w hn))
theorem lw_powers {a : Int32} (hd : 60 ≤ d) (hs : Sg h.1 y) (I : CI h y c S) (V : VA S) (hc : c + 10020 < 16384) (kk : KW 1 c h y (f_powers a S) K) : Ca d m_L_powers [.ref 1, .int a, .ref 94] h K E := by
  obtain ⟨d, rfl⟩ : ∃ e, d = e + 1 := ⟨d - 1, by omega⟩
  refine Ca.of ⟨by show 3 ≤ 4; omega, rfl⟩ ?_
  show Ex d [(0, 9, 12, 1, 3, 1), (0, 9, 15, 3, 3, 1)] tb_L_powers (0, [some (.ref 1), some (.int a), some (.ref 94), none], []) h _
  refine Ex.pure 4 (fr2 := (4, [some (.ref 1), some (.int a), some (.ref 94), none], [.int a, .ref 1, .int 0, .ref 94])) rfl ?_
  refine Ex.calh (rest := [.int 0, .ref 94]) (j := m_X6_powers) (as := [.ref 1, .int a]) (vst (a := 83) (b := 2) (c := 5) (rest := [.int 0, .ref 94]) (vs := [.int a]) rfl ⟨Nat.le_of_ble_eq_true rfl, Nat.le_of_ble_eq_true rfl⟩ rfl rfl (sg_1 hs)) (c_powers (by omega) hs I  ⟨fun h0 rv h2 y2 c2 g1 g2 I2 F2 hr => ?_, fun hn h2 y2 I2 F2 => ?_⟩)
  · obtain ⟨r, rfl, hr⟩ := hr
    have hr := hr trivial
    show Ex d [(0, 9, 12, 1, 3, 1), (0, 9, 15, 3, 3, 1)] tb_L_powers (7, [some (.ref 1), some (.int a), some (.ref 94), none], [.int r, .int 0, .ref 94]) h2 _
    refine Ex.pure 1 (fr2 := (8, [some (.ref 1), some (.int a), some (.ref 94), none], [.long r.toInt64, .int 0, .ref 94])) rfl ?_
    refine Ex.last rfl (sg_94 F2.1) (by decide) ?_
    refine Ex.pure 2 (fr2 := (19, [some (.ref 1), some (.int a), some (.ref 94), none], [.int 0])) rfl ?_
    exact Ex.iret rfl (Or.inl rfl) (kk 0 (x_setJ h2 94 0 r.toInt64) y2 c2 g1 g2 (I2.o F2.1 _) ((F2.fw (by omega)).o _) (by rw [h0]; rfl) (fun _ _ => by rw [sJ_eq]; exact (i_2j r).trans hr))
  · rcases out2_st hn with hst | hst
    · have hst2 : (f_powers a S).1 = 1 := hst
      rw [hst2]
      show Ex d [(0, 9, 12, 1, 3, 1), (0, 9, 15, 3, 3, 1)] tb_L_powers (13, [some (.ref 1), some (.int a), some (.ref 94), none], []) h2 _
      refine Ex.pure 1 (fr2 := (14, [some (.ref 1), some (.int a), some (.ref 94), none], [.int 1])) rfl ?_
      exact Ex.iret rfl (Or.inl rfl) (kk 1 h2 y2 c (Nat.le_refl _) (by omega) I2 (F2.fw (by omega)) (by rw [hst2]; rfl) (fun w => absurd w hn))
    · have hst2 : (f_powers a S).1 = 2 := hst
      rw [hst2]
      show Ex d [(0, 9, 12, 1, 3, 1), (0, 9, 15, 3, 3, 1)] tb_L_powers (16, [some (.ref 1), some (.int a), some (.ref 94), none], []) h2 _
      refine Ex.pure 1 (fr2 := (17, [some (.ref 1), some (.int a), some (.ref 94), none], [.int 2])) rfl ?_
      exact Ex.iret rfl (Or.inl rfl) (kk 2 h2 y2 c (Nat.le_refl _) (by omega) I2 (F2.fw (by omega)) (by rw [hst2]; rfl) (fun w => absurd w hn))
theorem lw_times {a b : Int32} (hd : 60 ≤ d) (hs : Sg h.1 y) (I : CI h y c S) (V : VA S) (hc : c + 10020 < 16384) (kk : KW 2 c h y (f_times a b S) K) : Ca d m_L_times [.ref 1, .int a, .int b, .ref 94] h K E := by
  obtain ⟨d, rfl⟩ : ∃ e, d = e + 1 := ⟨d - 1, by omega⟩
  refine Ca.of ⟨by show 4 ≤ 5; omega, rfl⟩ ?_
  show Ex d [(0, 9, 12, 1, 4, 2), (0, 9, 16, 3, 4, 2)] tb_L_times (0, [some (.ref 1), some (.int a), some (.int b), some (.ref 94), none], []) h _
  refine Ex.pure 5 (fr2 := (5, [some (.ref 1), some (.int a), some (.int b), some (.ref 94), none], [.int b, .int a, .ref 1, .int 0, .ref 94])) rfl ?_
  refine Ex.calh (rest := [.int 0, .ref 94]) (j := m_X6_times) (as := [.ref 1, .int a, .int b]) (vst (a := 84) (b := 3) (c := 5) (rest := [.int 0, .ref 94]) (vs := [.int a, .int b]) rfl ⟨Nat.le_of_ble_eq_true rfl, Nat.le_of_ble_eq_true rfl⟩ rfl rfl (sg_1 hs)) (c_times (by omega) hs I  ⟨fun h0 rv h2 y2 c2 g1 g2 I2 F2 hr => ?_, fun hn h2 y2 I2 F2 => ?_⟩)
  · obtain ⟨r, rfl, hr⟩ := hr
    have hr := hr trivial
    show Ex d [(0, 9, 12, 1, 4, 2), (0, 9, 16, 3, 4, 2)] tb_L_times (8, [some (.ref 1), some (.int a), some (.int b), some (.ref 94), none], [.long r, .int 0, .ref 94]) h2 _
    refine Ex.last rfl (sg_94 F2.1) (by decide) ?_
    refine Ex.pure 2 (fr2 := (21, [some (.ref 1), some (.int a), some (.int b), some (.ref 94), none], [.int 0])) rfl ?_
    exact Ex.iret rfl (Or.inl rfl) (kk 0 (x_setJ h2 94 0 r) y2 c2 g1 g2 (I2.o F2.1 _) ((F2.fw (by omega)).o _) (by rw [h0]; rfl) (fun _ _ => by rw [sJ_eq]; exact hr))
  · rcases out2_st hn with hst | hst
    · have hst2 : (f_times a b S).1 = 1 := hst
      rw [hst2]
      show Ex d [(0, 9, 12, 1, 4, 2), (0, 9, 16, 3, 4, 2)] tb_L_times (14, [some (.ref 1), some (.int a), some (.int b), some (.ref 94), none], []) h2 _
      refine Ex.pure 1 (fr2 := (15, [some (.ref 1), some (.int a), some (.int b), some (.ref 94), none], [.int 1])) rfl ?_
      exact Ex.iret rfl (Or.inl rfl) (kk 1 h2 y2 c (Nat.le_refl _) (by omega) I2 (F2.fw (by omega)) (by rw [hst2]; rfl) (fun w => absurd w hn))
    · have hst2 : (f_times a b S).1 = 2 := hst
      rw [hst2]
      show Ex d [(0, 9, 12, 1, 4, 2), (0, 9, 16, 3, 4, 2)] tb_L_times (18, [some (.ref 1), some (.int a), some (.int b), some (.ref 94), none], []) h2 _
      refine Ex.pure 1 (fr2 := (19, [some (.ref 1), some (.int a), some (.int b), some (.ref 94), none], [.int 2])) rfl ?_
      exact Ex.iret rfl (Or.inl rfl) (kk 2 h2 y2 c (Nat.le_refl _) (by omega) I2 (F2.fw (by omega)) (by rw [hst2]; rfl) (fun w => absurd w hn))
theorem lw_exponent {a b e : Int32} (hd : 60 ≤ d) (hs : Sg h.1 y) (I : CI h y c S) (V : VA S) (hc : c + 10020 < 16384) (kk : KW 0 c h y (f_exponent a b e S) K) : Ca d m_L_exponent [.ref 1, .int a, .int b, .int e] h K E := by
  obtain ⟨d, rfl⟩ : ∃ e, d = e + 1 := ⟨d - 1, by omega⟩
  refine Ca.of ⟨by show 4 ≤ 5; omega, rfl⟩ ?_
  show Ex d [(0, 7, 10, 1, 4, 2), (0, 7, 14, 3, 4, 2)] tb_L_exponent (0, [some (.ref 1), some (.int a), some (.int b), some (.int e), none], []) h _
  refine Ex.pure 4 (fr2 := (4, [some (.ref 1), some (.int a), some (.int b), some (.int e), none], [.int e, .int b, .int a, .ref 1])) rfl ?_
  refine Ex.calh (rest := []) (j := m_X6_exponent) (as := [.ref 1, .int a, .int b, .int e]) (vst (a := 85) (b := 4) (c := 5) (rest := []) (vs := [.int a, .int b, .int e]) rfl ⟨Nat.le_of_ble_eq_true rfl, Nat.le_of_ble_eq_true rfl⟩ rfl rfl (sg_1 hs)) (c_exponent (by omega) hs I  ⟨fun h0 rv h2 y2 c2 g1 g2 I2 F2 hr => ?_, fun hn h2 y2 I2 F2 => ?_⟩)
  · have hr : rv = none := hr
    subst hr
    show Ex d [(0, 7, 10, 1, 4, 2), (0, 7, 14, 3, 4, 2)] tb_L_exponent (7, [some (.ref 1), some (.int a), some (.int b), some (.int e), none], []) h2 _
    refine Ex.pure 2 (fr2 := (19, [some (.ref 1), some (.int a), some (.int b), some (.int e), none], [.int 0])) rfl ?_
    exact Ex.iret rfl (Or.inl rfl) (kk 0 h2 y2 c2 g1 g2 I2 (F2.fw (by omega)) (by rw [h0]; rfl) (fun _ w => absurd rfl w))
  · rcases out2_st hn with hst | hst
    · have hst2 : (f_exponent a b e S).1 = 1 := hst
      rw [hst2]
      show Ex d [(0, 7, 10, 1, 4, 2), (0, 7, 14, 3, 4, 2)] tb_L_exponent (12, [some (.ref 1), some (.int a), some (.int b), some (.int e), none], []) h2 _
      refine Ex.pure 1 (fr2 := (13, [some (.ref 1), some (.int a), some (.int b), some (.int e), none], [.int 1])) rfl ?_
      exact Ex.iret rfl (Or.inl rfl) (kk 1 h2 y2 c (Nat.le_refl _) (by omega) I2 (F2.fw (by omega)) (by rw [hst2]; rfl) (fun w => absurd w hn))
    · have hst2 : (f_exponent a b e S).1 = 2 := hst
      rw [hst2]
      show Ex d [(0, 7, 10, 1, 4, 2), (0, 7, 14, 3, 4, 2)] tb_L_exponent (16, [some (.ref 1), some (.int a), some (.int b), some (.int e), none], []) h2 _
      refine Ex.pure 1 (fr2 := (17, [some (.ref 1), some (.int a), some (.int b), some (.int e), none], [.int 2])) rfl ?_
      exact Ex.iret rfl (Or.inl rfl) (kk 2 h2 y2 c (Nat.le_refl _) (by omega) I2 (F2.fw (by omega)) (by rw [hst2]; rfl) (fun w => absurd w hn))
theorem lw_cut {a b e : Int32} (hd : 60 ≤ d) (hs : Sg h.1 y) (I : CI h y c S) (V : VA S) (hc : c + 10020 < 16384) (kk : KW 1 c h y (f_cut a b e S) K) : Ca d m_L_cut [.ref 1, .int a, .int b, .int e, .ref 94] h K E := by
  obtain ⟨d, rfl⟩ : ∃ e, d = e + 1 := ⟨d - 1, by omega⟩
  refine Ca.of ⟨by show 5 ≤ 6; omega, rfl⟩ ?_
  show Ex d [(0, 12, 15, 1, 5, 2), (0, 12, 19, 2, 5, 2), (0, 12, 23, 3, 5, 2)] tb_L_cut (0, [some (.ref 1), some (.int a), some (.int b), some (.int e), some (.ref 94), none], []) h _
  refine Ex.pure 6 (fr2 := (7, [some (.ref 1), some (.int a), some (.int b), some (.int e), some (.ref 94), none], [.int e, .int b, .int a, .ref 1, .int 0, .ref 94])) rfl ?_
  refine Ex.calh (rest := [.int 0, .ref 94]) (j := m_X6_cut) (as := [.ref 1, .int a, .int b, .int e]) (vst (a := 86) (b := 4) (c := 5) (rest := [.int 0, .ref 94]) (vs := [.int a, .int b, .int e]) rfl ⟨Nat.le_of_ble_eq_true rfl, Nat.le_of_ble_eq_true rfl⟩ rfl rfl (sg_1 hs)) (c_cut (by omega) hs I V.1 ⟨fun h0 rv h2 y2 c2 g1 g2 I2 F2 hr => ?_, fun hn h2 y2 I2 F2 => ?_⟩)
  · obtain ⟨r, rfl, hr⟩ := hr
    have hr := hr trivial
    show Ex d [(0, 12, 15, 1, 5, 2), (0, 12, 19, 2, 5, 2), (0, 12, 23, 3, 5, 2)] tb_L_cut (10, [some (.ref 1), some (.int a), some (.int b), some (.int e), some (.ref 94), none], [.int r, .int 0, .ref 94]) h2 _
    refine Ex.pure 1 (fr2 := (11, [some (.ref 1), some (.int a), some (.int b), some (.int e), some (.ref 94), none], [.long r.toInt64, .int 0, .ref 94])) rfl ?_
    refine Ex.last rfl (sg_94 F2.1) (by decide) ?_
    refine Ex.pure 2 (fr2 := (28, [some (.ref 1), some (.int a), some (.int b), some (.int e), some (.ref 94), none], [.int 0])) rfl ?_
    exact Ex.iret rfl (Or.inl rfl) (kk 0 (x_setJ h2 94 0 r.toInt64) y2 c2 g1 g2 (I2.o F2.1 _) ((F2.fw (by omega)).o _) (by rw [h0]; rfl) (fun _ _ => by rw [sJ_eq]; exact (i_2j r).trans hr))
  · rcases out3_st hn with hst | hst | hst
    · have hst2 : (f_cut a b e S).1 = 1 := hst
      rw [hst2]
      show Ex d [(0, 12, 15, 1, 5, 2), (0, 12, 19, 2, 5, 2), (0, 12, 23, 3, 5, 2)] tb_L_cut (17, [some (.ref 1), some (.int a), some (.int b), some (.int e), some (.ref 94), none], []) h2 _
      refine Ex.pure 1 (fr2 := (18, [some (.ref 1), some (.int a), some (.int b), some (.int e), some (.ref 94), none], [.int 1])) rfl ?_
      exact Ex.iret rfl (Or.inl rfl) (kk 1 h2 y2 c (Nat.le_refl _) (by omega) I2 (F2.fw (by omega)) (by rw [hst2]; rfl) (fun w => absurd w hn))
    · have hst2 : (f_cut a b e S).1 = 2 := hst
      rw [hst2]
      show Ex d [(0, 12, 15, 1, 5, 2), (0, 12, 19, 2, 5, 2), (0, 12, 23, 3, 5, 2)] tb_L_cut (21, [some (.ref 1), some (.int a), some (.int b), some (.int e), some (.ref 94), none], []) h2 _
      refine Ex.pure 1 (fr2 := (22, [some (.ref 1), some (.int a), some (.int b), some (.int e), some (.ref 94), none], [.int 2])) rfl ?_
      exact Ex.iret rfl (Or.inl rfl) (kk 2 h2 y2 c (Nat.le_refl _) (by omega) I2 (F2.fw (by omega)) (by rw [hst2]; rfl) (fun w => absurd w hn))
    · have hst2 : (f_cut a b e S).1 = 3 := hst
      rw [hst2]
      show Ex d [(0, 12, 15, 1, 5, 2), (0, 12, 19, 2, 5, 2), (0, 12, 23, 3, 5, 2)] tb_L_cut (25, [some (.ref 1), some (.int a), some (.int b), some (.int e), some (.ref 94), none], []) h2 _
      refine Ex.pure 1 (fr2 := (26, [some (.ref 1), some (.int a), some (.int b), some (.int e), some (.ref 94), none], [.int 3])) rfl ?_
      exact Ex.iret rfl (Or.inl rfl) (kk 3 h2 y2 c (Nat.le_refl _) (by omega) I2 (F2.fw (by omega)) (by rw [hst2]; rfl) (fun w => absurd w hn))
theorem lw_birthday {a : Int32} (hd : 60 ≤ d) (hs : Sg h.1 y) (I : CI h y c S) (V : VA S) (hc : c + 10020 < 16384) (kk : KW 1 c h y (f_birthday a S) K) : Ca d m_L_birthday [.ref 1, .int a, .ref 94] h K E := by
  obtain ⟨d, rfl⟩ : ∃ e, d = e + 1 := ⟨d - 1, by omega⟩
  refine Ca.of ⟨by show 3 ≤ 4; omega, rfl⟩ ?_
  show Ex d [(0, 9, 12, 1, 3, 1), (0, 9, 15, 3, 3, 1)] tb_L_birthday (0, [some (.ref 1), some (.int a), some (.ref 94), none], []) h _
  refine Ex.pure 4 (fr2 := (4, [some (.ref 1), some (.int a), some (.ref 94), none], [.int a, .ref 1, .int 0, .ref 94])) rfl ?_
  refine Ex.calh (rest := [.int 0, .ref 94]) (j := m_X6_birthday) (as := [.ref 1, .int a]) (vst (a := 87) (b := 2) (c := 5) (rest := [.int 0, .ref 94]) (vs := [.int a]) rfl ⟨Nat.le_of_ble_eq_true rfl, Nat.le_of_ble_eq_true rfl⟩ rfl rfl (sg_1 hs)) (c_birthday (by omega) hs I V.1 ⟨fun h0 rv h2 y2 c2 g1 g2 I2 F2 hr => ?_, fun hn h2 y2 I2 F2 => ?_⟩)
  · obtain ⟨r, rfl, hr⟩ := hr
    have hr := hr trivial
    show Ex d [(0, 9, 12, 1, 3, 1), (0, 9, 15, 3, 3, 1)] tb_L_birthday (7, [some (.ref 1), some (.int a), some (.ref 94), none], [.int r, .int 0, .ref 94]) h2 _
    refine Ex.pure 1 (fr2 := (8, [some (.ref 1), some (.int a), some (.ref 94), none], [.long r.toInt64, .int 0, .ref 94])) rfl ?_
    refine Ex.last rfl (sg_94 F2.1) (by decide) ?_
    refine Ex.pure 2 (fr2 := (19, [some (.ref 1), some (.int a), some (.ref 94), none], [.int 0])) rfl ?_
    exact Ex.iret rfl (Or.inl rfl) (kk 0 (x_setJ h2 94 0 r.toInt64) y2 c2 g1 g2 (I2.o F2.1 _) ((F2.fw (by omega)).o _) (by rw [h0]; rfl) (fun _ _ => by rw [sJ_eq]; exact (i_2j r).trans hr))
  · rcases out2_st hn with hst | hst
    · have hst2 : (f_birthday a S).1 = 1 := hst
      rw [hst2]
      show Ex d [(0, 9, 12, 1, 3, 1), (0, 9, 15, 3, 3, 1)] tb_L_birthday (13, [some (.ref 1), some (.int a), some (.ref 94), none], []) h2 _
      refine Ex.pure 1 (fr2 := (14, [some (.ref 1), some (.int a), some (.ref 94), none], [.int 1])) rfl ?_
      exact Ex.iret rfl (Or.inl rfl) (kk 1 h2 y2 c (Nat.le_refl _) (by omega) I2 (F2.fw (by omega)) (by rw [hst2]; rfl) (fun w => absurd w hn))
    · have hst2 : (f_birthday a S).1 = 2 := hst
      rw [hst2]
      show Ex d [(0, 9, 12, 1, 3, 1), (0, 9, 15, 3, 3, 1)] tb_L_birthday (16, [some (.ref 1), some (.int a), some (.ref 94), none], []) h2 _
      refine Ex.pure 1 (fr2 := (17, [some (.ref 1), some (.int a), some (.ref 94), none], [.int 2])) rfl ?_
      exact Ex.iret rfl (Or.inl rfl) (kk 2 h2 y2 c (Nat.le_refl _) (by omega) I2 (F2.fw (by omega)) (by rw [hst2]; rfl) (fun w => absurd w hn))
theorem lw_signOf {a b : Int32} (hd : 60 ≤ d) (hs : Sg h.1 y) (I : CI h y c S) (V : VA S) (hc : c + 10020 < 16384) (kk : KW 1 c h y (f_signOf a b S) K) : Ca d m_L_signOf [.ref 1, .int a, .int b, .ref 94] h K E := by
  obtain ⟨d, rfl⟩ : ∃ e, d = e + 1 := ⟨d - 1, by omega⟩
  refine Ca.of ⟨by show 4 ≤ 5; omega, rfl⟩ ?_
  show Ex d [(0, 10, 13, 1, 4, 2), (0, 10, 17, 3, 4, 2)] tb_L_signOf (0, [some (.ref 1), some (.int a), some (.int b), some (.ref 94), none], []) h _
  refine Ex.pure 5 (fr2 := (5, [some (.ref 1), some (.int a), some (.int b), some (.ref 94), none], [.int b, .int a, .ref 1, .int 0, .ref 94])) rfl ?_
  refine Ex.calh (rest := [.int 0, .ref 94]) (j := m_X6_signOf) (as := [.ref 1, .int a, .int b]) (vst (a := 88) (b := 3) (c := 5) (rest := [.int 0, .ref 94]) (vs := [.int a, .int b]) rfl ⟨Nat.le_of_ble_eq_true rfl, Nat.le_of_ble_eq_true rfl⟩ rfl rfl (sg_1 hs)) (c_signOf (by omega) hs I V.1 ⟨fun h0 rv h2 y2 c2 g1 g2 I2 F2 hr => ?_, fun hn h2 y2 I2 F2 => ?_⟩)
  · obtain ⟨r, rfl, hr⟩ := hr
    have hr := hr trivial
    show Ex d [(0, 10, 13, 1, 4, 2), (0, 10, 17, 3, 4, 2)] tb_L_signOf (8, [some (.ref 1), some (.int a), some (.int b), some (.ref 94), none], [.int r, .int 0, .ref 94]) h2 _
    refine Ex.pure 1 (fr2 := (9, [some (.ref 1), some (.int a), some (.int b), some (.ref 94), none], [.long r.toInt64, .int 0, .ref 94])) rfl ?_
    refine Ex.last rfl (sg_94 F2.1) (by decide) ?_
    refine Ex.pure 2 (fr2 := (22, [some (.ref 1), some (.int a), some (.int b), some (.ref 94), none], [.int 0])) rfl ?_
    exact Ex.iret rfl (Or.inl rfl) (kk 0 (x_setJ h2 94 0 r.toInt64) y2 c2 g1 g2 (I2.o F2.1 _) ((F2.fw (by omega)).o _) (by rw [h0]; rfl) (fun _ _ => by rw [sJ_eq]; exact (i_2j r).trans hr))
  · rcases out2_st hn with hst | hst
    · have hst2 : (f_signOf a b S).1 = 1 := hst
      rw [hst2]
      show Ex d [(0, 10, 13, 1, 4, 2), (0, 10, 17, 3, 4, 2)] tb_L_signOf (15, [some (.ref 1), some (.int a), some (.int b), some (.ref 94), none], []) h2 _
      refine Ex.pure 1 (fr2 := (16, [some (.ref 1), some (.int a), some (.int b), some (.ref 94), none], [.int 1])) rfl ?_
      exact Ex.iret rfl (Or.inl rfl) (kk 1 h2 y2 c (Nat.le_refl _) (by omega) I2 (F2.fw (by omega)) (by rw [hst2]; rfl) (fun w => absurd w hn))
    · have hst2 : (f_signOf a b S).1 = 2 := hst
      rw [hst2]
      show Ex d [(0, 10, 13, 1, 4, 2), (0, 10, 17, 3, 4, 2)] tb_L_signOf (19, [some (.ref 1), some (.int a), some (.int b), some (.ref 94), none], []) h2 _
      refine Ex.pure 1 (fr2 := (20, [some (.ref 1), some (.int a), some (.int b), some (.ref 94), none], [.int 2])) rfl ?_
      exact Ex.iret rfl (Or.inl rfl) (kk 2 h2 y2 c (Nat.le_refl _) (by omega) I2 (F2.fw (by omega)) (by rw [hst2]; rfl) (fun w => absurd w hn))
theorem lw_parts {a : Int32} (hd : 60 ≤ d) (hs : Sg h.1 y) (I : CI h y c S) (V : VA S) (hc : c + 10020 < 16384) (kk : KW 2 c h y (f_parts a S) K) : Ca d m_L_parts [.ref 1, .int a, .ref 94] h K E := by
  obtain ⟨d, rfl⟩ : ∃ e, d = e + 1 := ⟨d - 1, by omega⟩
  refine Ca.of ⟨by show 3 ≤ 4; omega, rfl⟩ ?_
  show Ex d [(0, 8, 11, 1, 3, 1), (0, 8, 14, 3, 3, 1)] tb_L_parts (0, [some (.ref 1), some (.int a), some (.ref 94), none], []) h _
  refine Ex.pure 4 (fr2 := (4, [some (.ref 1), some (.int a), some (.ref 94), none], [.int a, .ref 1, .int 0, .ref 94])) rfl ?_
  refine Ex.calh (rest := [.int 0, .ref 94]) (j := m_X6_parts) (as := [.ref 1, .int a]) (vst (a := 89) (b := 2) (c := 5) (rest := [.int 0, .ref 94]) (vs := [.int a]) rfl ⟨Nat.le_of_ble_eq_true rfl, Nat.le_of_ble_eq_true rfl⟩ rfl rfl (sg_1 hs)) (c_parts (by omega) hs I  ⟨fun h0 rv h2 y2 c2 g1 g2 I2 F2 hr => ?_, fun hn h2 y2 I2 F2 => ?_⟩)
  · obtain ⟨r, rfl, hr⟩ := hr
    have hr := hr trivial
    show Ex d [(0, 8, 11, 1, 3, 1), (0, 8, 14, 3, 3, 1)] tb_L_parts (7, [some (.ref 1), some (.int a), some (.ref 94), none], [.long r, .int 0, .ref 94]) h2 _
    refine Ex.last rfl (sg_94 F2.1) (by decide) ?_
    refine Ex.pure 2 (fr2 := (18, [some (.ref 1), some (.int a), some (.ref 94), none], [.int 0])) rfl ?_
    exact Ex.iret rfl (Or.inl rfl) (kk 0 (x_setJ h2 94 0 r) y2 c2 g1 g2 (I2.o F2.1 _) ((F2.fw (by omega)).o _) (by rw [h0]; rfl) (fun _ _ => by rw [sJ_eq]; exact hr))
  · rcases out2_st hn with hst | hst
    · have hst2 : (f_parts a S).1 = 1 := hst
      rw [hst2]
      show Ex d [(0, 8, 11, 1, 3, 1), (0, 8, 14, 3, 3, 1)] tb_L_parts (12, [some (.ref 1), some (.int a), some (.ref 94), none], []) h2 _
      refine Ex.pure 1 (fr2 := (13, [some (.ref 1), some (.int a), some (.ref 94), none], [.int 1])) rfl ?_
      exact Ex.iret rfl (Or.inl rfl) (kk 1 h2 y2 c (Nat.le_refl _) (by omega) I2 (F2.fw (by omega)) (by rw [hst2]; rfl) (fun w => absurd w hn))
    · have hst2 : (f_parts a S).1 = 2 := hst
      rw [hst2]
      show Ex d [(0, 8, 11, 1, 3, 1), (0, 8, 14, 3, 3, 1)] tb_L_parts (15, [some (.ref 1), some (.int a), some (.ref 94), none], []) h2 _
      refine Ex.pure 1 (fr2 := (16, [some (.ref 1), some (.int a), some (.ref 94), none], [.int 2])) rfl ?_
      exact Ex.iret rfl (Or.inl rfl) (kk 2 h2 y2 c (Nat.le_refl _) (by omega) I2 (F2.fw (by omega)) (by rw [hst2]; rfl) (fun w => absurd w hn))
theorem lw_tends {a : Int32} (hd : 60 ≤ d) (hs : Sg h.1 y) (I : CI h y c S) (V : VA S) (hc : c + 10020 < 16384) (kk : KW 1 c h y (f_tends a S) K) : Ca d m_L_tends [.ref 1, .int a, .ref 94] h K E := by
  obtain ⟨d, rfl⟩ : ∃ e, d = e + 1 := ⟨d - 1, by omega⟩
  refine Ca.of ⟨by show 3 ≤ 4; omega, rfl⟩ ?_
  show Ex d [(0, 9, 12, 1, 3, 1), (0, 9, 15, 3, 3, 1)] tb_L_tends (0, [some (.ref 1), some (.int a), some (.ref 94), none], []) h _
  refine Ex.pure 4 (fr2 := (4, [some (.ref 1), some (.int a), some (.ref 94), none], [.int a, .ref 1, .int 0, .ref 94])) rfl ?_
  refine Ex.calh (rest := [.int 0, .ref 94]) (j := m_X6_tends) (as := [.ref 1, .int a]) (vst (a := 90) (b := 2) (c := 5) (rest := [.int 0, .ref 94]) (vs := [.int a]) rfl ⟨Nat.le_of_ble_eq_true rfl, Nat.le_of_ble_eq_true rfl⟩ rfl rfl (sg_1 hs)) (c_tends (by omega) hs I V.2.1 ⟨fun h0 rv h2 y2 c2 g1 g2 I2 F2 hr => ?_, fun hn h2 y2 I2 F2 => ?_⟩)
  · obtain ⟨r, rfl, hr⟩ := hr
    have hr := hr trivial
    show Ex d [(0, 9, 12, 1, 3, 1), (0, 9, 15, 3, 3, 1)] tb_L_tends (7, [some (.ref 1), some (.int a), some (.ref 94), none], [.int r, .int 0, .ref 94]) h2 _
    refine Ex.pure 1 (fr2 := (8, [some (.ref 1), some (.int a), some (.ref 94), none], [.long r.toInt64, .int 0, .ref 94])) rfl ?_
    refine Ex.last rfl (sg_94 F2.1) (by decide) ?_
    refine Ex.pure 2 (fr2 := (19, [some (.ref 1), some (.int a), some (.ref 94), none], [.int 0])) rfl ?_
    exact Ex.iret rfl (Or.inl rfl) (kk 0 (x_setJ h2 94 0 r.toInt64) y2 c2 g1 g2 (I2.o F2.1 _) ((F2.fw (by omega)).o _) (by rw [h0]; rfl) (fun _ _ => by rw [sJ_eq]; exact (i_2j r).trans hr))
  · rcases out2_st hn with hst | hst
    · have hst2 : (f_tends a S).1 = 1 := hst
      rw [hst2]
      show Ex d [(0, 9, 12, 1, 3, 1), (0, 9, 15, 3, 3, 1)] tb_L_tends (13, [some (.ref 1), some (.int a), some (.ref 94), none], []) h2 _
      refine Ex.pure 1 (fr2 := (14, [some (.ref 1), some (.int a), some (.ref 94), none], [.int 1])) rfl ?_
      exact Ex.iret rfl (Or.inl rfl) (kk 1 h2 y2 c (Nat.le_refl _) (by omega) I2 (F2.fw (by omega)) (by rw [hst2]; rfl) (fun w => absurd w hn))
    · have hst2 : (f_tends a S).1 = 2 := hst
      rw [hst2]
      show Ex d [(0, 9, 12, 1, 3, 1), (0, 9, 15, 3, 3, 1)] tb_L_tends (16, [some (.ref 1), some (.int a), some (.ref 94), none], []) h2 _
      refine Ex.pure 1 (fr2 := (17, [some (.ref 1), some (.int a), some (.ref 94), none], [.int 2])) rfl ?_
      exact Ex.iret rfl (Or.inl rfl) (kk 2 h2 y2 c (Nat.le_refl _) (by omega) I2 (F2.fw (by omega)) (by rw [hst2]; rfl) (fun w => absurd w hn))
theorem lw_terms {a : Int32} (hd : 60 ≤ d) (hs : Sg h.1 y) (I : CI h y c S) (V : VA S) (hc : c + 10020 < 16384) (kk : KW 1 c h y (f_terms a S) K) : Ca d m_L_terms [.ref 1, .int a, .ref 94] h K E := by
  obtain ⟨d, rfl⟩ : ∃ e, d = e + 1 := ⟨d - 1, by omega⟩
  refine Ca.of ⟨by show 3 ≤ 4; omega, rfl⟩ ?_
  show Ex d [(0, 9, 12, 1, 3, 1), (0, 9, 15, 3, 3, 1)] tb_L_terms (0, [some (.ref 1), some (.int a), some (.ref 94), none], []) h _
  refine Ex.pure 4 (fr2 := (4, [some (.ref 1), some (.int a), some (.ref 94), none], [.int a, .ref 1, .int 0, .ref 94])) rfl ?_
  refine Ex.calh (rest := [.int 0, .ref 94]) (j := m_X6_terms) (as := [.ref 1, .int a]) (vst (a := 91) (b := 2) (c := 5) (rest := [.int 0, .ref 94]) (vs := [.int a]) rfl ⟨Nat.le_of_ble_eq_true rfl, Nat.le_of_ble_eq_true rfl⟩ rfl rfl (sg_1 hs)) (c_terms (by omega) hs I  ⟨fun h0 rv h2 y2 c2 g1 g2 I2 F2 hr => ?_, fun hn h2 y2 I2 F2 => ?_⟩)
  · obtain ⟨r, rfl, hr⟩ := hr
    have hr := hr trivial
    show Ex d [(0, 9, 12, 1, 3, 1), (0, 9, 15, 3, 3, 1)] tb_L_terms (7, [some (.ref 1), some (.int a), some (.ref 94), none], [.int r, .int 0, .ref 94]) h2 _
    refine Ex.pure 1 (fr2 := (8, [some (.ref 1), some (.int a), some (.ref 94), none], [.long r.toInt64, .int 0, .ref 94])) rfl ?_
    refine Ex.last rfl (sg_94 F2.1) (by decide) ?_
    refine Ex.pure 2 (fr2 := (19, [some (.ref 1), some (.int a), some (.ref 94), none], [.int 0])) rfl ?_
    exact Ex.iret rfl (Or.inl rfl) (kk 0 (x_setJ h2 94 0 r.toInt64) y2 c2 g1 g2 (I2.o F2.1 _) ((F2.fw (by omega)).o _) (by rw [h0]; rfl) (fun _ _ => by rw [sJ_eq]; exact (i_2j r).trans hr))
  · rcases out2_st hn with hst | hst
    · have hst2 : (f_terms a S).1 = 1 := hst
      rw [hst2]
      show Ex d [(0, 9, 12, 1, 3, 1), (0, 9, 15, 3, 3, 1)] tb_L_terms (13, [some (.ref 1), some (.int a), some (.ref 94), none], []) h2 _
      refine Ex.pure 1 (fr2 := (14, [some (.ref 1), some (.int a), some (.ref 94), none], [.int 1])) rfl ?_
      exact Ex.iret rfl (Or.inl rfl) (kk 1 h2 y2 c (Nat.le_refl _) (by omega) I2 (F2.fw (by omega)) (by rw [hst2]; rfl) (fun w => absurd w hn))
    · have hst2 : (f_terms a S).1 = 2 := hst
      rw [hst2]
      show Ex d [(0, 9, 12, 1, 3, 1), (0, 9, 15, 3, 3, 1)] tb_L_terms (16, [some (.ref 1), some (.int a), some (.ref 94), none], []) h2 _
      refine Ex.pure 1 (fr2 := (17, [some (.ref 1), some (.int a), some (.ref 94), none], [.int 2])) rfl ?_
      exact Ex.iret rfl (Or.inl rfl) (kk 2 h2 y2 c (Nat.le_refl _) (by omega) I2 (F2.fw (by omega)) (by rw [hst2]; rfl) (fun w => absurd w hn))
theorem lw_part {a b e : Int32} (hd : 60 ≤ d) (hs : Sg h.1 y) (I : CI h y c S) (V : VA S) (hc : c + 10020 < 16384) (kk : KW 2 c h y (f_part a b e S) K) : Ca d m_L_part [.ref 1, .int a, .int b, .int e, .ref 94] h K E := by
  obtain ⟨d, rfl⟩ : ∃ e, d = e + 1 := ⟨d - 1, by omega⟩
  refine Ca.of ⟨by show 5 ≤ 6; omega, rfl⟩ ?_
  show Ex d [(0, 11, 14, 1, 5, 2), (0, 11, 18, 2, 5, 2), (0, 11, 22, 3, 5, 2)] tb_L_part (0, [some (.ref 1), some (.int a), some (.int b), some (.int e), some (.ref 94), none], []) h _
  refine Ex.pure 6 (fr2 := (7, [some (.ref 1), some (.int a), some (.int b), some (.int e), some (.ref 94), none], [.int e, .int b, .int a, .ref 1, .int 0, .ref 94])) rfl ?_
  refine Ex.calh (rest := [.int 0, .ref 94]) (j := m_X6_part) (as := [.ref 1, .int a, .int b, .int e]) (vst (a := 92) (b := 4) (c := 5) (rest := [.int 0, .ref 94]) (vs := [.int a, .int b, .int e]) rfl ⟨Nat.le_of_ble_eq_true rfl, Nat.le_of_ble_eq_true rfl⟩ rfl rfl (sg_1 hs)) (c_part (by omega) hs I V.2.1 ⟨fun h0 rv h2 y2 c2 g1 g2 I2 F2 hr => ?_, fun hn h2 y2 I2 F2 => ?_⟩)
  · obtain ⟨r, rfl, hr⟩ := hr
    have hr := hr trivial
    show Ex d [(0, 11, 14, 1, 5, 2), (0, 11, 18, 2, 5, 2), (0, 11, 22, 3, 5, 2)] tb_L_part (10, [some (.ref 1), some (.int a), some (.int b), some (.int e), some (.ref 94), none], [.long r, .int 0, .ref 94]) h2 _
    refine Ex.last rfl (sg_94 F2.1) (by decide) ?_
    refine Ex.pure 2 (fr2 := (27, [some (.ref 1), some (.int a), some (.int b), some (.int e), some (.ref 94), none], [.int 0])) rfl ?_
    exact Ex.iret rfl (Or.inl rfl) (kk 0 (x_setJ h2 94 0 r) y2 c2 g1 g2 (I2.o F2.1 _) ((F2.fw (by omega)).o _) (by rw [h0]; rfl) (fun _ _ => by rw [sJ_eq]; exact hr))
  · rcases out3_st hn with hst | hst | hst
    · have hst2 : (f_part a b e S).1 = 1 := hst
      rw [hst2]
      show Ex d [(0, 11, 14, 1, 5, 2), (0, 11, 18, 2, 5, 2), (0, 11, 22, 3, 5, 2)] tb_L_part (16, [some (.ref 1), some (.int a), some (.int b), some (.int e), some (.ref 94), none], []) h2 _
      refine Ex.pure 1 (fr2 := (17, [some (.ref 1), some (.int a), some (.int b), some (.int e), some (.ref 94), none], [.int 1])) rfl ?_
      exact Ex.iret rfl (Or.inl rfl) (kk 1 h2 y2 c (Nat.le_refl _) (by omega) I2 (F2.fw (by omega)) (by rw [hst2]; rfl) (fun w => absurd w hn))
    · have hst2 : (f_part a b e S).1 = 2 := hst
      rw [hst2]
      show Ex d [(0, 11, 14, 1, 5, 2), (0, 11, 18, 2, 5, 2), (0, 11, 22, 3, 5, 2)] tb_L_part (20, [some (.ref 1), some (.int a), some (.int b), some (.int e), some (.ref 94), none], []) h2 _
      refine Ex.pure 1 (fr2 := (21, [some (.ref 1), some (.int a), some (.int b), some (.int e), some (.ref 94), none], [.int 2])) rfl ?_
      exact Ex.iret rfl (Or.inl rfl) (kk 2 h2 y2 c (Nat.le_refl _) (by omega) I2 (F2.fw (by omega)) (by rw [hst2]; rfl) (fun w => absurd w hn))
    · have hst2 : (f_part a b e S).1 = 3 := hst
      rw [hst2]
      show Ex d [(0, 11, 14, 1, 5, 2), (0, 11, 18, 2, 5, 2), (0, 11, 22, 3, 5, 2)] tb_L_part (24, [some (.ref 1), some (.int a), some (.int b), some (.int e), some (.ref 94), none], []) h2 _
      refine Ex.pure 1 (fr2 := (25, [some (.ref 1), some (.int a), some (.int b), some (.int e), some (.ref 94), none], [.int 3])) rfl ?_
      exact Ex.iret rfl (Or.inl rfl) (kk 3 h2 y2 c (Nat.le_refl _) (by omega) I2 (F2.fw (by omega)) (by rw [hst2]; rfl) (fun w => absurd w hn))
end
