/-! ===== layer 4: the law's deeds, descents and cuts ===== -/
theorem bt_1 : ∀ j, j < 9 → ∀ i, i < 16 → (btI ((1 : Int32) <<< (Int32.ofNat j &&& 31)) i = true ↔ i = j) := by decide +kernel
theorem bt_2 : ∀ j, j < 9 → ∀ i, i < 16 → (btI (((1 : Int32) <<< (Int32.ofNat j &&& 31)) ||| 512) i = true ↔ i = j ∨ i = 9) := by decide +kernel
theorem bt_r : ∀ j, j < 9 → (0 ≤ ((1 : Int32) <<< (Int32.ofNat j &&& 31)).toInt ∧ ((1 : Int32) <<< (Int32.ofNat j &&& 31)).toInt ≤ 65535) ∧ 0 ≤ (((1 : Int32) <<< (Int32.ofNat j &&& 31)) ||| 512).toInt ∧ (((1 : Int32) <<< (Int32.ofNat j &&& 31)) ||| 512).toInt ≤ 65535 := by decide +kernel
/-- the masks of one place -/
def MK (a : Int32) (m : Int32) : Prop := (∀ i, i < 16 → (btI m i = true ↔ i = pN a)) ∧ 0 ≤ m.toInt ∧ m.toInt ≤ 65535
def MK9 (a : Int32) (m : Int32) : Prop := (∀ i, i < 16 → (btI m i = true ↔ i = pN a ∨ i = 9)) ∧ 0 ≤ m.toInt ∧ m.toInt ≤ 65535
theorem is9.of {a : Int32} (h : is9 a) : a = Int32.ofNat (pN a) := i_of h.n.1 (by have := h.n.2; omega)
theorem is9.m {a : Int32} (h : is9 a) : MK a ((1 : Int32) <<< (a &&& 31)) := by
  have e := h.of
  have n := h.n.2
  unfold MK
  generalize pN a = j at e n
  subst e
  exact ⟨bt_1 j n, (bt_r j n).1⟩
theorem is9.m9 {a : Int32} (h : is9 a) : MK9 a (((1 : Int32) <<< (a &&& 31)) ||| 512) := by
  have e := h.of
  have n := h.n.2
  unfold MK9
  generalize pN a = j at e n
  subst e
  exact ⟨bt_2 j n, (bt_r j n).2⟩
theorem mk_all {S : XS} {a m : Int32} (ha : is9 a) (M : MK a m) : allN S m 16 ↔ S.1 (pN a) = 2 := by
  have n := ha.n.2
  refine ⟨fun h => h _ (by omega) ((M.1 _ (by omega)).mpr rfl), fun h i hi hb => ?_⟩
  rw [(M.1 i hi).mp hb]
  exact h
theorem mk9_all {S : XS} {a m : Int32} (ha : is9 a) (M : MK9 a m) (h1 : S.1 (pN a) = 2) (h9 : S.1 9 = 2) : allN S m 16 := by
  intro i hi hb
  rcases (M.1 i hi).mp hb with e | e
  · rw [e]; exact h1
  · rw [e]; exact h9
theorem mk_gof {S : XS} {a m : Int32} (ha : is9 a) (M : MK a m) (f : fitN (S.2.2.1 (pN a))) : gof S m 16 = S.2.2.1 (pN a) := by
  have n := ha.n.2
  have f2 : -268435456 ≤ S.2.2.1 (pN a) ∧ S.2.2.1 (pN a) ≤ 268435456 := f
  rw [gof_1 M.1 16 (Nat.le_refl _), if_pos (by omega)]
  generalize S.2.2.1 (pN a) = z at f2
  omega
theorem mk_lof {S : XS} {a m : Int32} (ha : is9 a) (M : MK a m) (f : fitN (S.2.2.1 (pN a))) : lof S m 16 = S.2.2.1 (pN a) := by
  have n := ha.n.2
  have f2 : -268435456 ≤ S.2.2.1 (pN a) ∧ S.2.2.1 (pN a) ≤ 268435456 := f
  rw [lof_1 M.1 16 (Nat.le_refl _), if_pos (by omega)]
  generalize S.2.2.1 (pN a) = z at f2
  omega
theorem mk9_gof {S : XS} {a m : Int32} (ha : is9 a) (M : MK9 a m) (f : fitN (S.2.2.1 (pN a))) (h : S.2.2.1 (pN a) < S.2.2.1 9) : gof S m 16 = S.2.2.1 9 := by
  have n := ha.n.2
  have f2 : -268435456 ≤ S.2.2.1 (pN a) ∧ S.2.2.1 (pN a) ≤ 268435456 := f
  rw [gof_2 n M.1 16 (Nat.le_refl _), if_pos (by omega)]
  generalize S.2.2.1 (pN a) = z at f2 h
  omega
/-- a cut that is made, or is refused -/
theorem cut_o {S : XS} {q m1 m2 : Int32} (hq : isp q) (r1 : 0 ≤ m1.toInt ∧ m1.toInt ≤ 65535) (r2 : 0 ≤ m2.toInt ∧ m2.toInt ≤ 65535) : (∃ w : WS, (allN S m1 16 ∧ allN S m2 16) ∧ gof S m1 16 < lof S m2 16 ∧ fnw (gof S m1 16) (lof S m2 16) 300 (wA 0) = some w ∧ fitN w.1 ∧ f_cut q m1 m2 S = (0, ((w.2.2.2 : Nat) : Int), sN S (pN q) w.1)) ∨ f_cut q m1 m2 S = (3, 0, S) := by
  by_cases c : (allN S m1 16 ∧ allN S m2 16) ∧ gof S m1 16 < lof S m2 16 ∧ cfit (cW S m1 m2)
  · left
    obtain ⟨c1, c2, c3⟩ := id c
    cases e : cW S m1 m2 with
    | none => rw [e] at c3; exact c3.elim
    | some w =>
      rw [e] at c3
      refine ⟨w, c1, c2, e, c3, ?_⟩
      rw [f_cut, out3_0 hq ⟨r1, r2⟩ c, e]
      rfl
  · right
    rw [f_cut, out3_3 hq ⟨r1, r2⟩ c]
theorem cut_t {S : XS} {q m1 m2 : Int32} {w : WS} (hq : isp q) (r1 : 0 ≤ m1.toInt ∧ m1.toInt ≤ 65535) (r2 : 0 ≤ m2.toInt ∧ m2.toInt ≤ 65535) (c1 : allN S m1 16 ∧ allN S m2 16) (c2 : gof S m1 16 < lof S m2 16) (e : fnw (gof S m1 16) (lof S m2 16) 300 (wA 0) = some w) (f : fitN w.1) : f_cut q m1 m2 S = (0, ((w.2.2.2 : Nat) : Int), sN S (pN q) w.1) := by
  have ec : cW S m1 m2 = some w := e
  rw [f_cut, out3_0 hq ⟨r1, r2⟩ ⟨c1, c2, by rw [ec]; exact f⟩, ec]
  rfl
/-- what lies at 9 is the simplest one between the two -/
def CF (S : XS) (a b : Nat) (w : WS) : Prop := S.1 a = 2 ∧ S.1 b = 2 ∧ S.2.2.1 a < S.2.2.1 b ∧ fnw (S.2.2.1 a) (S.2.2.1 b) 300 (wA 0) = some w ∧ S.1 9 = 2 ∧ S.2.2.1 9 = w.1 ∧ fitN w.1 ∧ S.2.2.1 a < w.1 ∧ w.1 < S.2.2.1 b
theorem CF.n10 {S : XS} {a b : Nat} {w : WS} {z : Int} (F : CF S a b w) (ha : a < 9) (hb : b < 9) : CF (sN S 10 z) a b w := by
  obtain ⟨f1, f2, f3, f4, f5, f6, f7, f8, f9⟩ := F
  have e1 : (sN S 10 z).1 a = S.1 a := upw_n S.1 2 (by omega)
  have e2 : (sN S 10 z).1 b = S.1 b := upw_n S.1 2 (by omega)
  have e3 : (sN S 10 z).1 9 = S.1 9 := upw_n S.1 (p := 10) (q := 9) 2 (by omega)
  have e4 : (sN S 10 z).2.2.1 a = S.2.2.1 a := upw_n S.2.2.1 z (by omega)
  have e5 : (sN S 10 z).2.2.1 b = S.2.2.1 b := upw_n S.2.2.1 z (by omega)
  have e6 : (sN S 10 z).2.2.1 9 = S.2.2.1 9 := upw_n S.2.2.1 (p := 10) (q := 9) z (by omega)
  unfold CF
  rw [e1, e2, e3, e4, e5, e6]
  exact ⟨f1, f2, f3, f4, f5, f6, f7, f8, f9⟩
theorem fit_bd {l u : Int} (h : l < u) (hl : fitN l) (hu : fitN u) : bLU l u := ⟨h, Or.inr hl, Or.inr hu⟩
theorem fnw_b {l u : Int} {w : WS} (h : l < u) (hl : fitN l) (hu : fitN u) (e : fnw l u 300 (wA 0) = some w) : (l < w.1 ∧ w.1 < u) ∧ tw 300 w.1 (wA 0) = w := by
  have i := fnw_in (fit_bd h hl hu) 300 278 (wA 0) w (bQ_0 l u) (by omega) e
  exact ⟨i, fnw_tw h 300 (wA 0) w e i.1 i.2⟩
theorem isp10 : isp (10 : Int32) := by decide
theorem pN10 : pN (10 : Int32) = 10 := rfl
section
variable {d L C X : Nat} {xs : Nat → Int32} {h : XH} {S : XS} {K : XK} {E : XE} {p a b l2 l4 l5 l6 l7 : Int32} {u3 u6 u7 u9 u10 u12 u13 u14 : Option Value} {u11 : Option Int32}
theorem cs_1112 {r : Int32} (hd : 71 ≤ d) (hC : C + 10030 < 16384) (T : TE d L xs (C + 10) (X + 6) l4 l5 p K E) (J : LJ L xs C (X + 4) h S) (hp : is9 p) (ha : is9 a) (hb : is9 b) (hr : ¬ r.toInt < 0 → ∃ w, r.toInt = ((w.2.2.2 : Nat) : Int) ∧ CF S (pN a) (pN b) w) : b_L_law_1112 d 0 1 l2 u3 l4 l5 u6 u7 p a b u11 r u13 u14 1 h K E := by
  have hC1 : C + 10020 < 16384 := hC_le hC (by omega)
  obtain ⟨y, hs⟩ := J.sg
  have hd0 : 70 ≤ d := by omega
  have V := J.va
  have fin : ∀ {h2 : XH} {S2 : XS} {X2 : Nat} {u3 u6 u7 u9 u10 u12 u13 u14 : Option Value} {u11 : Option Int32}, X2 ≤ X + 6 → LJ L xs C X2 h2 S2 → b_L_law_1157 d 0 1 l2 u3 l4 l5 u6 u7 p u9 u10 u11 u12 u13 u14 h2 K E := by
    intro h2 S2 X2 u3 u6 u7 u9 u10 u12 u13 u14 u11 hX J2
    obtain ⟨y2, hs2⟩ := J2.sg
    exact w_L_law_1157 hd0 hs2 (w_L_law_1162 hd0 hs2 (T _ _ _ _ _ _ _ _ _ _ _ (J2.le (by omega) hX)))
  refine w_L_law_1112 hd0 hs ⟨fun z => absurd z (by decide), fun _ => ⟨fun _ => fin (by omega) J, fun n0 => ?_⟩⟩
  obtain ⟨w, hw, F⟩ := hr (fun z => n0 (i_lt.mpr (by rw [i_0]; exact z)))
  obtain ⟨f1, f2, f3, f4, f5, f6, f7, f8, f9⟩ := F
  have ha16 : pN a < 16 := Nat.lt_trans ha.n.2 (by decide)
  have hb16 : pN b < 16 := Nat.lt_trans hb.n.2 (by decide)
  have g1 := mk_gof ha ha.m (V.1 _ ha16 f1)
  have g2 := mk_lof hb hb.m (V.1 _ hb16 f2)
  refine q_cut hd0 J hC1 (fun r2 h2 J2 hr2 => ?_)
  rw [cut_t (w := w) hp.p ha.m.2 hb.m.2 ⟨(mk_all ha ha.m).mpr f1, (mk_all hb hb.m).mpr f2⟩ (by rw [g1, g2]; exact f3) (by rw [g1, g2]; exact f4) f7] at J2 hr2
  have e2 : r2 = r := i_av hr2 hw
  refine ⟨fun z => absurd e2 z, fun _ => ?_⟩
  have n9 : ¬ (9 : Nat) = pN p := fun q => absurd hp.n.2 (by rw [← q]; decide)
  have k9 : (sN S (pN p) w.1).1 (pN (9 : Int32)) = 2 := by rw [pN9]; exact (upw_n S.1 2 n9).trans f5
  have v9 : (sN S (pN p) w.1).2.2.1 (pN (9 : Int32)) = w.1 := by rw [pN9]; exact (upw_n S.2.2.1 w.1 n9).trans f6
  have vp : (sN S (pN p) w.1).2.2.1 (pN p) = w.1 := upw_e S.2.2.1 _ w.1
  refine q_cmp hd0 J2 hC1 (fun r3 h3 J3 hr3 => ?_)
  rw [cmp_n hp.p isp9 (upw_e S.1 _ 2) k9 (v := 0) (by rw [vp, v9]; exact csg_eq _)] at J3 hr3
  have e3 : r3 = 0 := i_av hr3 rfl
  exact ⟨fun z => absurd e3 z, fun _ => fin (X2 := X + 4 + 1 + 1) (by omega) J3⟩
theorem cs_1060 {r : Int32} (hd : 71 ≤ d) (hC : C + 10030 < 16384) (T : TE d L xs (C + 10) (X + 6) l4 l5 p K E) (J : LJ L xs C (X + 3) h S) (hp : is9 p) (ha : is9 a) (hb : is9 b) (hr : ¬ r.toInt < 0 → ∃ w, r.toInt = ((w.2.2.2 : Nat) : Int) ∧ CF S (pN a) (pN b) w) : b_L_law_1060 d 0 1 l2 u3 l4 l5 u6 u7 p a b u11 r u13 u14 1 h K E := by
  have hC1 : C + 10020 < 16384 := hC_le hC (by omega)
  obtain ⟨y, hs⟩ := J.sg
  have hd0 : 70 ≤ d := by omega
  have V := J.va
  have fin : ∀ {h2 : XH} {S2 : XS} {X2 : Nat} {u3 u6 u7 u13 u14 : Option Value} {u11 : Option Int32}, X2 ≤ X + 4 → LJ L xs C X2 h2 S2 → (¬ r.toInt < 0 → ∃ w, r.toInt = ((w.2.2.2 : Nat) : Int) ∧ CF S2 (pN a) (pN b) w) → b_L_law_1107 d 0 1 l2 u3 l4 l5 u6 u7 p a b u11 r u13 u14 h2 K E := by
    intro h2 S2 X2 u3 u6 u7 u13 u14 u11 hX J2 hr2
    obtain ⟨y2, hs2⟩ := J2.sg
    exact w_L_law_1107 hd0 hs2 (cs_1112 hd hC T (J2.le (Nat.le_refl _) hX) hp ha hb hr2)
  refine w_L_law_1060 hd0 hs ⟨fun z => absurd z (by decide), fun _ => ⟨fun _ => fin (by omega) J hr, fun n0 => ?_⟩⟩
  obtain ⟨w, hw, F⟩ := hr (fun z => n0 (i_lt.mpr (by rw [i_0]; exact z)))
  obtain ⟨f1, f2, f3, f4, f5, f6, f7, f8, f9⟩ := id F
  have ha16 : pN a < 16 := Nat.lt_trans ha.n.2 (by decide)
  have hb16 : pN b < 16 := Nat.lt_trans hb.n.2 (by decide)
  have fa := V.1 _ ha16 f1
  have fb := V.1 _ hb16 f2
  have g1 := mk9_gof ha ha.m9 fa (by rw [f6]; exact f8)
  have g2 := mk_lof hb hb.m fb
  rw [f6] at g1
  refine q_cut hd0 J hC1 (fun r2 h2 J2 hr2 => ?_)
  rcases cut_o (S := S) (q := 10) isp10 ha.m9.2 hb.m.2 with ⟨w5, c1, c2, c3, c4, c5⟩ | c5
  · rw [g1, g2] at c2 c3
    rw [c5, pN10] at J2
    have F2 : CF (sN S 10 w5.1) (pN a) (pN b) w := F.n10 ha.n.2 hb.n.2
    obtain ⟨⟨i1, i2⟩, i3⟩ := fnw_b c2 f7 fb c3
    have later := fnw_later 300 (wA 0) w w5 f4 f8 f9 c3 i1
    refine ⟨fun _ => fin (X2 := X + 3 + 1) (by omega) J2 (fun _ => ⟨w, hw, F2⟩), fun _ => ?_⟩
    have k10 : (sN S 10 w5.1).1 (pN (10 : Int32)) = 2 := by rw [pN10]; exact upw_e S.1 10 2
    have v10 : (sN S 10 w5.1).2.2.1 (pN (10 : Int32)) = w5.1 := by rw [pN10]; exact upw_e S.2.2.1 10 w5.1
    refine q_birthday hd0 J2 isp10 k10 (fun r3 h3 J3 hr3 => ?_)
    rw [v10, i3] at hr3
    refine ⟨fun z => ?_, fun _ => fin (X2 := X + 3 + 1) (by omega) J3 (fun _ => ⟨w, hw, F2⟩)⟩
    exfalso
    have z2 := i_le.mp z
    rw [hr3, hw] at z2
    exact absurd later (Nat.not_lt_of_le (Int.ofNat_le.mp z2))
  · rw [c5] at J2 hr2
    have e2 : r2 = -1013 := i_avI hr2
    exact ⟨fun _ => fin (X2 := X + 3 + 1) (by omega) J2 hr, fun z => absurd e2 z⟩
theorem cs_cut (hd : 71 ≤ d) (hC : C + 10030 < 16384) (T : TE d L xs (C + 10) (X + 6) l4 l5 p K E) (J : LJ L xs C X h S) (hp : is9 p) (ha : is9 a) (hb : is9 b) (h7 : l7.toInt < 27) : b_L_law_976 d 0 1 l2 u3 l4 l5 u6 l7 p a b u11 u12 u13 u14 h K E := by
  have hC1 : C + 10020 < 16384 := hC_le hC (by omega)
  obtain ⟨y, hs⟩ := J.sg
  have hd0 : 70 ≤ d := by omega
  have e27 : (27 : Int32).toInt = 27 := rfl
  have V := J.va
  have ha16 : pN a < 16 := Nat.lt_trans ha.n.2 (by decide)
  have hb16 : pN b < 16 := Nat.lt_trans hb.n.2 (by decide)
  have fin : ∀ {h2 : XH} {S2 : XS} {X2 : Nat} {r : Int32} {u3 u6 u7 u13 u14 : Option Value} {u11 : Option Int32}, X2 ≤ X + 3 → LJ L xs C X2 h2 S2 → (¬ r.toInt < 0 → ∃ w, r.toInt = ((w.2.2.2 : Nat) : Int) ∧ CF S2 (pN a) (pN b) w) → b_L_law_1055 d 0 1 l2 u3 l4 l5 u6 u7 p a b u11 r u13 u14 h2 K E := by
    intro h2 S2 X2 r u3 u6 u7 u13 u14 u11 hX J2 hr2
    obtain ⟨y2, hs2⟩ := J2.sg
    exact w_L_law_1055 hd0 hs2 (cs_1060 hd hC T (J2.le (Nat.le_refl _) hX) hp ha hb hr2)
  refine w_L_law_976 hd0 hs ⟨fun z => absurd (i_le.mp z) (by rw [e27]; omega), fun _ => ?_⟩
  refine q_cut hd0 J hC1 (fun r h2 J2 hr => ?_)
  rcases cut_o (S := S) (q := 9) isp9 ha.m.2 hb.m.2 with ⟨w, c1, c2, c3, c4, c5⟩ | c5
  · have f1 := (mk_all ha ha.m).mp c1.1
    have f2 := (mk_all hb hb.m).mp c1.2
    have fa := V.1 _ ha16 f1
    have fb := V.1 _ hb16 f2
    rw [mk_gof ha ha.m fa, mk_lof hb hb.m fb] at c2 c3
    obtain ⟨⟨i1, i2⟩, i3⟩ := fnw_b c2 fa fb c3
    rw [c5] at J2 hr
    rw [pN9] at J2
    have hr : r.toInt = ((w.2.2.2 : Nat) : Int) := hr.trans (if_pos rfl)
    have na : ¬ pN a = 9 := Nat.ne_of_lt ha.n.2
    have nb : ¬ pN b = 9 := Nat.ne_of_lt hb.n.2
    have ka : (sN S 9 w.1).1 (pN a) = 2 := (upw_n S.1 2 na).trans f1
    have kb : (sN S 9 w.1).1 (pN b) = 2 := (upw_n S.1 2 nb).trans f2
    have va : (sN S 9 w.1).2.2.1 (pN a) = S.2.2.1 (pN a) := upw_n S.2.2.1 w.1 na
    have vb : (sN S 9 w.1).2.2.1 (pN b) = S.2.2.1 (pN b) := upw_n S.2.2.1 w.1 nb
    have k9 : (sN S 9 w.1).1 9 = 2 := upw_e S.1 9 2
    have v9 : (sN S 9 w.1).2.2.1 9 = w.1 := upw_e S.2.2.1 9 w.1
    have F : CF (sN S 9 w.1) (pN a) (pN b) w := by
      unfold CF
      rw [ka, kb, va, vb, k9, v9]
      exact ⟨rfl, rfl, c2, c3, rfl, rfl, c4, i1, i2⟩
    have k9' : (sN S 9 w.1).1 (pN (9 : Int32)) = 2 := by rw [pN9]; exact k9
    have v9' : (sN S 9 w.1).2.2.1 (pN (9 : Int32)) = w.1 := by rw [pN9]; exact v9
    refine ⟨fun _ => fin (X2 := X + 1) (by omega) J2 (fun _ => ⟨w, hr, F⟩), fun _ => ⟨fun z => ?_, fun _ => ?_⟩⟩
    · have z2 := i_lt.mp z
      rw [hr, i_0] at z2
      exact absurd z2 (Int.not_lt.mpr (Int.natCast_nonneg _))
    · refine q_birthday hd0 J2 isp9 k9' (fun r3 h3 J3 hr3 => ?_)
      rw [v9', i3] at hr3
      refine ⟨fun z => absurd (i_eq hr3 hr) z, fun _ => ?_⟩
      refine q_cmp hd0 J3 hC1 (fun r4 h4 J4 hr4 => ?_)
      rw [cmp_n ha.p isp9 ka k9' (v := -1) (by rw [va, v9']; exact csg_lt i1)] at J4 hr4
      have e4 : r4 = -1 := i_av hr4 rfl
      refine ⟨fun z => absurd e4 z, fun _ => ?_⟩
      refine q_cmp hd0 J4 hC1 (fun r5 h5 J5 hr5 => ?_)
      rw [cmp_n isp9 hb.p k9' kb (v := -1) (by rw [vb, v9']; exact csg_lt i2)] at J5 hr5
      have e5 : r5 = -1 := i_av hr5 rfl
      exact ⟨fun z => absurd e5 z, fun _ => fin (X2 := X + 1 + 1 + 1) (by omega) J5 (fun _ => ⟨w, hr, F⟩)⟩
  · rw [c5] at J2 hr
    have e2 : r = -1013 := i_avI hr
    subst e2
    exact ⟨fun _ => fin (X2 := X + 1) (by omega) J2 (fun z => absurd (by decide) z), fun z => absurd rfl z⟩
theorem dsc_t {q n e : Int32} {m : Nat} (hq : isp q) (hn : 1 ≤ n.toInt ∧ n.toInt ≤ 99) (he : e.toInt = m) (hm : m ≤ 2000) (c : S.1 (pN q) = 1 ∧ ¬ dsF n.toInt.toNat m 0 (S.2.1 (pN q)) = none) : f_descent q n e S = (0, dsV (dsF n.toInt.toNat m 0 (S.2.1 (pN q))), S) := by
  have e2 : e.toInt.toNat = m := by omega
  rw [f_descent, e2, out3_0 hq ⟨hn, by omega⟩ c]
theorem dsc_f {q n e : Int32} {m : Nat} (hq : isp q) (hn : 1 ≤ n.toInt ∧ n.toInt ≤ 99) (he : e.toInt = m) (hm : m ≤ 2000) (c : ¬ (S.1 (pN q) = 1 ∧ ¬ dsF n.toInt.toNat m 0 (S.2.1 (pN q)) = none)) : f_descent q n e S = (3, 0, S) := by
  have e2 : e.toInt.toNat = m := by omega
  rw [f_descent, e2, out3_3 hq ⟨hn, by omega⟩ c]
theorem cs_dsc (hd : 71 ≤ d) (hC : C + 10030 < 16384) (T : TE d L xs (C + 10) (X + 6) l4 l5 p K E) (J : LJ L xs C X h S) (ha : is9 a) (h6 : 0 ≤ l6.toInt) : b_L_law_853 d 0 1 l2 u3 l4 l5 l6 u7 p a u10 u11 u12 u13 u14 h K E := by
  have hC1 : C + 10020 < 16384 := hC_le hC (by omega)
  obtain ⟨y, hs⟩ := J.sg
  have hd0 : 70 ≤ d := by omega
  have hn0 := i_am (k := 5) (n := 5) (m := 1) (q := 1) (i_shn h6 sh12) rfl (by omega) rfl (by omega)
  obtain ⟨n, hnn⟩ : ∃ n, 1 + ((l6 >>> ((12 : Int32) &&& 31)) - (l6 >>> ((12 : Int32) &&& 31)) / 5 * 5) = n := ⟨_, rfl⟩
  rw [hnn] at hn0
  clear h6
  have hn : 1 ≤ n.toInt ∧ n.toInt ≤ 99 := ⟨hn0.1, by have := hn0.2; omega⟩
  clear hn0
  have fin : ∀ {l2 : Int32} {h2 : XH} {X2 : Nat} {u3 u6 u7 u9 u10 u12 u13 u14 : Option Value} {u11 : Option Int32}, X2 ≤ X + 6 → LJ L xs C X2 h2 S → b_L_law_967 d 0 1 l2 u3 l4 l5 u6 u7 p u9 u10 u11 u12 u13 u14 h2 K E := by
    intro l2 h2 X2 u3 u6 u7 u9 u10 u12 u13 u14 u11 hX J2
    obtain ⟨y2, hs2⟩ := J2.sg
    exact w_L_law_967 hd0 hs2 (w_L_law_972 hd0 hs2 (T _ _ _ _ _ _ _ _ _ _ _ (J2.le (by omega) hX)))
  refine w_L_law_853 hd0 hs ?_
  rw [hnn]
  refine q_dsc hd0 J hC1 (fun r h2 J2 hr => ?_)
  by_cases c : S.1 (pN a) = 1 ∧ ¬ dsF n.toInt.toNat 40 0 (S.2.1 (pN a)) = none
  · obtain ⟨⟨b1, b2⟩, b3, b4⟩ := ds_law c.2
    rw [dsc_t (m := 40) ha.p hn rfl (by omega) c] at J2 hr
    have hr : r.toInt = dsV (dsF n.toInt.toNat 40 0 (S.2.1 (pN a))) := hr.trans (if_pos rfl)
    rw [← hr] at b1 b2 b3 b4
    clear hr
    have em1 : (-1 : Int32).toInt = -1 := rfl
    have e40 : (40 : Int32).toInt = 40 := rfl
    have G : ∀ {l2 : Int32} {h3 : XH} {u3 u7 u10 u13 u14 : Option Value} {u11 : Option Int32}, LJ L xs C (X + 1) h3 S → b_L_law_912 d 0 1 l2 u3 l4 l5 l6 u7 p a u10 u11 r u13 u14 h3 K E := by
      intro l2 h3 u3 u7 u10 u13 u14 u11 J3
      obtain ⟨y3, hs3⟩ := J3.sg
      refine w_L_law_912 hd0 hs3 ⟨fun _ => fin (X2 := X + 1) (by omega) J3, fun z => ?_⟩
      have z1 : 1 ≤ r.toInt := by
        have h1 : ¬ r.toInt < 1 := fun w => z (i_lt.mpr (by rw [i_1]; exact w))
        omega
      obtain ⟨t, ht⟩ : ∃ t : Nat, r.toInt = t := ⟨r.toInt.toNat, by omega⟩
      obtain ⟨⟨s1, s2⟩, s3, s4⟩ := b4 t (by omega) ht
      have hr1 : (r - 1).toInt = (t - 1 : Nat) := by
        rw [i_sub (by rw [i_1]; omega) (by rw [i_1]; omega), i_1]
        omega
      have ht40 : t ≤ 40 := by omega
      clear b1 b2 b3 b4
      rw [hnn]
      refine q_dsc hd0 J3 hC1 (fun r2 h4 J4 hr2 => ?_)
      rw [dsc_t (m := t) ha.p hn ht (by omega) ⟨c.1, s1⟩, s2] at J4 hr2
      have e2 : r2 = r := i_av hr2 ht
      refine ⟨fun w => absurd e2 w, fun _ => ?_⟩
      refine q_dsc hd0 J4 hC1 (fun r3 h5 J5 hr3 => ?_)
      rw [dsc_t (m := t - 1) ha.p hn hr1 (by omega) ⟨c.1, s3⟩, s4] at J5 hr3
      have e3 : r3 = -1 := i_av hr3 rfl
      exact ⟨fun w => absurd e3 w, fun _ => fin (X2 := X + 1 + 1 + 1) (by omega) J5⟩
    refine ⟨fun _ => fin (X2 := X + 1) (by omega) J2, fun _ => ⟨fun z => absurd (i_lt.mp z) (by omega), fun _ => ⟨fun z => absurd (i_lt.mp z) (by omega), fun _ => ⟨fun _ => G J2, fun z => ?_⟩⟩⟩⟩
    have r0 : r.toInt = 0 := i_ne.mp (Classical.not_not.mp z)
    have hx := b3 r0
    refine q_powers hd0 J2 ha.p c.1 (fun r2 h3 J3 hr2 => ?_)
    rw [hx] at hr2
    have e2 : r2 = 0 := i_eq hr2 rfl
    exact ⟨fun w => absurd e2 w, fun _ => G J3⟩
  · rw [dsc_f (m := 40) ha.p hn rfl (by omega) c] at J2 hr
    have e2 : r = -1013 := i_avI hr
    exact ⟨fun _ => fin (X2 := X + 1) (by omega) J2, fun z => absurd e2 z⟩
end
