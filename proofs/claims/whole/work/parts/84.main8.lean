/-! ===== layer 2: the model's sums, products, differences ===== -/
section
variable {d : Nat} {h : XH} {y : Nat → Nat} {S : XS} {K : XK} {E : XE}
theorem t_begM (hd : 22 ≤ d) (hs : Sg h.1 y) (I : MI h S) (L : LBS S) (kk : ∀ (h2 : XH) (m2 : Nat) (om2 : Nat → O), Mo h2 m2 om2 → Pl h2 m2 om2 S.2.1 → m2 + 70 < 2000 → MI h2 S → FM h h2 → K none h2) : Ca d m_X7_begin [.ref 77] h K E := by
  obtain ⟨m, om, I1, I2, I3⟩ := id I
  refine t_beg hd hs I1 I2 (L.h I) (fun h2 m2 om2 M2 P2 F2 hm => ?_)
  obtain ⟨a1, a2, a3⟩ := I.dz M2 P2 F2
  exact kk h2 m2 om2 M2 P2 hm a1 a2
/-- the outcome of what sets a sum, a product or a difference -/
def Ks (h : XH) (a : Int32) (S : XS) (o : XC) (K : XK) : Prop :=
  (∀ (v : Int) (S2 : XS) (h2 : XH), o = (0, v, S2) → (S2.1 (pN a)).toInt = v → MI h2 S2 → FM h h2 → K (some (.int 1)) h2) ∧ (∀ h2, o = (2, 0, S) → MI h2 S → FM h h2 → K (some (.int 0)) h2)
/-- the kinds as the model holds them -/
theorem MI.k {p : Nat} (I : MI h S) (hp : p < 16) : h.2.1 78 p = S.1 p := by
  obtain ⟨_, _, _, _, I3⟩ := I
  exact (I3 p hp).1
/-- an ordinal made, then set -/
theorem sets_ord {h1 h2 : XH} {a r : Int32} {m1 m2 : Nat} {om1 om2 : Nat → O} {x : O} {ok : Prop} {v : Int} {o : XC} (hd : 23 ≤ d) (hs1 : Sg h1.1 y) (I1 : MI h1 S) (P1 : Pl h1 m1 om1 S.2.1) (z : isp a) (F0 : FM h h1) (x1 : ∀ i, i < m1 → om2 i = om1 i) (x2 : m1 ≤ m2) (F : Fmo h1 h2) (x5 : Mo h2 m2 om2) (x6 : (ok ∧ ∃ r2 : Nat, r.toInt = r2 ∧ r2 < m2 ∧ om2 r2 = x) ∨ (¬ ok ∧ r.toInt = -1)) (e1 : ok → o = (0, v, sO S (pN a) x)) (ev : v = 1) (e0 : ¬ ok → o = (2, 0, S)) (kk : Ks h a S o K) : Ca d m_X7_setsOrdinal [.ref 77, .int a, .int r] h2 (fun rv h17 => ∃ x18, rv = some (.int x18) ∧ Sg h17.1 y ∧ (x18 = 0 ∨ x18 = 1) ∧ K (some (.int x18)) h17) E := by
  obtain ⟨z1, z2⟩ := isp_p z
  refine t_X7_setsOrdinal (h := h1) (T := S.2.1) (by omega) hs1 x5 (P1.fr (F.2.2.1 78 (by omega)).1 (F.2.2.1 79 (by omega)).1 x2 x1) F.ds z1 z2 x6 ⟨fun h3 m3 om3 okk M3 P3 F3 => ⟨1, rfl, by rw [F3.1]; exact hs1, Or.inr rfl, ?_⟩, fun h3 m3 om3 nok M3 P3 F3 => ⟨0, rfl, F3.sg hs1, Or.inl rfl, ?_⟩⟩
  · obtain ⟨a1, a2, a3⟩ := I1.lz z2 M3 P3 F3
    exact kk.1 v _ h3 (e1 okk) (by rw [show (sO S (pN a) x).1 (pN a) = 1 from upw_e _ _ _, ev]; rfl) a1 (F0.tr a2)
  · obtain ⟨a1, a2, a3⟩ := I1.dz M3 P3 F3
    exact kk.2 h3 (e0 nok) a1 (F0.tr a2)
theorem t_X7_setsSum {a b c : Int32} (hd : 40 ≤ d) (hs : Sg h.1 y) (I : MI h S) (V : VG S) (W : VK S) (N : VN S) (L : LBS S) (z : isp a ∧ isp b ∧ isp c) (kk : Ks h a S (f_sum a b c S) K) : Ca d m_X7_setsSum [.ref 77, .int a, .int b, .int c] h K E := by
  obtain ⟨d, rfl⟩ : ∃ e, d = e + 1 := ⟨d - 1, by omega⟩
  obtain ⟨z0, zb, zc⟩ := id z
  obtain ⟨a1, a2⟩ := isp_p z0
  obtain ⟨b1, b2⟩ := isp_p zb
  obtain ⟨c1, c2⟩ := isp_p zc
  refine w_X7_setsSum (by omega) hs (t_begM (by omega) hs I L (fun h1 m1 om1 M1 P1 hm1 I1 F1 => ⟨rfl, F1.sg hs, ?_⟩))
  have hs1 := F1.sg hs
  have kb := I1.k b2
  have kc := I1.k c2
  refine t_X7_areBoth (by omega) hs1 b1 b2 c1 c2 (fun q1 q2 => ⟨1, rfl, hs1, fun v => absurd v n1_0, fun _ => ⟨i_Ix b1 b2, i_Ix c1 c2, ?_⟩⟩) (fun q => ⟨0, rfl, hs1, fun _ => t_X7_areBoth (by omega) hs1 b1 b2 c1 c2 (fun q1 q2 => ⟨1, rfl, hs1, fun v => absurd v n1_0, fun _ => ⟨i_Ix b1 b2, i_Ix c1 c2, ?_⟩⟩) (fun q' => ⟨0, rfl, hs1, fun _ => t_X7_areBoth (by omega) hs1 b1 b2 c1 c2 (fun q1 q2 => ⟨1, rfl, hs1, fun v => absurd v n1_0, fun _ => ?_⟩) (fun q'' => ⟨0, rfl, hs1, fun _ => ?_, fun v => absurd rfl v⟩), fun v => absurd rfl v⟩), fun v => absurd rfl v⟩)
  · obtain ⟨i, i1, i2, i3⟩ := P1 _ b2 q1
    obtain ⟨j, j1, j2, j3⟩ := P1 _ c2 q2
    rw [kb] at q1
    rw [kc] at q2
    rw [i_ix b1, i_ix c1]
    refine t_X7_summed (by omega) hs1 M1 i2 j2 i1 j1 (by omega) (fun r h2 m2 om2 x1 x2 x3 x4 x5 x6 => ⟨r, rfl, x4.sg hs1, ?_⟩)
    rw [i3, j3] at x6
    exact sets_ord (by omega) hs1 I1 P1 z0 F1 x1 x2 x4.mo x5 x6 (fun ok => f_sum_1 z q1 q2 ok) rfl (fun nok => out2_2 z (fun v => nok (v.2.2.1 q1))) kk
  · rw [kb] at q1
    rw [kc] at q2
    obtain ⟨_, _, _, _, I3⟩ := id I1
    have v1 := (I3 _ b2).2.1 q1
    have v2 := (I3 _ c2).2.1 q2
    have n1 := N _ b2 q1
    have n2 := N _ c2 q2
    rw [i_ix b1, i_ix c1]
    refine t_X7_setsNumber (v := S.2.2.1 (pN b) + S.2.2.1 (pN c)) (by omega) hs1 I1 a1 a2 (by rw [j_add (by rw [i_2j, i_2j, v1, v2]; unfold fitN at n1 n2; omega) (by rw [i_2j, i_2j, v1, v2]; unfold fitN at n1 n2; omega), i_2j, i_2j, v1, v2]) (fun f h2 I2 F2 t2 => ⟨1, rfl, F2.sg hs1, Or.inr rfl, kk.1 2 _ h2 (f_sum_2 z q1 q2 f) (by rw [show (sN S (pN a) (S.2.2.1 (pN b) + S.2.2.1 (pN c))).1 (pN a) = 2 from upw_e _ _ _]; rfl) I2 (F1.tr F2)⟩) (fun f => ⟨0, rfl, hs1, Or.inl rfl, kk.2 h1 (out2_2 z (fun v => f (v.2.2.2.1 q1))) I1 F1⟩)
  · rw [kb] at q1
    rw [kc] at q2
    obtain ⟨_, _, _, _, I3⟩ := id I1
    have V1 := V _ b2 q1
    have V2 := V _ c2 q2
    refine t_X7_joinsBoth (by omega) hs1 b1 b2 c1 c2 i_1 (Or.inl rfl) ((I3 _ b2).2.2 q1) V1 ((I3 _ c2).2.2 q2) V2 (fun f h2 M2 F2 => ⟨1, rfl, F2.sg hs1, ?_⟩) (fun f h2 M2 F2 => ⟨0, rfl, F2.sg hs1, ?_⟩)
    · obtain ⟨d1, d2, d3⟩ := I1.fg F2
      exact t_X7_setsGrowth (by omega) (F2.sg hs1) d1 a1 a2 M2 (fun _ _ h4 I4 F4 t4 => ⟨1, rfl, F4.sg (F2.sg hs1), fun v => absurd v n1_0, fun _ => kk.1 3 _ h4 (f_sum_3 z q1 q2 f) (by rw [show (sG S (pN a) (gnz (gsm (S.2.2.2 (pN b)) (S.2.2.2 (pN c)) 1))).1 (pN a) = 3 from upw_e _ _ _]; rfl) I4 ((F1.tr d2).tr F4)⟩) (fun v => absurd v n1_0) (Or.inr ⟨rfl, f⟩)
    · obtain ⟨d1, d2, d3⟩ := I1.fg F2
      exact t_X7_setsGrowth (by omega) (F2.sg hs1) d1 a1 a2 M2 (fun v => absurd v.symm n1_0) (fun _ => ⟨0, rfl, F2.sg hs1, fun _ => kk.2 h2 (out2_2 z (fun v => f (v.2.2.2.2 q1))) d1 (F1.tr d2), fun v => absurd rfl v⟩) (Or.inl rfl)
  · rw [kb, kc] at q q' q''
    refine kk.2 h1 (out2_2 z (fun v => ?_)) I1 F1
    rcases W _ b2 with w | w | w | w
    · exact v.1 w
    · exact q ⟨w, by rw [← v.2.1]; exact w⟩
    · exact q' ⟨w, by rw [← v.2.1]; exact w⟩
    · exact q'' ⟨w, by rw [← v.2.1]; exact w⟩
theorem t_X7_setsDifference {a b c : Int32} (hd : 40 ≤ d) (hs : Sg h.1 y) (I1 : MI h S) (V : VG S) (W : VK S) (N : VN S) (z : isp a ∧ isp b ∧ isp c) (kk : Ks h a S (f_difference a b c S) K) : Ca d m_X7_setsDifference [.ref 77, .int a, .int b, .int c] h K E := by
  obtain ⟨d, rfl⟩ : ∃ e, d = e + 1 := ⟨d - 1, by omega⟩
  obtain ⟨z0, zb, zc⟩ := id z
  obtain ⟨a1, a2⟩ := isp_p z0
  obtain ⟨b1, b2⟩ := isp_p zb
  obtain ⟨c1, c2⟩ := isp_p zc
  have kb := I1.k b2
  have kc := I1.k c2
  obtain ⟨_, _, _, _, I3⟩ := id I1
  refine w_X7_setsDifference (by omega) hs (t_X7_areBoth (by omega) hs b1 b2 c1 c2 (fun q1 q2 => ⟨1, rfl, hs, fun v => absurd v n1_0, fun _ => ⟨i_Ix b1 b2, i_Ix c1 c2, ?_⟩⟩) (fun q' => ⟨0, rfl, hs, fun _ => t_X7_areBoth (by omega) hs b1 b2 c1 c2 (fun q1 q2 => ⟨1, rfl, hs, fun v => absurd v n1_0, fun _ => ?_⟩) (fun q'' => ⟨0, rfl, hs, fun _ => ?_, fun v => absurd rfl v⟩), fun v => absurd rfl v⟩))
  · rw [kb] at q1
    rw [kc] at q2
    have v1 := (I3 _ b2).2.1 q1
    have v2 := (I3 _ c2).2.1 q2
    have n1 := N _ b2 q1
    have n2 := N _ c2 q2
    rw [i_ix b1, i_ix c1]
    refine t_X7_setsNumber (v := S.2.2.1 (pN b) - S.2.2.1 (pN c)) (by omega) hs I1 a1 a2 (by rw [j_sub (by rw [i_2j, i_2j, v1, v2]; unfold fitN at n1 n2; omega) (by rw [i_2j, i_2j, v1, v2]; unfold fitN at n1 n2; omega), i_2j, i_2j, v1, v2]) (fun f h2 I2 F2 t2 => ⟨1, rfl, F2.sg hs, Or.inr rfl, kk.1 2 _ h2 (f_difference_2 z q1 q2 f) (by rw [show (sN S (pN a) (S.2.2.1 (pN b) - S.2.2.1 (pN c))).1 (pN a) = 2 from upw_e _ _ _]; rfl) I2 F2⟩) (fun f => ⟨0, rfl, hs, Or.inl rfl, kk.2 h (out2_2 z (fun v => f (v.2.2.2.1 q1))) I1 (FM.rf _)⟩)
  · rw [kb] at q1
    rw [kc] at q2
    have V1 := V _ b2 q1
    have V2 := V _ c2 q2
    refine t_X7_joinsBoth (by omega) hs b1 b2 c1 c2 rfl (Or.inr rfl) ((I3 _ b2).2.2 q1) V1 ((I3 _ c2).2.2 q2) V2 (fun f h2 M2 F2 => ⟨1, rfl, F2.sg hs, ?_⟩) (fun f h2 M2 F2 => ⟨0, rfl, F2.sg hs, ?_⟩)
    · obtain ⟨d1, d2, d3⟩ := I1.fg F2
      exact t_X7_setsGrowth (by omega) (F2.sg hs) d1 a1 a2 M2 (fun _ _ h4 I4 F4 t4 => ⟨1, rfl, F4.sg (F2.sg hs), fun v => absurd v n1_0, fun _ => kk.1 3 _ h4 (f_difference_3 z q1 q2 f) (by rw [show (sG S (pN a) (gnz (gsm (S.2.2.2 (pN b)) (S.2.2.2 (pN c)) (-1)))).1 (pN a) = 3 from upw_e _ _ _]; rfl) I4 (d2.tr F4)⟩) (fun v => absurd v n1_0) (Or.inr ⟨rfl, f⟩)
    · obtain ⟨d1, d2, d3⟩ := I1.fg F2
      exact t_X7_setsGrowth (by omega) (F2.sg hs) d1 a1 a2 M2 (fun v => absurd v.symm n1_0) (fun _ => ⟨0, rfl, F2.sg hs, fun _ => kk.2 h2 (out2_2 z (fun v => f (v.2.2.2.2 q1))) d1 d2, fun v => absurd rfl v⟩) (Or.inl rfl)
  · rw [kb, kc] at q' q''
    refine kk.2 h (out2_2 z (fun v => ?_)) I1 (FM.rf _)
    rcases W _ b2 with w | w | w | w
    · exact v.1 w
    · exact v.2.2.1 w
    · exact q' ⟨w, by rw [← v.2.1]; exact w⟩
    · exact q'' ⟨w, by rw [← v.2.1]; exact w⟩
theorem t_X7_setsProduct {a b c : Int32} (hd : 40 ≤ d) (hs : Sg h.1 y) (I : MI h S) (V : VG S) (W : VK S) (N : VN S) (L : LBS S) (z : isp a ∧ isp b ∧ isp c) (kk : Ks h a S (f_product a b c S) K) : Ca d m_X7_setsProduct [.ref 77, .int a, .int b, .int c] h K E := by
  obtain ⟨d, rfl⟩ : ∃ e, d = e + 1 := ⟨d - 1, by omega⟩
  obtain ⟨z0, zb, zc⟩ := id z
  obtain ⟨a1, a2⟩ := isp_p z0
  obtain ⟨b1, b2⟩ := isp_p zb
  obtain ⟨c1, c2⟩ := isp_p zc
  refine w_X7_setsProduct (by omega) hs (t_begM (by omega) hs I L (fun h1 m1 om1 M1 P1 hm1 I1 F1 => ⟨rfl, F1.sg hs, ?_⟩))
  have hs1 := F1.sg hs
  have kb := I1.k b2
  have kc := I1.k c2
  obtain ⟨_, _, _, _, I3⟩ := id I1
  -- behind the number's product
  have main : ∀ (u4 u5 : Option Value) (s0 : Int64), (S.1 (pN b) = 2 → S.1 (pN c) = 2 → s0.toInt = S.2.2.1 (pN b) * S.2.2.1 (pN c)) → b_X7_setsProduct_33 d 77 a b c u4 u5 s0 h1 K E := by
    intro u4 u5 s0 hs0
    refine w_X7_setsProduct_33 (by omega) hs1 (t_X7_areBoth (by omega) hs1 b1 b2 c1 c2 (fun q1 q2 => ⟨1, rfl, hs1, fun v => absurd v n1_0, fun _ => ⟨i_Ix b1 b2, i_Ix c1 c2, ?_⟩⟩) (fun q => ⟨0, rfl, hs1, fun _ => t_X7_areBoth (by omega) hs1 b1 b2 c1 c2 (fun q1 q2 => ⟨1, rfl, hs1, fun v => absurd v n1_0, fun _ => ?_⟩) (fun q' => ⟨0, rfl, hs1, fun _ => t_X7_areBoth (by omega) hs1 b1 b2 c1 c2 (fun q1 q2 => ⟨1, rfl, hs1, fun v => absurd v n1_0, fun _ => ?_⟩) (fun q'' => ⟨0, rfl, hs1, fun _ => ?_, fun v => absurd rfl v⟩), fun v => absurd rfl v⟩), fun v => absurd rfl v⟩))
    · obtain ⟨i, i1, i2, i3⟩ := P1 _ b2 q1
      obtain ⟨j, j1, j2, j3⟩ := P1 _ c2 q2
      rw [kb] at q1
      rw [kc] at q2
      rw [i_ix b1, i_ix c1]
      refine t_X7_multiplied (by omega) hs1 M1 i2 j2 i1 j1 (by omega) (fun r h2 m2 om2 x1 x2 x3 x4 x5 x6 => ⟨r, rfl, x4.sg hs1, ?_⟩)
      rw [i3, j3] at x6
      exact sets_ord (by omega) hs1 I1 P1 z0 F1 x1 x2 x4 x5 x6 (fun ok => f_product_1 z q1 q2 ok) rfl (fun nok => out2_2 z (fun v => nok (v.2.2.1 q1))) kk
    · rw [kb] at q1
      rw [kc] at q2
      have n1 := N _ b2 q1
      have n2 := N _ c2 q2
      have nm := mul_fit n1 n2
      have hv := hs0 q1 q2
      have jr := j_rem20 (x := s0) (by rw [hv]; omega)
      rw [hv] at jr
      refine ⟨fun w => kk.2 h1 (out2_2 z (fun v => w (jr.1.mpr (v.2.2.2.1 q1).1))) I1 F1, fun w => ?_⟩
      have w2 := jr.1.mp (Classical.not_not.mp w)
      exact t_X7_setsNumber (by omega) hs1 I1 a1 a2 (jr.2 w2) (fun f h2 I2 F2 t2 => ⟨1, rfl, F2.sg hs1, fun v => absurd v n1_0, fun _ => kk.1 2 _ h2 (f_product_2 z q1 q2 ⟨w2, f⟩) (by rw [show (sN S (pN a) (S.2.2.1 (pN b) * S.2.2.1 (pN c) / 1048576)).1 (pN a) = 2 from upw_e _ _ _]; rfl) I2 (F1.tr F2)⟩) (fun f => ⟨0, rfl, hs1, fun _ => kk.2 h1 (out2_2 z (fun v => f (v.2.2.2.1 q1).2)) I1 F1, fun v => absurd rfl v⟩)
    · rw [kb] at q1
      rw [kc] at q2
      have V1 := V _ b2 q1
      have V2 := V _ c2 q2
      refine t_X7_multiplies (by omega) hs1 b1 b2 c1 c2 ((I3 _ b2).2.2 q1) V1 ((I3 _ c2).2.2 q2) V2 (fun f h2 M2 F2 => ⟨1, rfl, F2.sg hs1, ?_⟩) (fun f h2 M2 F2 => ⟨0, rfl, F2.sg hs1, ?_⟩)
      · obtain ⟨d1, d2, d3⟩ := I1.fg F2
        exact t_X7_setsGrowth (by omega) (F2.sg hs1) d1 a1 a2 M2 (fun _ _ h4 I4 F4 t4 => ⟨1, rfl, F4.sg (F2.sg hs1), fun v => absurd v n1_0, fun _ => kk.1 3 _ h4 (f_product_3 z q1 q2 f) (by rw [show (sG S (pN a) (gnz (gmu (S.2.2.2 (pN c)) (S.2.2.2 (pN b)) []))).1 (pN a) = 3 from upw_e _ _ _]; rfl) I4 ((F1.tr d2).tr F4)⟩) (fun v => absurd v n1_0) (Or.inr ⟨rfl, f⟩)
      · obtain ⟨d1, d2, d3⟩ := I1.fg F2
        exact t_X7_setsGrowth (by omega) (F2.sg hs1) d1 a1 a2 M2 (fun v => absurd v.symm n1_0) (fun _ => ⟨0, rfl, F2.sg hs1, fun _ => kk.2 h2 (out2_2 z (fun v => f (v.2.2.2.2 q1))) d1 (F1.tr d2), fun v => absurd rfl v⟩) (Or.inl rfl)
    · rw [kb, kc] at q q' q''
      refine kk.2 h1 (out2_2 z (fun v => ?_)) I1 F1
      rcases W _ b2 with w | w | w | w
      · exact v.1 w
      · exact q ⟨w, by rw [← v.2.1]; exact w⟩
      · exact q' ⟨w, by rw [← v.2.1]; exact w⟩
      · exact q'' ⟨w, by rw [← v.2.1]; exact w⟩
  refine t_X7_areBoth (by omega) hs1 b1 b2 c1 c2 (fun q1 q2 => ⟨1, rfl, hs1, fun v => absurd v n1_0, fun _ => ⟨i_Ix b1 b2, i_Ix c1 c2, main _ _ _ (fun w1 w2 => ?_)⟩⟩) (fun q => ⟨0, rfl, hs1, fun _ => main _ _ _ (fun w1 w2 => absurd ⟨by rw [kb]; exact w1, by rw [kc]; exact w2⟩ q), fun v => absurd rfl v⟩)
  have v1 := (I3 _ b2).2.1 w1
  have v2 := (I3 _ c2).2.1 w2
  have nm := mul_fit (N _ b2 w1) (N _ c2 w2)
  rw [i_ix b1, i_ix c1, j_mul (by rw [i_2j, i_2j, v1, v2]; omega) (by rw [i_2j, i_2j, v1, v2]; omega), i_2j, i_2j, v1, v2]
/-- a status told in the end -/
theorem told_end {a b c e : Int32} {f : XC} (hd : 22 ≤ d) (hs : Sg h.1 y) {h1 : XH} {o : XC} {S1 : XS} (F1 : FM h h1) (I1 : MI h1 S1) (hb : b = 0 ∨ b = 1) (hc : c = 0 ∨ c = 1) (e1 : b = 0 → o = (1, 0, S1)) (e2 : b = 1 → c = 0 → o = (2, 0, S1)) (e0 : b = 1 → c = 1 → isp a ∧ ∃ v, o = (0, v, S1) ∧ (S1.1 (pN a)).toInt = v) (kk : KM h 1 o K) : Ca d m_X7_told [.ref 77, .int a, .int b, .int c] h1 (fun rv h1 => ∃ x2, rv = some (.int x2) ∧ Sg h1.1 y ∧ K (some (.int x2)) h1) E := by
  have hs1 := F1.sg hs
  refine t_X7_told (by omega) hs1 I1 (fun z h2 I2 F2 t2 => ⟨0, rfl, F2.sg hs1, kk.b (e1 z) (by decide) I2 (F1.tr F2) (by rw [t2]; rfl) ⟨_, rfl, fun w => w.elim⟩⟩) (fun z w h2 I2 F2 t2 => ⟨0, rfl, F2.sg hs1, kk.b (e2 ?_ w) (by decide) I2 (F1.tr F2) (by rw [t2]; rfl) ⟨_, rfl, fun w => w.elim⟩⟩) (fun z w => ?_)
  · rcases hb with q | q
    · exact absurd q z
    · exact q
  · have b1 : b = 1 := by
      rcases hb with q | q
      · exact absurd q z
      · exact q
    have c1 : c = 1 := by
      rcases hc with q | q
      · exact absurd q w
      · exact q
    obtain ⟨za, v, ev, ek⟩ := e0 b1 c1
    exact ⟨za, fun h2 I2 F2 t2 => ⟨_, rfl, F2.sg hs1, kk.a ev I2 (F1.tr F2) t2 ⟨_, rfl, fun _ => ek⟩⟩⟩
theorem m_sum {a b c : Int32} (hd : 50 ≤ d) (hs : Sg h.1 y) (I : MI h S) (V : VG S) (W : VK S) (N : VN S) (L : LBS S) (kk : KM h 1 (f_sum a b c S) K) : Ca d m_X7_sum [.ref 77, .int a, .int b, .int c] h K E := by
  obtain ⟨d, rfl⟩ : ∃ e, d = e + 1 := ⟨d - 1, by omega⟩
  refine w_X7_sum (by omega) hs ⟨fun z => t_X7_setsSum (by omega) hs I V W N L z ⟨fun v S2 h2 eo ev I2 F2 => ⟨1, rfl, F2.sg hs, fun w => absurd w n1_0, fun _ => w_X7_sum_32 (by omega) (F2.sg hs) ?_⟩, fun h2 eo I2 F2 => ⟨0, rfl, F2.sg hs, fun _ => w_X7_sum_31 (by omega) (F2.sg hs) (w_X7_sum_32 (by omega) (F2.sg hs) ?_), fun w => absurd rfl w⟩⟩, fun z => w_X7_sum_31 (by omega) hs (w_X7_sum_32 (by omega) hs ?_)⟩
  · rw [bi_t z]
    exact told_end (e := 0) (f := (0, 0, S)) (by omega) hs F2 I2 (Or.inr rfl) (Or.inr rfl) (fun w => absurd w n1_0) (fun _ w => absurd w n1_0) (fun _ _ => ⟨z.1, v, eo, ev⟩) kk
  · rw [bi_t z]
    exact told_end (e := 0) (f := (0, 0, S)) (by omega) hs F2 I2 (Or.inr rfl) (Or.inl rfl) (fun w => absurd w n1_0) (fun _ _ => eo) (fun _ w => absurd w.symm n1_0) kk
  · rw [bi_f z]
    exact told_end (e := 0) (f := (0, 0, S)) (by omega) hs (FM.rf _) I (Or.inl rfl) (Or.inl rfl) (fun _ => out2_1 z) (fun w => absurd w.symm n1_0) (fun w => absurd w.symm n1_0) kk
theorem m_product {a b c : Int32} (hd : 50 ≤ d) (hs : Sg h.1 y) (I : MI h S) (V : VG S) (W : VK S) (N : VN S) (L : LBS S) (kk : KM h 1 (f_product a b c S) K) : Ca d m_X7_product [.ref 77, .int a, .int b, .int c] h K E := by
  obtain ⟨d, rfl⟩ : ∃ e, d = e + 1 := ⟨d - 1, by omega⟩
  refine w_X7_product (by omega) hs ⟨fun z => t_X7_setsProduct (by omega) hs I V W N L z ⟨fun v S2 h2 eo ev I2 F2 => ⟨1, rfl, F2.sg hs, fun w => absurd w n1_0, fun _ => w_X7_product_32 (by omega) (F2.sg hs) ?_⟩, fun h2 eo I2 F2 => ⟨0, rfl, F2.sg hs, fun _ => w_X7_product_31 (by omega) (F2.sg hs) (w_X7_product_32 (by omega) (F2.sg hs) ?_), fun w => absurd rfl w⟩⟩, fun z => w_X7_product_31 (by omega) hs (w_X7_product_32 (by omega) hs ?_)⟩
  · rw [bi_t z]
    exact told_end (e := 0) (f := (0, 0, S)) (by omega) hs F2 I2 (Or.inr rfl) (Or.inr rfl) (fun w => absurd w n1_0) (fun _ w => absurd w n1_0) (fun _ _ => ⟨z.1, v, eo, ev⟩) kk
  · rw [bi_t z]
    exact told_end (e := 0) (f := (0, 0, S)) (by omega) hs F2 I2 (Or.inr rfl) (Or.inl rfl) (fun w => absurd w n1_0) (fun _ _ => eo) (fun _ w => absurd w.symm n1_0) kk
  · rw [bi_f z]
    exact told_end (e := 0) (f := (0, 0, S)) (by omega) hs (FM.rf _) I (Or.inl rfl) (Or.inl rfl) (fun _ => out2_1 z) (fun w => absurd w.symm n1_0) (fun w => absurd w.symm n1_0) kk
theorem m_difference {a b c : Int32} (hd : 50 ≤ d) (hs : Sg h.1 y) (I : MI h S) (V : VG S) (W : VK S) (N : VN S) (kk : KM h 1 (f_difference a b c S) K) : Ca d m_X7_difference [.ref 77, .int a, .int b, .int c] h K E := by
  obtain ⟨d, rfl⟩ : ∃ e, d = e + 1 := ⟨d - 1, by omega⟩
  refine w_X7_difference (by omega) hs ⟨fun z => t_X7_setsDifference (by omega) hs I V W N z ⟨fun v S2 h2 eo ev I2 F2 => ⟨1, rfl, F2.sg hs, fun w => absurd w n1_0, fun _ => w_X7_difference_32 (by omega) (F2.sg hs) ?_⟩, fun h2 eo I2 F2 => ⟨0, rfl, F2.sg hs, fun _ => w_X7_difference_31 (by omega) (F2.sg hs) (w_X7_difference_32 (by omega) (F2.sg hs) ?_), fun w => absurd rfl w⟩⟩, fun z => w_X7_difference_31 (by omega) hs (w_X7_difference_32 (by omega) hs ?_)⟩
  · rw [bi_t z]
    exact told_end (e := 0) (f := (0, 0, S)) (by omega) hs F2 I2 (Or.inr rfl) (Or.inr rfl) (fun w => absurd w n1_0) (fun _ w => absurd w n1_0) (fun _ _ => ⟨z.1, v, eo, ev⟩) kk
  · rw [bi_t z]
    exact told_end (e := 0) (f := (0, 0, S)) (by omega) hs F2 I2 (Or.inr rfl) (Or.inl rfl) (fun w => absurd w n1_0) (fun _ _ => eo) (fun _ w => absurd w.symm n1_0) kk
  · rw [bi_f z]
    exact told_end (e := 0) (f := (0, 0, S)) (by omega) hs (FM.rf _) I (Or.inl rfl) (Or.inl rfl) (fun _ => out2_1 z) (fun w => absurd w.symm n1_0) (fun w => absurd w.symm n1_0) kk
end
