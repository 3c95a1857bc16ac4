/-! ===== layer 4: the law's deeds, natural, derive, step, descent, compare ===== -/
/-- what a comparison says -/
def cv (S : XS) (a b : Nat) : Int := if S.1 a = 1 then oc (S.2.1 a) (S.2.1 b) else if S.1 a = 2 then csg (S.2.2.1 a) (S.2.2.1 b) else gcp (S.2.2.2 a) (S.2.2.2 b)
theorem cv_sw {S : XS} {a b : Nat} (e : S.1 a = S.1 b) : cv S b a = - cv S a b := by
  unfold cv
  rw [← e]
  by_cases k1 : S.1 a = 1
  · rw [if_pos k1, if_pos k1]; exact oc_sw _ _
  · by_cases k2 : S.1 a = 2
    · rw [if_neg k1, if_pos k2, if_neg k1, if_pos k2]; exact csg_sw _ _
    · rw [if_neg k1, if_neg k2, if_neg k1, if_neg k2]; exact gcp_sw _ _
theorem cv_v (S : XS) (a b : Nat) : -1 ≤ cv S a b ∧ cv S a b ≤ 1 := by
  unfold cv
  by_cases k1 : S.1 a = 1
  · rw [if_pos k1]
    have := oc_val (S.2.1 a) (S.2.1 b)
    omega
  · by_cases k2 : S.1 a = 2
    · rw [if_neg k1, if_pos k2]; exact csg_v _ _
    · rw [if_neg k1, if_neg k2]; exact gcp_v _ _
theorem cmp_t {S : XS} {a b : Int32} (ha : isp a) (hb : isp b) (k0 : ¬ S.1 (pN a) = 0) (k1 : S.1 (pN a) = S.1 (pN b)) : f_compare a b S = (0, cv S (pN a) (pN b), S) := out2_0 ⟨ha, hb⟩ ⟨k0, k1⟩
theorem cmp_f {S : XS} {a b : Int32} (ha : isp a) (hb : isp b) (k : ¬ (¬ S.1 (pN a) = 0 ∧ S.1 (pN a) = S.1 (pN b))) : f_compare a b S = (2, 0, S) := out2_2 ⟨ha, hb⟩ k
theorem n10 : ¬ (1 : Int32) = 0 := by decide
theorem n20 : ¬ (2 : Int32) = 0 := by decide
/-- two ordinals compared -/
theorem cmp_o {S : XS} {a b : Int32} {v : Int} (ha : isp a) (hb : isp b) (k1 : S.1 (pN a) = 1) (k2 : S.1 (pN b) = 1) (hv : oc (S.2.1 (pN a)) (S.2.1 (pN b)) = v) : f_compare a b S = (0, v, S) := by
  rw [cmp_t ha hb (by rw [k1]; exact n10) (by rw [k1, k2]), cv, if_pos k1, hv]
theorem cmp_n {S : XS} {a b : Int32} {v : Int} (ha : isp a) (hb : isp b) (k1 : S.1 (pN a) = 2) (k2 : S.1 (pN b) = 2) (hv : csg (S.2.2.1 (pN a)) (S.2.2.1 (pN b)) = v) : f_compare a b S = (0, v, S) := by
  rw [cmp_t ha hb (by rw [k1]; exact n20) (by rw [k1, k2]), cv, if_neg (by rw [k1]; exact n2_1), if_pos k1, hv]
theorem i_neg {r s : Int32} {v : Int} (hr : r.toInt = v) (hs : s.toInt = -v) (hv : -1 ≤ v ∧ v ≤ 1) : s = -r := by
  rcases (show v = -1 ∨ v = 0 ∨ v = 1 by omega) with e | e | e
  · have r1 : r = -1 := i_eq (hr.trans e) rfl
    have s1 : s = 1 := i_eq (v := 1) (by rw [hs, e]; rfl) rfl
    rw [r1, s1]
    rfl
  · have r1 : r = 0 := i_eq (hr.trans e) rfl
    have s1 : s = 0 := i_eq (v := 0) (by rw [hs, e]; rfl) rfl
    rw [r1, s1]
    rfl
  · have r1 : r = 1 := i_eq (hr.trans e) rfl
    have s1 : s = -1 := i_eq (v := -1) (by rw [hs, e]) rfl
    rw [r1, s1]
section
variable {d L C X : Nat} {xs : Nat → Int32} {h : XH} {S : XS} {K : XK} {E : XE} {p a b l2 l4 l5 l6 l7 : Int32} {u3 u6 u7 u9 u10 u12 u13 u14 : Option Value} {u11 : Option Int32}
theorem cs_cmp (hd : 71 ≤ d) (hC : C + 10030 < 16384) (T : TE d L xs (C + 10) (X + 6) l4 l5 p K E) (J : LJ L xs C X h S) (ha : is9 a) (hb : is9 b) : b_L_law_1166 d 0 1 l2 u3 l4 l5 u6 u7 p a b u11 u12 u13 u14 h K E := by
  obtain ⟨y, hs⟩ := J.sg
  have hd0 : 70 ≤ d := by omega
  have e1 : (1 : Int32).toInt = 1 := rfl
  have em1 : (-1 : Int32).toInt = -1 := rfl
  refine w_L_law_1166 hd0 hs (q_cmp hd0 J (by omega) (fun r h2 J2 hr => ?_))
  by_cases k : ¬ S.1 (pN a) = 0 ∧ S.1 (pN a) = S.1 (pN b)
  · rw [cmp_t ha.p hb.p k.1 k.2] at J2 hr
    have hr : r.toInt = cv S (pN a) (pN b) := hr.trans (if_pos rfl)
    have hv := cv_v S (pN a) (pN b)
    have hsw := cv_sw (S := S) k.2
    have nr : ¬ r = -1013 := fun z => by
      rw [z] at hr
      have : (-1013 : Int32).toInt = -1013 := rfl
      omega
    refine ⟨fun _ => ⟨fun z => absurd (i_lt.mp z) (by omega), fun _ => ⟨fun z => absurd (i_lt.mp z) (by omega), fun _ => ?_⟩⟩, fun z => absurd nr z⟩
    refine q_cmp hd0 J2 (by omega) (fun r2 h3 J3 hr2 => ?_)
    rw [cmp_t hb.p ha.p (by rw [← k.2]; exact k.1) k.2.symm] at J3 hr2
    have hr2 : r2.toInt = - cv S (pN a) (pN b) := (hr2.trans (if_pos rfl)).trans hsw
    have rn : r2 = -r := i_neg hr hr2 hv
    obtain ⟨y3, hs3⟩ := J3.sg
    have go : ∀ (u12 : Option Value), b_L_law_1260 d 0 1 l2 u3 l4 l5 u6 u7 p (some (.int a)) (some (.int b)) u11 u12 u13 u14 h3 K E := fun u12 => w_L_law_1260 hd0 hs3 (w_L_law_1265 hd0 hs3 (T _ _ _ _ _ _ _ _ _ _ _ (J3.le (by omega) (by omega))))
    refine ⟨fun z => absurd rn z, fun _ => ⟨fun _ => go _, fun z => ⟨fun w => ?_, fun _ => go _⟩⟩⟩
    exfalso
    have z := Classical.not_not.mp z
    rw [← z] at hsw hr
    exact w (i_ne.mpr (by omega))
  · rw [cmp_f ha.p hb.p k] at J2 hr
    have r0 : r = -1013 := i_avS hr
    refine ⟨fun z => absurd r0 z, fun _ => q_kind hd0 J2 ha.p (fun h3 J3 => q_kind hd0 J3 hb.p (fun h4 J4 => ?_))⟩
    obtain ⟨y4, hs4⟩ := J4.sg
    refine ⟨fun _ => w_L_law_1211 hd0 hs4 (w_L_law_1265 hd0 hs4 (T _ _ _ _ _ _ _ _ _ _ _ (J4.le (by omega) (by omega)))), fun z => q_kind hd0 J4 ha.p (fun h5 J5 => ?_)⟩
    obtain ⟨y5, hs5⟩ := J5.sg
    refine ⟨fun w => absurd ⟨w, Classical.not_not.mp z⟩ k, fun _ => w_L_law_1211 hd0 hs5 (w_L_law_1265 hd0 hs5 (T _ _ _ _ _ _ _ _ _ _ _ (J5.le (by omega) (by omega))))⟩
theorem cs_der (hd : 71 ≤ d) (hC : C + 10030 < 16384) (T : TE d L xs (C + 10) (X + 6) l4 l5 p K E) (J : LJ L xs C X h S) (hp : is9 p) (ha : is9 a) : b_L_law_655 d 0 1 l2 u3 l4 l5 l6 19 p a b u11 u12 u13 u14 h K E := by
  obtain ⟨y, hs⟩ := J.sg
  have hd0 : 70 ≤ d := by omega
  refine w_L_law_655 hd0 hs ⟨fun z => absurd rfl z, fun _ => q_der hd0 J (by omega) (fun r h2 J2 hr => ?_)⟩
  obtain ⟨y2, hs2⟩ := J2.sg
  refine ⟨fun _ => w_L_law_698 hd0 hs2 (w_L_law_703 hd0 hs2 (T _ _ _ _ _ _ _ _ _ _ _ (J2.le (by omega) (by omega)))), fun nr => ?_⟩
  by_cases c : S.1 (pN a) = 3 ∧ gfit (gnz (gdv (S.2.2.2 (pN a)) []))
  · rw [show f_derive p a S = (0, 0, sG S (pN p) (gnz (gdv (S.2.2.2 (pN a)) []))) from out2_0 ⟨hp.p, ha.p⟩ c] at J2 hr
    have r0 : r = 0 := i_av hr rfl
    refine ⟨fun z => absurd r0 z, fun _ => q_kind hd0 J2 hp.p (fun h3 J3 => ?_)⟩
    obtain ⟨y3, hs3⟩ := J3.sg
    exact ⟨fun z => absurd (upw_e _ _ _) z, fun _ => w_L_law_698 hd0 hs3 (w_L_law_703 hd0 hs3 (T _ _ _ _ _ _ _ _ _ _ _ (J3.le (by omega) (by omega))))⟩
  · rw [show f_derive p a S = (2, 0, S) from out2_2 ⟨hp.p, ha.p⟩ c] at hr
    exact absurd (i_avS hr) nr
/-- behind a natural sum or product -/
theorem cs_587 {r : Int32} {v : Int32} (hd : 71 ≤ d) (hC : C + 10030 < 16384) (T : TE d L xs (C + 10) (X + 6) l4 l5 p K E) (J : LJ L xs (C + 9) (X + 1) h S) (hp : is9 p) (ha : is9 a) (hb : is9 b) (hr : ¬ r.toInt < 0 → ¬ v = 18 → ¬ p = a → ¬ p = b → S.1 (pN p) = 1 ∧ S.1 (pN a) = 1 ∧ S.1 (pN b) = 1 ∧ 0 ≤ oc (S.2.1 (pN p)) (S.2.1 (pN a)) ∧ 0 ≤ oc (S.2.1 (pN p)) (S.2.1 (pN b))) : b_L_law_587 d 0 1 l2 u3 l4 l5 u6 v p a b u11 r u13 u14 1 h K E := by
  obtain ⟨y, hs⟩ := J.sg
  have hd0 : 70 ≤ d := by omega
  have fin : ∀ {h2 : XH} {X2 : Nat} {u3 u6 u7 u9 u10 u12 u13 u14 : Option Value} {u11 : Option Int32}, X2 ≤ X + 6 → LJ L xs (C + 9) X2 h2 S → b_L_law_646 d 0 1 l2 u3 l4 l5 u6 u7 p u9 u10 u11 u12 u13 u14 h2 K E := by
    intro h2 X2 u3 u6 u7 u9 u10 u12 u13 u14 u11 hX J2
    obtain ⟨y2, hs2⟩ := J2.sg
    exact w_L_law_646 hd0 hs2 (w_L_law_651 hd0 hs2 (T _ _ _ _ _ _ _ _ _ _ _ (J2.le (by omega) (by omega))))
  refine w_L_law_587 hd0 hs ⟨fun z => absurd z (by decide), fun _ => ⟨fun _ => fin (by omega) J, fun n0 => ⟨fun _ => fin (by omega) J, fun na => ⟨fun _ => fin (by omega) J, fun nb => ⟨fun _ => fin (by omega) J, fun nv => ?_⟩⟩⟩⟩⟩
  obtain ⟨k1, k2, k3, o1, o2⟩ := hr (fun z => n0 (i_lt.mpr (by rw [i_0]; exact z))) nv na nb
  refine q_cmp hd0 J (by omega) (fun r2 h2 J2 hr2 => ?_)
  rw [cmp_o hp.p ha.p k1 k2 rfl] at J2 hr2
  have hr2 : r2.toInt = oc (S.2.1 (pN p)) (S.2.1 (pN a)) := hr2.trans (if_pos rfl)
  refine ⟨fun z => absurd (i_lt.mp z) (by rw [i_0]; omega), fun _ => q_cmp hd0 J2 (by omega) (fun r3 h3 J3 hr3 => ?_)⟩
  rw [cmp_o hp.p hb.p k1 k3 rfl] at J3 hr3
  have hr3 : r3.toInt = oc (S.2.1 (pN p)) (S.2.1 (pN b)) := hr3.trans (if_pos rfl)
  exact ⟨fun z => absurd (i_lt.mp z) (by rw [i_0]; omega), fun _ => fin (X2 := X + 1 + 1 + 1) (by omega) J3⟩
theorem cs_nat (hd : 71 ≤ d) (hC : C + 10030 < 16384) (T : TE d L xs (C + 10) (X + 6) l4 l5 p K E) (J : LJ L xs C X h S) (hp : is9 p) (ha : is9 a) (hb : is9 b) (h7 : l7 = 17 ∨ l7 = 18) : b_L_law_535 d 0 1 l2 u3 l4 l5 l6 l7 p a b u11 u12 u13 u14 h K E := by
  obtain ⟨y, hs⟩ := J.sg
  have hd0 : 70 ≤ d := by omega
  have hpn := hp.n
  have han := ha.n
  have hbn := hb.n
  have pne : ∀ {q : Int32}, is9 q → ¬ p = q → ¬ pN q = pN p := fun hq z w => z (hp.i hq w.symm)
  rcases h7 with rfl | rfl
  · refine w_L_law_535 hd0 hs ⟨fun z => absurd z (by decide), fun _ => ?_⟩
    show Ca d m_L_ask [.ref 1, .int 4, .int p, .int a, .int b] h _ E
    refine q_nat0 hd0 J (by omega) (fun r h2 J2 hr => ?_)
    obtain ⟨y2, hs2⟩ := J2.sg
    by_cases c : S.1 (pN a) = 1 ∧ S.1 (pN b) = 1 ∧ okm (naO (S.2.1 (pN a)) (S.2.1 (pN b)))
    · have ef : f_natural p a b 0 S = (0, 0, sO S (pN p) (naO (S.2.1 (pN a)) (S.2.1 (pN b)))) := by
        rw [f_natural, if_pos rfl, if_pos rfl, out2_0 ⟨hp.p, ha.p, hb.p⟩ c]
      rw [ef] at J2 hr
      have r0 : r = 0 := i_av hr rfl
      subst r0
      have hge := naO_ge (x := S.2.1 (pN a)) (y := S.2.1 (pN b)) (J.gd (by omega) c.2.1).1
      have k1 : (sO S (pN p) (naO (S.2.1 (pN a)) (S.2.1 (pN b)))).1 (pN p) = 1 := upw_e _ _ _
      have fin : ∀ {h2 : XH} {u3 u6 u13 u14 : Option Value} {u11 : Option Int32}, LJ L xs (C + 9) (X + 1) h2 (sO S (pN p) (naO (S.2.1 (pN a)) (S.2.1 (pN b)))) → b_L_law_582 d 0 1 l2 u3 l4 l5 u6 17 p a b u11 0 u13 u14 h2 K E := by
        intro h2 u3 u6 u13 u14 u11 J3
        obtain ⟨y3, hs3⟩ := J3.sg
        refine w_L_law_582 hd0 hs3 (cs_587 hd hC T J3 hp ha hb (fun _ _ na nb => ?_))
        have n1 := pne ha na
        have n2 := pne hb nb
        refine ⟨k1, (upw_n S.1 1 n1).trans c.1, (upw_n S.1 1 n2).trans c.2.1, ?_, ?_⟩
        · rw [show (sO S (pN p) (naO (S.2.1 (pN a)) (S.2.1 (pN b)))).2.1 (pN p) = _ from upw_e S.2.1 _ _, show (sO S (pN p) (naO (S.2.1 (pN a)) (S.2.1 (pN b)))).2.1 (pN a) = _ from upw_n S.2.1 _ n1]
          exact hge.1
        · rw [show (sO S (pN p) (naO (S.2.1 (pN a)) (S.2.1 (pN b)))).2.1 (pN p) = _ from upw_e S.2.1 _ _, show (sO S (pN p) (naO (S.2.1 (pN a)) (S.2.1 (pN b)))).2.1 (pN b) = _ from upw_n S.2.1 _ n2]
          exact hge.2
      exact ⟨fun _ => fin J2, fun _ => ⟨fun z => absurd rfl z, fun _ => q_kind hd0 J2 hp.p (fun h3 J3 => ⟨fun z => absurd k1 z, fun _ => fin J3⟩)⟩⟩
    · have ef : f_natural p a b 0 S = (2, 0, S) := by
        rw [f_natural, if_pos rfl, if_pos rfl, out2_2 ⟨hp.p, ha.p, hb.p⟩ c]
      rw [ef] at J2 hr
      have r0 : r = -1013 := i_avS hr
      subst r0
      exact ⟨fun _ => w_L_law_582 hd0 hs2 (cs_587 hd hC T J2 hp ha hb (fun z => absurd (by decide) z)), fun z => absurd rfl z⟩
  · refine w_L_law_535 hd0 hs ⟨fun z => absurd z (by decide), fun _ => ?_⟩
    show Ca d m_L_ask [.ref 1, .int 5, .int p, .int a, .int b] h _ E
    refine q_nat1 hd0 J (by omega) (fun r h2 J2 hr => ?_)
    obtain ⟨y2, hs2⟩ := J2.sg
    have h1 : ¬ (1 : Int32) = 0 := by decide
    by_cases c : S.1 (pN a) = 1 ∧ S.1 (pN b) = 1 ∧ nmok (S.2.1 (pN a)) (S.2.1 (pN b))
    · have ef : f_natural p a b 1 S = (0, 0, sO S (pN p) (nmO (S.2.1 (pN a)) (S.2.1 (pN b)))) := by
        rw [f_natural, if_neg h1, if_neg h1, out2_0 ⟨hp.p, ha.p, hb.p⟩ c]
      rw [ef] at J2 hr
      have r0 : r = 0 := i_av hr rfl
      subst r0
      have k1 : (sO S (pN p) (nmO (S.2.1 (pN a)) (S.2.1 (pN b)))).1 (pN p) = 1 := upw_e _ _ _
      have fin : ∀ {h2 : XH} {u3 u6 u13 u14 : Option Value} {u11 : Option Int32}, LJ L xs (C + 9) (X + 1) h2 (sO S (pN p) (nmO (S.2.1 (pN a)) (S.2.1 (pN b)))) → b_L_law_582 d 0 1 l2 u3 l4 l5 u6 18 p a b u11 0 u13 u14 h2 K E := by
        intro h2 u3 u6 u13 u14 u11 J3
        obtain ⟨y3, hs3⟩ := J3.sg
        exact w_L_law_582 hd0 hs3 (cs_587 hd hC T J3 hp ha hb (fun _ z => absurd rfl z))
      exact ⟨fun _ => fin J2, fun _ => ⟨fun z => absurd rfl z, fun _ => q_kind hd0 J2 hp.p (fun h3 J3 => ⟨fun z => absurd k1 z, fun _ => fin J3⟩)⟩⟩
    · have ef : f_natural p a b 1 S = (2, 0, S) := by
        rw [f_natural, if_neg h1, if_neg h1, out2_2 ⟨hp.p, ha.p, hb.p⟩ c]
      rw [ef] at J2 hr
      have r0 : r = -1013 := i_avS hr
      subst r0
      exact ⟨fun _ => w_L_law_582 hd0 hs2 (cs_587 hd hC T J2 hp ha hb (fun z => absurd (by decide) z)), fun z => absurd rfl z⟩
theorem stp_t {q a n : Int32} (hq : isp q) (ha : isp a) (hn : 1 ≤ n.toInt ∧ n.toInt ≤ 99) (c : S.1 (pN a) = 1 ∧ ¬ S.2.1 (pN a) = .leaf ∧ stpok n.toInt.toNat 5 (S.2.1 (pN a))) : f_step q a n S = (0, 0, sO S (pN q) (stpF n.toInt.toNat 5 (S.2.1 (pN a)))) := out3_0 ⟨hq, ha⟩ hn c
theorem stp_f {q a n : Int32} (hq : isp q) (ha : isp a) (hn : 1 ≤ n.toInt ∧ n.toInt ≤ 99) (c : ¬ (S.1 (pN a) = 1 ∧ ¬ S.2.1 (pN a) = .leaf ∧ stpok n.toInt.toNat 5 (S.2.1 (pN a)))) : f_step q a n S = (3, 0, S) := out3_3 ⟨hq, ha⟩ hn c
theorem isp9 : isp (9 : Int32) := by decide
theorem pN9 : pN (9 : Int32) = 9 := rfl
theorem hC_le {C D : Nat} (h : C + 10030 < 16384) (e : D ≤ C + 10) : D + 10020 < 16384 := by omega
theorem cs_784 {r n : Int32} (hd : 71 ≤ d) (hC : C + 10030 < 16384) (T : TE d L xs (C + 10) (X + 6) l4 l5 p K E) (J : LJ L xs (C + 5) (X + 3) h S) (hp : is9 p) (ha : is9 a) (hnn : 1 + ((l6 >>> ((12 : Int32) &&& 31)) - (l6 >>> ((12 : Int32) &&& 31)) / 20 * 20) = n) (hn : 1 ≤ n.toInt ∧ n.toInt ≤ 99) (hr : r = 0 → (S.1 (pN a) = 1 ∧ ¬ S.2.1 (pN a) = .leaf ∧ stpok n.toInt.toNat 5 (S.2.1 (pN a))) ∧ S.1 9 = 1 ∧ S.2.1 9 = stpF n.toInt.toNat 5 (S.2.1 (pN a))) : b_L_law_784 d 0 1 l2 u3 l4 l5 l6 u7 p a u10 u11 r u13 u14 1 h K E := by
  have hC1 : C + 5 + 10020 < 16384 := by omega
  have hC2 : C + 5 + 5 + 10020 < 16384 := hC_le hC (by omega)
  obtain ⟨y, hs⟩ := J.sg
  have hd0 : 70 ≤ d := by omega
  have hpn := hp.n
  have fin : ∀ {h2 : XH} {S2 : XS} {C2 X2 : Nat} {u3 u6 u7 u9 u10 u12 u13 u14 : Option Value} {u11 : Option Int32}, C2 ≤ C + 10 → X2 ≤ X + 6 → LJ L xs C2 X2 h2 S2 → b_L_law_831 d 0 1 l2 u3 l4 l5 u6 u7 p u9 u10 u11 u12 u13 u14 h2 K E := by
    intro h2 S2 C2 X2 u3 u6 u7 u9 u10 u12 u13 u14 u11 hC2 hX J2
    obtain ⟨y2, hs2⟩ := J2.sg
    exact w_L_law_831 hd0 hs2 (w_L_law_836 hd0 hs2 (T _ _ _ _ _ _ _ _ _ _ _ (J2.le hC2 hX)))
  refine w_L_law_784 hd0 hs ⟨fun z => absurd z (by decide), fun _ => ⟨fun _ => fin (by omega) (by omega) J, fun r0 => ?_⟩⟩
  have r0 := Classical.not_not.mp r0
  obtain ⟨c, k9, v9⟩ := hr r0
  subst r0
  rw [hnn]
  refine q_stp hd0 J hC1 (fun r2 h2 J2 hr2 => ?_)
  rw [stp_t hp.p ha.p hn c] at J2 hr2
  have e2 : r2 = 0 := i_av hr2 rfl
  clear hr2
  refine ⟨fun z => absurd e2 z, fun _ => ?_⟩
  have n9 : ¬ (9 : Nat) = pN p := by omega
  generalize hz : stpF n.toInt.toNat 5 (S.2.1 (pN a)) = z at J2 v9
  have k9' : (sO S (pN p) z).1 (pN (9 : Int32)) = 1 := by
    rw [pN9]
    exact (upw_n S.1 1 n9).trans k9
  have v9' : (sO S (pN p) z).2.1 (pN (9 : Int32)) = z := by
    rw [pN9]
    exact (upw_n S.2.1 z n9).trans v9
  have vp : (sO S (pN p) z).2.1 (pN p) = z := upw_e S.2.1 _ z
  clear n9 hpn
  refine q_cmp hd0 J2 hC2 (fun r3 h3 J3 hr3 => ?_)
  rw [cmp_o hp.p isp9 (upw_e S.1 _ 1) k9' (v := 0) (by rw [vp, v9']; exact oc_self _)] at J3 hr3
  have e3 : r3 = 0 := i_av hr3 rfl
  clear hr3
  exact ⟨fun z => absurd e3 z, fun _ => fin (C2 := C + 5 + 5 + 0) (X2 := X + 3 + 1 + 1) (by omega) (by omega) J3⟩
theorem cs_stp (hd : 71 ≤ d) (hC : C + 10030 < 16384) (T : TE d L xs (C + 10) (X + 6) l4 l5 p K E) (J : LJ L xs C X h S) (hp : is9 p) (ha : is9 a) (h6 : 0 ≤ l6.toInt) (h7 : l7.toInt < 23) : b_L_law_707 d 0 1 l2 u3 l4 l5 l6 l7 p a b u11 u12 u13 u14 h K E := by
  obtain ⟨y, hs⟩ := J.sg
  have hd0 : 70 ≤ d := by omega
  have han := ha.n
  have e23 : (23 : Int32).toInt = 23 := rfl
  have hn0 := i_am (k := 20) (n := 20) (m := 1) (q := 1) (i_shn h6 sh12) rfl (by omega) rfl (by omega)
  obtain ⟨n, hnn⟩ : ∃ n, 1 + ((l6 >>> ((12 : Int32) &&& 31)) - (l6 >>> ((12 : Int32) &&& 31)) / 20 * 20) = n := ⟨_, rfl⟩
  rw [hnn] at hn0
  have hn : 1 ≤ n.toInt ∧ n.toInt ≤ 99 := ⟨hn0.1, by have := hn0.2; clear h6; omega⟩
  clear hn0
  refine w_L_law_707 hd0 hs ⟨fun z => absurd (i_le.mp z) (by rw [e23]; clear hn h6; omega), fun _ => ?_⟩
  rw [hnn]
  refine q_stp hd0 J (by clear hn h6; omega) (fun r h2 J2 hr => ?_)
  obtain ⟨y2, hs2⟩ := J2.sg
  by_cases c : S.1 (pN a) = 1 ∧ ¬ S.2.1 (pN a) = .leaf ∧ stpok n.toInt.toNat 5 (S.2.1 (pN a))
  · rw [stp_t isp9 ha.p hn c, pN9] at J2 hr
    have r0 : r = 0 := i_av hr rfl
    subst r0
    have n9 : ¬ pN a = 9 := by clear hn h6; omega
    have hg := J.gd (p := pN a) (by clear hn h6; omega) c.1
    have hlt : oc (S.2.1 (pN a)) (stpF n.toInt.toNat 5 (S.2.1 (pN a))) = 1 := by
      refine (stp_lt _ ?_ 5 _ hg.2.2.2 hg.1).2 c.2.1
      omega
    have go : ∀ {h3 : XH} {X2 : Nat} {u3 u7 u10 u13 u14 : Option Value} {u11 : Option Int32}, X2 ≤ X + 3 → LJ L xs (C + 5) X2 h3 (sO S 9 (stpF n.toInt.toNat 5 (S.2.1 (pN a)))) → b_L_law_779 d 0 1 l2 u3 l4 l5 l6 u7 p a u10 u11 0 u13 u14 h3 K E := by
      intro h3 X2 u3 u7 u10 u13 u14 u11 hX J3
      obtain ⟨y3, hs3⟩ := J3.sg
      refine w_L_law_779 hd0 hs3 (cs_784 hd hC T (J3.le (Nat.le_refl _) hX) hp ha hnn hn (fun _ => ?_))
      have va : (sO S 9 (stpF n.toInt.toNat 5 (S.2.1 (pN a)))).2.1 (pN a) = S.2.1 (pN a) := upw_n S.2.1 _ n9
      rw [va]
      exact ⟨⟨(upw_n S.1 1 n9).trans c.1, c.2⟩, upw_e S.1 9 1, upw_e S.2.1 9 _⟩
    refine ⟨fun _ => go (by clear hn h6; omega) J2, fun _ => ⟨fun z => absurd rfl z, fun _ => ?_⟩⟩
    generalize hz : stpF n.toInt.toNat 5 (S.2.1 (pN a)) = z at J2 hlt go
    have k9 : (sO S 9 z).1 (pN (9 : Int32)) = 1 := by rw [pN9]; exact upw_e S.1 9 1
    have ka : (sO S 9 z).1 (pN a) = 1 := (upw_n S.1 1 n9).trans c.1
    have v9 : (sO S 9 z).2.1 (pN (9 : Int32)) = z := by rw [pN9]; exact upw_e S.2.1 9 z
    have va : (sO S 9 z).2.1 (pN a) = S.2.1 (pN a) := upw_n S.2.1 z n9
    refine q_cmp hd0 J2 (by clear hn h6; omega) (fun r2 h3 J3 hr2 => ?_)
    rw [cmp_o isp9 ha.p k9 ka (v := -1) (by rw [v9, va]; exact oc_asym hlt)] at J3 hr2
    have e2 : r2 = -1 := i_av hr2 rfl
    refine ⟨fun w => absurd e2 w, fun _ => q_cmp hd0 J3 (by clear hn h6; omega) (fun r3 h4 J4 hr3 => ?_)⟩
    rw [cmp_o ha.p isp9 ka k9 (v := 1) (by rw [v9, va]; exact hlt)] at J4 hr3
    have e3 : r3 = 1 := i_av hr3 rfl
    exact ⟨fun w => absurd e3 w, fun _ => go (X2 := X + 1 + 1 + 1) (by clear hn h6; omega) J4⟩
  · rw [stp_f isp9 ha.p hn c] at J2 hr
    have r0 : r = -1013 := i_avI hr
    subst r0
    exact ⟨fun _ => w_L_law_779 hd0 hs2 (cs_784 hd hC T (J2.le (Nat.le_refl _) (by clear hn h6; omega)) hp ha hnn hn (fun z => absurd z (by decide))), fun z => absurd rfl z⟩
end
