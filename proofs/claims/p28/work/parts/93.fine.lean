/-! ===== layer 4: isFine answers true ===== -/
theorem i_half {x : Int32} {k : Nat} (h : x.toInt = k) : (x - x / 2 * 2).toInt = (k % 2 : Nat) := by
  have e2 : (2 : Int32).toInt = 2 := rfl
  have q : (x / 2).toInt = (k / 2 : Nat) := by
    rw [Int32.toInt_div_of_ne_right x 2 (by decide), e2, h]
    show ((k : Int).tdiv ((2 : Nat) : Int)) = _
    rw [← Int.ofNat_tdiv]
  have b := i_hi x
  have m : (x / 2 * 2).toInt = (k / 2 : Nat) * 2 := by
    rw [i_mul (by rw [q, e2]; omega) (by rw [q, e2]; omega), q, e2]
  rw [i_sub (by rw [m]; omega) (by rw [m]; omega), m, h]
  omega
section
variable {d L C X XX : Nat} {xs : Nat → Int32} {h : XH} {S : XS} {K : XK} {E : XE} {p : Int32}
theorem fine_o (hd : 70 ≤ d) (hC : C + 10020 < 16384) (hp : is9 p) {x : O} (hg : gd x) {u2 : Option Int32} {l4 : Int32} {u6 u7 u8 u9 u10 : Option Value} (h4 : l4.toInt = ((pl x).length : Nat)) (kk : ∀ h2 S2, LJ L xs C XX h2 S2 → K (some (.int 1)) h2) : ∀ (m k X : Nat) (h : XH) (S : XS) (l5 : Int32), LJ L xs C X h S → X + 2 * m ≤ XX → l5.toInt = k → k + m = (pl x).length → S.1 (pN p) = 1 → S.2.1 (pN p) = x → (1 ≤ k → S.1 (14 + (k - 1) % 2) = 1 ∧ ∃ q, (pl x)[k - 1]? = some q ∧ S.2.1 (14 + (k - 1) % 2) = q.1) → b_L_isFine_41 d 1 p u2 1 l4 l5 u6 u7 u8 u9 u10 h K E := by
  have hl8 : (pl x).length ≤ 8 := hg.2.1
  intro m
  induction m with
  | zero =>
    intro k X h S l5 J hX h5 hm hk hv hq
    obtain ⟨y, hs⟩ := J.sg
    exact w_L_isFine_41 hd hs ⟨fun z => ⟨Or.inr rfl, kk h S (J.le (Nat.le_refl _) (by omega))⟩, fun z => absurd (i_le.mpr (by omega)) z⟩
  | succ m ih =>
    intro k X h S l5 J hX h5 hm hk hv hq
    obtain ⟨y, hs⟩ := J.sg
    have hkl : k < (pl x).length := by omega
    obtain ⟨⟨e, n⟩, he⟩ : ∃ q, (pl x)[k]? = some q := ⟨_, List.getElem?_eq_getElem hkl⟩
    have hsr := nf_srt _ hg.1
    have hn1 := srt_1 hsr (List.mem_of_getElem? he)
    have hn2 := gd_tm hg he
    dsimp only at hn1
    have he2 : (pl (S.2.1 (pN p)))[k]? = some (e, n) := by rw [hv]; exact he
    have e1 : (1 : Int64).toInt = 1 := rfl
    have e6 : (1000000 : Int64).toInt = 1000000 := rfl
    have e14 : (14 : Int32).toInt = 14 := rfl
    have hh := i_half h5
    have h14 : (14 + (l5 - l5 / 2 * 2)).toInt = (14 + k % 2 : Nat) := by
      rw [i_add (by rw [hh, e14]; omega) (by rw [hh, e14]; omega), hh, e14]
      omega
    have hpn : pN (14 + (l5 - l5 / 2 * 2)) = 14 + k % 2 := by
      show (14 + (l5 - l5 / 2 * 2)).toInt.toNat = _
      rw [h14]
      omega
    have hpi : isp (14 + (l5 - l5 / 2 * 2)) := isp_of (by omega)
    have hpp := hp.n
    refine w_L_isFine_41 hd hs ⟨fun z => absurd (i_le.mp z) (by omega), fun _ => ⟨fun z => absurd z (by decide), fun _ => ?_⟩⟩
    refine q_times hd J hp.p hk h5 he2 (fun r h2 J2 hr => ⟨fun z => absurd (j_lt.mp z) (by omega), fun _ => ?_⟩)
    refine q_times hd J2 hp.p hk h5 he2 (fun r2 h3 J3 hr2 => ⟨fun z => absurd (j_lt.mp z) (by omega), fun _ => ?_⟩)
    refine q_exp hd J3 hC (fun r3 h4x J4 hr3 => ?_)
    have ef : f_exponent (14 + (l5 - l5 / 2 * 2)) p l5 S = (0, 0, sO S (14 + k % 2) e) := by
      rw [f_exponent, out2_0 ⟨hpi, hp.p, by omega⟩ ⟨hk, by rw [hv]; omega⟩, hpn, show l5.toInt.toNat = k by omega, he2]
      rfl
    rw [ef] at J4 hr3
    have r0 : r3 = 0 := i_eq hr3 rfl
    subst r0
    have w1 : (sO S (14 + k % 2) e).1 (pN p) = 1 := (upw_n S.1 1 (by omega)).trans hk
    have w2 : (sO S (14 + k % 2) e).2.1 (pN p) = x := (upw_n S.2.1 e (by omega)).trans hv
    have w3 : (sO S (14 + k % 2) e).1 (14 + k % 2) = 1 := upw_e S.1 _ 1
    have w4 : (sO S (14 + k % 2) e).2.1 (14 + k % 2) = e := upw_e S.2.1 _ e
    have h51 : (l5 + 1).toInt = (k + 1 : Nat) := by
      rw [i_add (by rw [i_1]; omega) (by rw [i_1]; omega), i_1]
      omega
    have go : ∀ (h2 : XH) (X2 : Nat), X2 ≤ X + 2 → LJ L xs C X2 h2 (sO S (14 + k % 2) e) → b_L_isFine_129 d 1 p u2 (some (.int 1)) l4 l5 u6 u7 u8 u9 u10 h2 K E := by
      intro h2 X2 hX2 J5
      obtain ⟨y5, hs5⟩ := J5.sg
      exact w_L_isFine_129 hd hs5 (w_L_isFine_134 hd hs5 (ih (k + 1) X2 h2 _ (l5 + 1) J5 (by omega) h51 (by omega) w1 w2 (fun _ => ⟨w3, _, he, w4⟩)))
    refine ⟨fun z => absurd rfl z, fun _ => ⟨fun z => go h4x (X + 1) (by omega) J4, fun z => ?_⟩⟩
    have hk1 : 1 ≤ k := by
      rcases Nat.eq_zero_or_pos k with w | w
      · exact absurd (i_ne.mpr (by omega)) z
      · exact w
    obtain ⟨v1, q, v2, v3⟩ := hq hk1
    have hoc : oc q.1 e = 1 := srt_at hsr v2 (by rw [show k - 1 + 1 = k by omega]; exact he)
    refine q_cmp hd J4 hC (fun r4 h5x J5 hr4 => ?_)
    have p14 : pN (14 : Int32) = 14 := rfl
    have p15 : pN (15 : Int32) = 15 := rfl
    have i14 : isp (14 : Int32) := by decide
    have i15 : isp (15 : Int32) := by decide
    rcases Nat.mod_two_eq_zero_or_one k with par | par
    · have par2 : (k - 1) % 2 = 1 := by omega
      rw [par] at w3 w4 hr4 J5
      rw [par2] at v1 v3
      have k15 : (sO S (14 + 0) e).1 15 = 1 := (upw_n S.1 (p := 14 + 0) (q := 15) 1 (by omega)).trans v1
      have x15 : (sO S (14 + 0) e).2.1 15 = q.1 := (upw_n S.2.1 (p := 14 + 0) (q := 15) e (by omega)).trans v3
      have ec : f_compare 14 15 (sO S (14 + 0) e) = (0, -1, sO S (14 + 0) e) := by
        rw [f_compare, p14, p15, show (sO S (14 + 0) e).1 14 = 1 from w3, k15, show (sO S (14 + 0) e).2.1 14 = e from w4, x15, out2_0 ⟨i14, i15⟩ ⟨by decide, rfl⟩, if_pos rfl, oc_asym hoc]
      rw [ec] at J5 hr4
      have r1 : r4 = -1 := i_eq hr4 rfl
      subst r1
      obtain ⟨y5, hs5⟩ := J5.sg
      have ne1 : ¬ (l5 - l5 / 2 * 2) = 1 := fun w => by rw [w, i_1] at hh; omega
      exact ⟨fun _ => w_L_isFine_126 hd hs5 ⟨fun w => absurd rfl w, fun _ => go h5x (X + 1 + 1) (by omega) (by rw [par]; exact J5)⟩, fun w => absurd ne1 w⟩
    · have par2 : (k - 1) % 2 = 0 := by omega
      rw [par] at w3 w4 hr4 J5
      rw [par2] at v1 v3
      have k14 : (sO S (14 + 1) e).1 14 = 1 := (upw_n S.1 (p := 14 + 1) (q := 14) 1 (by omega)).trans v1
      have x14 : (sO S (14 + 1) e).2.1 14 = q.1 := (upw_n S.2.1 (p := 14 + 1) (q := 14) e (by omega)).trans v3
      have ec : f_compare 14 15 (sO S (14 + 1) e) = (0, 1, sO S (14 + 1) e) := by
        rw [f_compare, p14, p15, show (sO S (14 + 1) e).1 15 = 1 from w3, k14, show (sO S (14 + 1) e).2.1 15 = e from w4, x14, out2_0 ⟨i14, i15⟩ ⟨by decide, rfl⟩, if_pos rfl, hoc]
      rw [ec] at J5 hr4
      have r1 : r4 = 1 := i_eq hr4 rfl
      subst r1
      obtain ⟨y5, hs5⟩ := J5.sg
      have eq1 : (l5 - l5 / 2 * 2) = 1 := i_eq hh (by rw [par]; rfl)
      exact ⟨fun w => absurd eq1 w, fun _ => w_L_isFine_126 hd hs5 ⟨fun w => absurd rfl w, fun _ => go h5x (X + 1 + 1) (by omega) (by rw [par]; exact J5)⟩⟩
theorem fine_s (hd : 70 ≤ d) (J : LJ L xs C X h S) (hp : is9 p) (hk : S.1 (pN p) = 3) {m i : Nat} {g : GE} {n w : Int} {u2 : Option Int32} {u3 : Option Value} {l4 l7 l10 : Int32} {l5 l8 : Int64} (hm : (S.2.2.2 (pN p))[m]? = some (g, n)) (h7 : l7.toInt = m) (h10 : l10.toInt = i) (hi : 1 ≤ i ∧ i ≤ 4) (h8 : l8.toInt = w) (hw : -1000000000000 ≤ w ∧ w ≤ 1000000000000) (hg : -99 ≤ gex i g ∧ gex i g ≤ 99) (next : ∀ h2 (l8b : Int64) (l10b : Int32), LJ L xs C X h2 S → l8b.toInt = 1000 * w + gex i g + 500 → l10b.toInt = (i + 1 : Nat) → b_L_isFine_306 d 1 p u2 u3 l4 l5 l7 l8b l10b h2 K E) : b_L_isFine_306 d 1 p u2 u3 l4 l5 l7 l8 l10 h K E := by
  obtain ⟨y, hs⟩ := J.sg
  have e5 : (5 : Int32).toInt = 5 := rfl
  have e1000 : (1000 : Int64).toInt = 1000 := rfl
  have e500 : (500 : Int64).toInt = 500 := rfl
  refine w_L_isFine_306 hd hs ⟨fun z => absurd (i_le.mp z) (by omega), fun _ => ?_⟩
  refine q_part hd J hp.p hk h7 hm h10 hi.2 (fun r h2 J2 hr => next h2 _ _ J2 ?_ ?_)
  · rw [if_neg (by omega)] at hr
    have a1 : (1000 * l8).toInt = 1000 * w := by rw [j_mul (by rw [e1000, h8]; omega) (by rw [e1000, h8]; omega), e1000, h8]
    have a2 : (1000 * l8 + r).toInt = 1000 * w + gex i g := by rw [j_add (by rw [a1, hr]; omega) (by rw [a1, hr]; omega), a1, hr]
    rw [j_add (by rw [a2, e500]; omega) (by rw [a2, e500]; omega), a2, e500]
  · rw [i_add (by rw [i_1]; omega) (by rw [i_1]; omega), i_1]
    omega
theorem fine_g (hd : 70 ≤ d) (hp : is9 p) {A : GL} (hA : gok A) {u2 : Option Int32} {l4 : Int32} (h4 : l4.toInt = (A.length : Nat)) (hk : S.1 (pN p) = 3) (hv : S.2.2.2 (pN p) = A) (kk : ∀ h2, LJ L xs C X h2 S → K (some (.int 1)) h2) : ∀ (m k : Nat) (h : XH) (l5 : Int64) (l7 : Int32) (u8 u9 u10 : Option Value), LJ L xs C X h S → l7.toInt = k → k + m = A.length → (1 ≤ k → ∃ q, A[k - 1]? = some q ∧ l5.toInt = gpw q.1) → b_L_isFine_289 d 1 p u2 1 l4 l5 l7 u8 u9 u10 h K E := by
  obtain ⟨hgs, hnz, hl20, hfit⟩ := hA
  intro m
  induction m with
  | zero =>
    intro k h l5 l7 u8 u9 u10 J h7 hm hq
    obtain ⟨y, hs⟩ := J.sg
    have fin : b_L_isFine_382 d 1 p u2 1 l4 (some (.long l5)) none (some (.int l7)) u8 u9 u10 h K E := by
      refine w_L_isFine_382 hd hs ⟨fun z => absurd z (by decide), fun _ => ⟨fun z => w_L_isFine_399 hd hs (kk h J), fun z => ?_⟩⟩
      have z0 : A.length = 0 := by
        rw [i_lt, i_0] at z
        omega
      have hn : A = [] := List.length_eq_zero_iff.mp z0
      refine q_tends hd J hp.p hk (fun r h2 J2 hr => ?_)
      rw [hv, hn] at hr
      have r0 : r = 0 := i_eq hr rfl
      obtain ⟨y2, hs2⟩ := J2.sg
      exact ⟨fun w => absurd r0 w, fun _ => w_L_isFine_399 hd hs2 (kk h2 J2)⟩
    exact w_L_isFine_289 hd hs ⟨fun z => fin, fun z => ⟨fun w => absurd w (by decide), fun _ => absurd (i_le.mpr (by omega)) z⟩⟩
  | succ m ih =>
    intro k h l5 l7 u8 u9 u10 J h7 hm hq
    obtain ⟨y, hs⟩ := J.sg
    obtain ⟨g, n, hgm⟩ := gget (A := A) (m := k) (by omega)
    have hmem := List.mem_of_getElem? hgm
    have hn0 : ¬ n = 0 := hnz _ hmem
    have he := (hfit _ hmem).2
    dsimp only at he
    obtain ⟨b1, b2, b3, b4⟩ := id he
    have hgm2 : (S.2.2.2 (pN p))[k]? = some (g, n) := by rw [hv]; exact hgm
    have x1 : gex 1 g = g.1 := rfl
    have x2 : gex 2 g = g.2.1 := rfl
    have x3 : gex 3 g = g.2.2.1 := rfl
    have x4 : gex 4 g = g.2.2.2 := rfl
    refine w_L_isFine_289 hd hs ⟨fun z => absurd (i_le.mp z) (by omega), fun _ => ⟨fun w => absurd w (by decide), fun _ => ?_⟩⟩
    refine fine_s (i := 1) (w := 0) hd J hp hk hgm2 h7 rfl (by omega) rfl (by omega) (by omega) (fun h2 c2 t2 J2 e2 f2 => ?_)
    refine fine_s (i := 2) hd J2 hp hk hgm2 h7 f2 (by omega) e2 (by omega) (by omega) (fun h3 c3 t3 J3 e3 f3 => ?_)
    refine fine_s (i := 3) hd J3 hp hk hgm2 h7 f3 (by omega) e3 (by omega) (by omega) (fun h4x c4 t4 J4 e4 f4 => ?_)
    refine fine_s (i := 4) hd J4 hp hk hgm2 h7 f4 (by omega) e4 (by omega) (by omega) (fun h5 c5 t5 J5 e5 f5 => ?_)
    have ep : c5.toInt = gpw g := by
      rw [e5, x1, x2, x3, x4]
      rfl
    obtain ⟨y5, hs5⟩ := J5.sg
    have e50 : (5 : Int32).toInt = 5 := rfl
    refine w_L_isFine_306 hd hs5 ⟨fun _ => ?_, fun z => absurd (i_le.mpr (by omega)) z⟩
    refine q_part (i := 0) hd J5 hp.p hk h7 hgm2 rfl (by omega) (fun r h6 J6 hr => ?_)
    rw [if_pos rfl] at hr
    obtain ⟨y6, hs6⟩ := J6.sg
    have h71 : (l7 + 1).toInt = (k + 1 : Nat) := by
      rw [i_add (by rw [i_1]; omega) (by rw [i_1]; omega), i_1]
      omega
    have go : b_L_isFine_366 d 1 p u2 (some (.int 1)) l4 (some (.long l5)) none l7 c5 (some (.int t5)) h6 K E :=
      w_L_isFine_366 hd hs6 (w_L_isFine_371 hd hs6 (ih (k + 1) h6 c5 (l7 + 1) _ _ _ J6 h71 (by omega) (fun _ => ⟨_, hgm, ep⟩)))
    refine ⟨fun z => ?_, fun _ => ⟨fun _ => go, fun z => ⟨fun w => ?_, fun _ => go⟩⟩⟩
    · rw [z] at hr
      exact absurd hr.symm hn0
    · exfalso
      have hk1 : 1 ≤ k := by
        rcases Nat.eq_zero_or_pos k with v | v
        · exact absurd (i_ne.mpr (by omega)) z
        · exact v
      obtain ⟨q, q1, q2⟩ := hq hk1
      have lt := gs_at hgs q1 (by rw [show k - 1 + 1 = k by omega]; exact hgm)
      have lt2 := gpw_lt he (hfit _ (List.mem_of_getElem? q1)).2 lt
      have w2 := j_le.mp w
      omega
theorem t_isFine (hd : 71 ≤ d) (J : LJ L xs C X h S) (hC : C + 10020 < 16384) (hp : is9 p) (kk : ∀ h2 S2, LJ L xs C (X + 16) h2 S2 → K (some (.int 1)) h2) : Ca d m_L_isFine [.ref 1, .int p] h K E := by
  obtain ⟨d, rfl⟩ : ∃ e, d = e + 1 := ⟨d - 1, by omega⟩
  obtain ⟨y, hs⟩ := J.sg
  have hd0 : 70 ≤ d := by omega
  have V := J.va
  have hp16 : pN p < 16 := by have := hp.n.2; omega
  refine w_L_isFine hd0 hs ?_
  refine q_kind hd0 J hp.p (fun h2 J2 => ?_)
  obtain ⟨y2, hs2⟩ := J2.sg
  refine ⟨fun n1 => ⟨fun n2 => ⟨fun n3 => kk h2 S (J2.le (Nat.le_refl _) (by omega)), fun k3 => ?_⟩, fun k2 => ?_⟩, fun k1 => ?_⟩
  · have k3 := Classical.not_not.mp k3
    have hA := V.2.1 _ hp16 k3
    refine q_terms hd0 J2 hp.p k3 (fun r h3 J3 hr => ?_)
    have hl := hA.2.2.1
    have e20 : (20 : Int32).toInt = 20 := rfl
    obtain ⟨y3, hs3⟩ := J3.sg
    refine ⟨fun z => absurd (i_lt.mp z) (by rw [i_0]; omega), fun _ => ⟨fun z => absurd (i_lt.mp z) (by omega), fun _ => ?_⟩⟩
    exact w_L_isFine_285 hd0 hs3 (fine_g hd0 hp hA hr k3 rfl (fun h4 J4 => kk h4 S (J4.le (Nat.le_refl _) (by omega))) (S.2.2.2 (pN p)).length 0 h3 _ _ _ _ _ J3 rfl (Nat.zero_add _) (fun w => absurd w (by omega)))
  · have k2 := Classical.not_not.mp k2
    have hN := V.1 _ hp16 k2
    obtain ⟨B, B1, B2, B3, B4, B5⟩ := born_law hN
    have e2 : (268435456 : Int64).toInt = 268435456 := rfl
    have e3 : (-268435456 : Int64).toInt = -268435456 := rfl
    have e0 : (0 : Int64).toInt = 0 := rfl
    refine q_parts hd0 J2 hp.p k2 (fun r h3 J3 hr => ?_)
    refine q_birthday hd0 J3 hp.p k2 (fun b h4 J4 hb => ?_)
    rw [B1] at hb
    have hN2 : -268435456 ≤ S.2.2.1 (pN p) ∧ S.2.2.1 (pN p) ≤ 268435456 := hN
    refine ⟨fun z => absurd (j_lt.mp z) (by omega), fun _ => ⟨fun z => absurd (j_lt.mp z) (by omega), fun _ => ⟨fun z => absurd (i_lt.mp z) (by rw [i_0]; omega), fun _ => ?_⟩⟩⟩
    refine q_signOf hd0 J4 hp.p k2 hb (fun s h5 J5 hs5 => ?_)
    rw [show min B 300 = B by omega, B3, csg_eq] at hs5
    have s0 : s = 0 := i_eq hs5 rfl
    refine ⟨fun z => absurd s0 z, fun _ => ⟨fun bn => ?_, fun b0 => ?_⟩⟩
    · have hB : ¬ B = 0 := fun w => bn (i_ne.mpr (by omega))
      obtain ⟨t0, t1⟩ := B5 hB
      have tail : ∀ (v x17 : Int32) (h6 : XH), LJ L xs C X h6 S → x17 = v → b_L_isFine_229 d 1 p (some (S.1 (pN p))) (some (.int 1)) (some (.long r)) none b none none none none v x17 h6 K E := by
        intro v x17 h6 J6 e
        obtain ⟨y6, hs6⟩ := J6.sg
        refine w_L_isFine_229 hd0 hs6 ⟨fun z => absurd e z, fun _ => ?_⟩
        have hb1 : (b - 1).toInt = (B - 1 : Nat) := by
          rw [i_sub (by rw [i_1]; omega) (by rw [i_1]; omega), i_1]
          omega
        refine q_signOf hd0 J6 hp.p k2 hb1 (fun s2 h7 J7 hs7 => ?_)
        obtain ⟨y7, hs7y⟩ := J7.sg
        refine ⟨fun z => ?_, fun _ => w_L_isFine_244 hd0 hs7y (kk h7 S (J7.le (Nat.le_refl _) (by omega)))⟩
        exfalso
        rw [z, show min (B - 1) 300 = B - 1 by omega] at hs7
        exact t1 (csg_z hs7.symm).symm
      refine q_signOf (m := 0) hd0 J5 hp.p k2 rfl (fun s1 h6 J6 hs6 => ?_)
      have hs6 : s1.toInt = csg (S.2.2.1 (pN p)) 0 := hs6
      refine ⟨fun z => tail _ _ _ J6 ?_, fun z => tail _ _ _ J6 ?_⟩
      · have z2 := j_le.mp z
        rw [csg_lt (by omega)] at hs6
        exact i_eq hs6 rfl
      · have z2 : ¬ r.toInt ≤ 0 := fun w => z (j_le.mpr (by rw [e0]; exact w))
        rw [csg_gt (by omega)] at hs6
        exact i_eq hs6 rfl
    · have b0 := Classical.not_not.mp b0
      have hB : B = 0 := by
        rw [b0, i_0] at hb
        omega
      obtain ⟨y5, hs5y⟩ := J5.sg
      refine ⟨fun z => absurd (Int64.toInt_inj.mp (hr.trans (by rw [B4 hB]; rfl))) z, fun _ => w_L_isFine_244 hd0 hs5y (kk h5 S (J5.le (Nat.le_refl _) (by omega)))⟩
  · have k1 := Classical.not_not.mp k1
    have hG := J2.gd hp16 k1
    have hl : (pl (S.2.1 (pN p))).length ≤ 8 := hG.2.1
    have e8 : (8 : Int32).toInt = 8 := rfl
    refine q_powers hd0 J2 hp.p k1 (fun r h3 J3 hr => ?_)
    obtain ⟨y3, hs3⟩ := J3.sg
    refine ⟨fun z => absurd (i_lt.mp z) (by rw [i_0]; omega), fun _ => ⟨fun z => absurd (i_lt.mp z) (by omega), fun _ => ?_⟩⟩
    exact w_L_isFine_37 hd0 hs3 (fine_o (XX := X + 16) hd0 hC hp hG hr (fun h4 S2 J4 => kk h4 S2 J4) _ 0 X h3 S 0 J3 (by omega) rfl (Nat.zero_add _) k1 rfl (fun w => absurd w (by omega)))
end
