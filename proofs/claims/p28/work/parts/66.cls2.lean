/-! ===== layer 2: the class's calls over what the places hold: ordinals ===== -/
section
variable {d c M : Nat} {h : XH} {y : Nat → Nat} {S : XS} {K : XK} {E : XE}
theorem c_kind {a : Int32} (hd : 50 ≤ d) (hs : Sg h.1 y) (I : CI h y c S) (kk : KC M 1 ecI c h y (f_kind a S) K E) : Ca d m_X6_kind [.ref 1, .int a] h K E := by
  obtain ⟨d, rfl⟩ : ∃ e, d = e + 1 := ⟨d - 1, by omega⟩
  obtain ⟨ov, I1, I2⟩ := id I
  refine w_X6_kind (by omega) hs (t_X6_needPlace (by omega) hs (fun z => ⟨rfl, hs, ?_⟩) (fun z => kk.n I hs (out2_1 z) (by decide) rfl))
  refine kk.a (out2_0 z trivial) (Nat.le_refl _) (by omega) I (FC.rf hs) ⟨_, rfl, fun _ => ?_⟩
  rw [g_p z (Nat.le_refl _), (I2 _ (isp_p z).2).1]
/-- behind what lays an ordinal -/
theorem Kx.l {p m t : Nat} {ec : Nat → Nat} {o : XC} {ov : Nat → O} {a : Int32} {x : O} {v : Int} {rv : Option Value} (hm : m ≤ M) (hd : 21 ≤ d) (P : PlC h c ov S) (z : isp a) (kk : KC M t ec c h y o K E) (e : o = (0, v, sO S (pN a) x)) (hrv : rvT t True v rv) : Kx p m h y c c ov x (fun rv2 h2 => ∃ x6, rv2 = some (.int x6) ∧ ∃ y7 : Nat → Nat, Sg h2.1 y7 ∧ Ca d m_X6_keepOrdinal [.ref 1, .int a, .int x6] h2 (fun rv3 h8 => rv3 = none ∧ Sg h8.1 y7 ∧ K rv h8) E) := by
  intro r h2 y2 ov2 c2 r2 x1 x2 x3 x4 x5 x6 x7 x8 x9
  refine ⟨r, rfl, y2, x7.1, t_X6_keepOrdinal hd x7.1 x9 (P.fr (fun r a b => x7.2.1 r (by omega) (by omega)) x5 x4) (FC.fs x7) z x1 x2 x3 (fun h3 I3 F3 => ⟨rfl, F3.1, kk.a e x5 (by omega) I3 F3 hrv⟩)⟩
theorem c_finite {a b : Int32} (hd : 50 ≤ d) (hs : Sg h.1 y) (I : CI h y c S) (hc : c + 10020 < 16384) (kk : KC 9 0 ecI c h y (f_finite a b S) K E) : Ca d m_X6_finite [.ref 1, .int a, .int b] h K E := by
  obtain ⟨d, rfl⟩ : ∃ e, d = e + 1 := ⟨d - 1, by omega⟩
  obtain ⟨ov, I1, I2⟩ := id I
  refine w_X6_finite (by omega) hs (t_X6_needPlace (by omega) hs (fun z => ⟨rfl, hs, t_X6_needRange (by omega) hs (fun w => ⟨rfl, hs, ?_⟩) (fun w => kk.n I hs (out2_2 z w) (by decide) rfl)⟩) (fun z => kk.n I hs (out2_1 z) (by decide) rfl))
  have eM : (1000000 : Int32).toInt = 1000000 := rfl
  rw [i_0, eM] at w
  have hc0 := I1.1.2.2
  refine t_X2_powerOf (i := 0) (n := b.toInt.toNat) (by omega) hs I1 rfl i_0 (by omega) (by omega) (by omega) (fun ok => ?_) (fun nok => absurd ?_ nok)
  · rw [I1.s0]
    exact Kx.l (by omega) (by omega) I2 z kk (out2_0 z w) rfl
  · rw [I1.s0]
    by_cases hn : 0 < b.toInt.toNat
    · rw [if_pos hn]
      refine ⟨by simp [pl, mk], fun p hp => ?_, ?_⟩
      · rw [pl_mk] at hp
        rw [List.mem_singleton.mp hp]
        show b.toInt.toNat ≤ 1000000
        omega
      · show max (dep .leaf + 1) (dep .leaf) ≤ 5
        decide
    · rw [if_neg hn]
      exact ⟨Nat.zero_le _, fun p hp => absurd hp List.not_mem_nil, Nat.zero_le _⟩
theorem c_omega {a b : Int32} (hd : 50 ≤ d) (hs : Sg h.1 y) (I : CI h y c S) (hc : c + 10020 < 16384) (kk : KC 9 0 ecS c h y (f_omega a b S) K E) : Ca d m_X6_omega [.ref 1, .int a, .int b] h K E := by
  obtain ⟨d, rfl⟩ : ∃ e, d = e + 1 := ⟨d - 1, by omega⟩
  obtain ⟨ov, I1, I2⟩ := id I
  refine w_X6_omega (by omega) hs (t_X6_needPlace (by omega) hs (fun z1 => ⟨rfl, hs, t_X6_needPlace (by omega) hs (fun z2 => ⟨rfl, hs, t_X6_ordinalAt (by omega) hs I2 z2 (fun r j w1 w2 w3 w4 => ⟨r, rfl, hs, ?_⟩) (fun w => kk.n I hs (out2_2 ⟨z1, z2⟩ (fun v => w v.1)) (by decide) rfl)⟩) (fun z => kk.n I hs (out2_1 (fun v => z v.2)) (by decide) rfl)⟩) (fun z => kk.n I hs (out2_1 (fun v => z v.1)) (by decide) rfl))
  refine t_X2_powerOf (i := j) (n := 1) (by omega) hs I1 rfl w2 rfl w3 (by omega) (fun ok => ?_) (fun nok => ?_)
  · rw [if_pos (by omega), w4] at ok ⊢
    exact Kx.l (by omega) (by omega) I2 z1 kk (out2_0 ⟨z1, z2⟩ ⟨w1, ok⟩) rfl
  · rw [if_pos (by omega), w4] at nok
    exact kk.f I2 (out2_2 ⟨z1, z2⟩ (fun v => nok v.2)) (by decide) rfl
theorem c_exponent {a b e : Int32} (hd : 50 ≤ d) (hs : Sg h.1 y) (I : CI h y c S) (kk : KC M 0 ecS c h y (f_exponent a b e S) K E) : Ca d m_X6_exponent [.ref 1, .int a, .int b, .int e] h K E := by
  obtain ⟨d, rfl⟩ : ∃ e, d = e + 1 := ⟨d - 1, by omega⟩
  obtain ⟨ov, I1, I2⟩ := id I
  refine w_X6_exponent (by omega) hs (t_X6_needPlace (by omega) hs (fun z1 => ⟨rfl, hs, t_X6_needPlace (by omega) hs (fun z2 => ⟨rfl, hs, t_X6_needRow (by omega) hs (fun z3 => ⟨rfl, hs, t_X6_ordinalWithPower (by omega) hs I1 I2 z2 (fun r j w1 w2 w3 w4 w5 => ⟨r, rfl, hs, ?_⟩) (fun w => kk.n I hs (out2_2 ⟨z1, z2, z3⟩ w) (by decide) rfl)⟩) (fun z => kk.n I hs (out2_1 (fun v => z v.2.2)) (by decide) rfl)⟩) (fun z => kk.n I hs (out2_1 (fun v => z v.2.1)) (by decide) rfl)⟩) (fun z => kk.n I hs (out2_1 (fun v => z v.1)) (by decide) rfl))
  obtain ⟨k, hk⟩ : ∃ k : Nat, e.toInt = k := ⟨e.toInt.toNat, by omega⟩
  obtain ⟨f, n, g⟩ := getc (A := pl (S.2.1 (pN b))) (m := k) (by omega)
  have g2 := g
  rw [← w5] at g2
  obtain ⟨j2, j3, j4, j5⟩ := I1.exps hs w3 hk w4 g2
  have eo : f_exponent a b e S = (0, 0, sO S (pN a) f) := by
    unfold f_exponent
    rw [show e.toInt.toNat = k by omega, g]
    exact out2_0 ⟨z1, z2, z3⟩ ⟨w1, w2⟩
  exact t_X6_keepOrdinal (by omega) hs I1 I2 (FC.rf hs) z1 j5 (by omega) j4 (fun h3 I3 F3 => ⟨rfl, F3.1, kk.a eo (Nat.le_refl _) (by omega) I3 F3 rfl⟩)
theorem c_step {a b e : Int32} (hd : 50 ≤ d) (hs : Sg h.1 y) (I : CI h y c S) (hc : c + 10020 < 16384) (kk : KC 5 0 ecI c h y (f_step a b e S) K E) : Ca d m_X6_step [.ref 1, .int a, .int b, .int e] h K E := by
  obtain ⟨d, rfl⟩ : ∃ e, d = e + 1 := ⟨d - 1, by omega⟩
  obtain ⟨ov, I1, I2⟩ := id I
  refine w_X6_step (by omega) hs (t_X6_needPlace (by omega) hs (fun z1 => ⟨rfl, hs, t_X6_needPlace (by omega) hs (fun z2 => ⟨rfl, hs, t_X6_needRange (by omega) hs (fun z3 => ⟨rfl, hs, t_X6_ordinalAt (by omega) hs I2 z2 (fun r j w1 w2 w3 w4 => ⟨r, rfl, hs, ?_⟩) (fun w => kk.n I hs (out3_3 ⟨z1, z2⟩ z3 (fun v => w v.1)) (by decide) rfl)⟩) (fun z => kk.n I hs (out3_2 ⟨z1, z2⟩ z) (by decide) rfl)⟩) (fun z => kk.n I hs (out3_1 (fun v => z v.2)) (by decide) rfl)⟩) (fun z => kk.n I hs (out3_1 (fun v => z v.1)) (by decide) rfl))
  have e99 : (99 : Int32).toInt = 99 := rfl
  have z4 := z3
  rw [i_1, e99] at z4
  have hne := I1.ne w3
  rw [w4] at hne
  refine ⟨fun v => ?_, fun v => ?_⟩
  · have hl : ¬ S.2.1 (pN b) = .leaf := fun q => v (i_ne.mpr (by have := hne.mp q; omega))
    refine t_X2_stepped (i := j) (nn := e.toInt.toNat) (by omega) hs I1 w2 (by omega) (by omega) (by omega) w3 (by omega) (Nat.le_refl _) (fun ok => ?_) (fun nok => ?_)
    · rw [w4] at ok ⊢
      exact Kx.l (by omega) (by omega) I2 z1 kk (out3_0 ⟨z1, z2⟩ z3 ⟨w1, hl, ok⟩) rfl
    · rw [w4] at nok
      exact kk.f I2 (out3_3 ⟨z1, z2⟩ z3 (fun v => nok v.2.2)) (by decide) rfl
  · have hl : S.2.1 (pN b) = .leaf := hne.mpr (by have := i_ne.mp (Classical.not_not.mp v); omega)
    exact kk.n I hs (out3_3 ⟨z1, z2⟩ z3 (fun v => v.2.1 hl)) (by decide) rfl
theorem c_natural {a b e g : Int32} (hd : 50 ≤ d) (hs : Sg h.1 y) (I : CI h y c S) (hc : c + 10020 < 16384) (kk : KC 9 0 ecS c h y (f_natural a b e g S) K E) : Ca d m_X6_natural [.ref 1, .int a, .int b, .int e, .int g] h K E := by
  obtain ⟨d, rfl⟩ : ∃ e, d = e + 1 := ⟨d - 1, by omega⟩
  obtain ⟨ov, I1, I2⟩ := id I
  refine w_X6_natural (by omega) hs (t_X6_needThree (by omega) hs (fun z => ⟨rfl, hs, t_X6_ordinalAt (by omega) hs I2 z.2.1 (fun r j w1 w2 w3 w4 => ⟨r, rfl, hs, t_X6_ordinalAt (by omega) hs I2 z.2.2 (fun r2 j2 v1 v2 v3 v4 => ⟨r2, rfl, hs, fun q => ?_, fun q => ?_⟩) (fun w => kk.n I hs (out2_2 z (fun v => w v.2.1)) (by decide) rfl)⟩) (fun w => kk.n I hs (out2_2 z (fun v => w v.1)) (by decide) rfl)⟩) (fun z => kk.n I hs (out2_1 z) (by decide) rfl))
  · refine t_X2_naturallyAdded (i := j) (j := j2) (by omega) hs I1 w2 v2 w3 v3 (by omega) (Nat.le_refl _) (fun ok => ?_) (fun nok => ?_)
    · rw [w4, v4] at ok ⊢
      have eo : f_natural a b e g S = (0, 0, sO S (pN a) (naO (S.2.1 (pN b)) (S.2.1 (pN e)))) := by
        unfold f_natural
        rw [if_pos q, if_pos q]
        exact out2_0 z ⟨w1, v1, ok⟩
      intro r h2 y2 ov2 c2 r2 x1 x2 x3 x4 x5 x6 x7 x8 x9
      obtain ⟨r9, er, y9, s9, H⟩ := Kx.l (rv := none) (p := 14) (d := d) (by omega : 1 ≤ 9) (by omega) I2 z.1 kk eo rfl r h2 y2 ov2 c2 r2 x1 x2 x3 x4 x5 x6 x7 x8 x9
      exact ⟨r9, er, y9, s9, w_X6_natural_52 (by omega) s9 H⟩
    · rw [w4, v4] at nok
      refine kk.f I2 (st := 2) ?_ (by decide) rfl
      unfold f_natural
      rw [if_pos q, if_pos q]
      exact out2_2 z (fun v => nok v.2.2)
  · refine t_X2_naturallyMultiplied (i := j) (j := j2) (by omega) hs I1 w2 v2 w3 v3 (by omega) (Nat.le_refl _) (fun ok => ?_) (fun nok => ?_)
    · rw [w4, v4] at ok ⊢
      have eo : f_natural a b e g S = (0, 0, sO S (pN a) (nmO (S.2.1 (pN b)) (S.2.1 (pN e)))) := by
        unfold f_natural
        rw [if_neg q, if_neg q]
        exact out2_0 z ⟨w1, v1, ok⟩
      intro r h2 y2 ov2 c2 r2 x1 x2 x3 x4 x5 x6 x7 x8 x9
      obtain ⟨r9, er, y9, s9, H⟩ := Kx.l (rv := none) (p := 18) (d := d) (by omega : 9 ≤ 9) (by omega) I2 z.1 kk eo rfl r h2 y2 ov2 c2 r2 x1 x2 x3 x4 x5 x6 x7 x8 x9
      exact ⟨r9, er, y9, s9, w_X6_natural_52 (by omega) s9 H⟩
    · rw [w4, v4] at nok
      refine kk.f I2 (st := 2) ?_ (by decide) rfl
      unfold f_natural
      rw [if_neg q, if_neg q]
      exact out2_2 z (fun v => nok v.2.2)
theorem c_descent {a b e : Int32} (hd : 50 ≤ d) (hs : Sg h.1 y) (I : CI h y c S) (hc : c + 10020 < 16384) (kk : KC M 1 ecI c h y (f_descent a b e S) K E) : Ca d m_X6_descent [.ref 1, .int a, .int b, .int e] h K E := by
  obtain ⟨d, rfl⟩ : ∃ e, d = e + 1 := ⟨d - 1, by omega⟩
  obtain ⟨ov, I1, I2⟩ := id I
  have e99 : (99 : Int32).toInt = 99 := rfl
  have e2k : (2000 : Int32).toInt = 2000 := rfl
  refine w_X6_descent (by omega) hs (t_X6_needPlace (by omega) hs (fun z => ⟨rfl, hs, t_X6_needRange (by omega) hs (fun z2 => ⟨rfl, hs, t_X6_needRange (by omega) hs (fun z3 => ⟨rfl, hs, ?_⟩) (fun w => kk.n I hs (out3_2 z (fun v => w v.2)) (by decide) rfl)⟩) (fun w => kk.n I hs (out3_2 z (fun v => w v.1)) (by decide) rfl)⟩) (fun z => kk.n I hs (out3_1 z) (by decide) rfl))
  rw [i_1, e99] at z2
  rw [i_0, e2k] at z3
  refine t_X6_ordinalAt (by omega) hs I2 z (fun r j w1 w2 w3 w4 => ⟨r, rfl, hs, ?_⟩) (fun w => kk.n I hs (out3_3 z ⟨z2, z3⟩ (fun v => w v.1)) (by decide) rfl)
  have hR := dsF_R b.toInt.toNat e.toInt.toNat 0 (S.2.1 (pN a))
  rw [← w4] at hR
  refine t_X2_stepsToZero (i := j) (nn := b.toInt.toNat) (most := e.toInt.toNat) (by omega) hs I1 w2 (by omega) (by omega) (by omega) (by omega) (by omega) w3 hc (Nat.le_refl _) hR (fun x s r2 h2 y2 q1 q2 q3 F S2 => ⟨r2, rfl, y2, F.1, ?_⟩) (fun q => ?_)
  · rw [w4] at q1
    have eo : f_descent a b e S = (0, dsV (some (x, s)), S) := by
      unfold f_descent
      rw [q1]
      exact out3_0 z ⟨z2, z3⟩ ⟨w1, fun w => by cases w⟩
    refine kk.a eo (Nat.le_refl _) (by omega) ⟨ov, S2, I2.fr (fun r a b => F.2.1 r (by omega) (by omega)) (Nat.le_refl _) (fun _ _ => rfl)⟩ (FC.fs F) ⟨_, rfl, fun _ => ?_⟩
    by_cases xl : x = .leaf
    · rw [q2 xl]; exact (ouif_t xl).symm
    · rw [q3 xl]; exact (ouif_f xl).symm
  · rw [w4] at q
    exact kk.f I2 (out3_3 z ⟨z2, z3⟩ (fun v => v.2 q)) (by decide) rfl
theorem c_powers {a : Int32} (hd : 50 ≤ d) (hs : Sg h.1 y) (I : CI h y c S) (kk : KC M 1 ecS c h y (f_powers a S) K E) : Ca d m_X6_powers [.ref 1, .int a] h K E := by
  obtain ⟨d, rfl⟩ : ∃ e, d = e + 1 := ⟨d - 1, by omega⟩
  obtain ⟨ov, I1, I2⟩ := id I
  refine w_X6_powers (by omega) hs (t_X6_needPlace (by omega) hs (fun z => ⟨rfl, hs, t_X6_ordinalAt (by omega) hs I2 z (fun r j w1 w2 w3 w4 => ⟨r, rfl, hs, ?_⟩) (fun w => kk.n I hs (out2_2 z w) (by decide) rfl)⟩) (fun z => kk.n I hs (out2_1 z) (by decide) rfl))
  refine kk.a (out2_0 z w1) (Nat.le_refl _) (by omega) I (FC.rf hs) ⟨_, rfl, fun _ => ?_⟩
  rw [I1.pows hs w2 w3, w4]
theorem c_times {a b : Int32} (hd : 50 ≤ d) (hs : Sg h.1 y) (I : CI h y c S) (kk : KC M 2 ecS c h y (f_times a b S) K E) : Ca d m_X6_times [.ref 1, .int a, .int b] h K E := by
  obtain ⟨d, rfl⟩ : ∃ e, d = e + 1 := ⟨d - 1, by omega⟩
  obtain ⟨ov, I1, I2⟩ := id I
  refine w_X6_times (by omega) hs (t_X6_needPlace (by omega) hs (fun z => ⟨rfl, hs, t_X6_needRow (by omega) hs (fun z2 => ⟨rfl, hs, t_X6_ordinalWithPower (by omega) hs I1 I2 z (fun r j w1 w2 w3 w4 w5 => ⟨r, rfl, hs, ?_⟩) (fun w => kk.n I hs (out2_2 ⟨z, z2⟩ w) (by decide) rfl)⟩) (fun w => kk.n I hs (out2_1 (fun v => w v.2)) (by decide) rfl)⟩) (fun w => kk.n I hs (out2_1 (fun v => w v.1)) (by decide) rfl))
  obtain ⟨k, hk⟩ : ∃ k : Nat, b.toInt = k := ⟨b.toInt.toNat, by omega⟩
  obtain ⟨f, n, g⟩ := getc (A := pl (S.2.1 (pN a))) (m := k) (by omega)
  have g2 := g
  rw [← w5] at g2
  have ht := I1.tims hs w3 hk w4 g2
  refine kk.a (out2_0 ⟨z, z2⟩ ⟨w1, w2⟩) (Nat.le_refl _) (by omega) I (FC.rf hs) ⟨_, rfl, fun _ => ?_⟩
  rw [i_2j, ht, show b.toInt.toNat = k by omega, g]
  rfl
theorem t_X6_numberAt {a : Int32} {ov : Nat → O} (hd : 21 ≤ d) (hs : Sg h.1 y) (P : PlC h c ov S) (z : isp a) (k1 : ∀ (r : Int64), S.1 (pN a) = 2 → r.toInt = S.2.2.1 (pN a) → K (some (.long r)) h) (k0 : ¬ S.1 (pN a) = 2 → E 3 (x_new h (4, 3, []) 6)) : Ca d m_X6_numberAt [.ref 1, .int a] h K E := by
  obtain ⟨d, rfl⟩ : ∃ e, d = e + 1 := ⟨d - 1, by omega⟩
  obtain ⟨p1, -, p3, -⟩ := P _ (isp_p z).2
  refine w_X6_numberAt (by omega) hs ⟨fun w => ?_, fun w => k0 (fun v => w ?_)⟩
  · rw [g_p z (Nat.le_refl _), p1] at w
    refine k1 _ w ?_
    rw [gJ_in (isp_p z).1 (isp_p z).2]
    exact p3 w
  · rw [g_p z (Nat.le_refl _), p1]; exact v
theorem c_parts {a : Int32} (hd : 50 ≤ d) (hs : Sg h.1 y) (I : CI h y c S) (kk : KC M 2 ecS c h y (f_parts a S) K E) : Ca d m_X6_parts [.ref 1, .int a] h K E := by
  obtain ⟨d, rfl⟩ : ∃ e, d = e + 1 := ⟨d - 1, by omega⟩
  obtain ⟨ov, I1, I2⟩ := id I
  exact w_X6_parts (by omega) hs (t_X6_needPlace (by omega) hs (fun z => ⟨rfl, hs, t_X6_numberAt (by omega) hs I2 z (fun r w1 w2 => ⟨r, rfl, hs, kk.a (out2_0 z w1) (Nat.le_refl _) (by omega) I (FC.rf hs) ⟨_, rfl, fun _ => w2⟩⟩) (fun w => kk.n I hs (out2_2 z w) (by decide) rfl)⟩) (fun z => kk.n I hs (out2_1 z) (by decide) rfl))
end
