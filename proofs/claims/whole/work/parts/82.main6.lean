/-! ===== layer 2: the model's calls over growths; sums, products, differences, comparisons ===== -/
section
variable {d : Nat} {h : XH} {y : Nat → Nat} {S : XS} {K : XK} {E : XE}
theorem MI.dz {h2 : XH} {m2 : Nat} {om2 : Nat → O} (I : MI h S) (M : Mo h2 m2 om2) (P : Pl h2 m2 om2 S.2.1) (F : Fds h h2) : MI h2 S ∧ FM h h2 ∧ h2.2.1 77 0 = h.2.1 77 0 := by
  obtain ⟨m, om, -, -, I3⟩ := I
  obtain ⟨f1, f2, f3, f4, f5, f6⟩ := F
  have c79 : ∀ p, p < 16 → ¬ S.1 p = 1 → h2.2.1 79 p = h.2.1 79 p := fun p hp hk => f6 p hp (by rw [(I3 p hp).1]; exact hk)
  refine ⟨⟨m2, om2, M, P, fun p hp => ⟨by rw [(f3 78 (by omega)).1]; exact (I3 p hp).1, fun z => ?_, fun z => ?_⟩⟩, ⟨f1, f2, fun r hr => f3 r (by omega)⟩, f4 0 (by omega) (by omega) (by omega) (by omega)⟩
  · rw [c79 p hp (by rw [z]; decide)]; exact (I3 p hp).2.1 z
  · obtain ⟨g1, g2, g3⟩ := (I3 p hp).2.2 z
    refine ⟨by rw [c79 p hp (by rw [z]; decide)]; exact g1, g2, fun k e n hk => ?_⟩
    rw [(f3 90 (by omega)).2, (f3 91 (by omega)).1]
    exact g3 k e n hk
theorem MI.lz {h2 : XH} {m2 p : Nat} {om2 : Nat → O} {x : O} (I : MI h S) (hp : p < 16) (M : Mo h2 m2 om2) (P : Pl h2 m2 om2 (upw S.2.1 p x)) (F : Fla False p h h2) : MI h2 (sO S p x) ∧ FM h h2 ∧ h2.2.1 77 0 = h.2.1 77 0 := by
  obtain ⟨m, om, -, -, I3⟩ := I
  obtain ⟨f1, f2, f3, f4, f5, f6, f7, f8⟩ := F
  have c79 : ∀ q, q < 16 → q ≠ p → ¬ S.1 q = 1 → h2.2.1 79 q = h.2.1 79 q := fun q hq hqp hk => f8 q hq hqp (by rw [(I3 q hq).1]; exact hk)
  refine ⟨⟨m2, om2, M, P, fun q hq => ?_⟩, ⟨f1, f2, fun r hr => f3 r (by omega)⟩, f4 0 (fun _ w => w) (by omega) (by omega) (by omega) (by omega)⟩
  show h2.2.1 78 q = upw S.1 p 1 q ∧ (upw S.1 p 1 q = 2 → _) ∧ (upw S.1 p 1 q = 3 → _)
  by_cases z : q = p
  · rw [f6, z, upw_e, upw_e]
    exact ⟨rfl, fun w => absurd w (by decide), fun w => absurd w (by decide)⟩
  · rw [f6, upw_n _ _ z, upw_n _ _ z]
    refine ⟨(I3 q hq).1, fun w => ?_, fun w => ?_⟩
    · rw [c79 q hq z (by rw [w]; decide)]; exact (I3 q hq).2.1 w
    · obtain ⟨g1, g2, g3⟩ := (I3 q hq).2.2 w
      refine ⟨by rw [c79 q hq z (by rw [w]; decide)]; exact g1, g2, fun k e n hk => ?_⟩
      rw [(f3 90 (by omega)).2, (f3 91 (by omega)).1]
      exact g3 k e n hk
theorem t_X7_setsGrowth {a b : Int32} {p : Nat} {L : GL} (hd : 25 ≤ d) (hs : Sg h.1 y) (I : MI h S) (ha : a.toInt = p) (hp : p < 16) (M : Mm h L) (k1 : b = 1 → gfit L → ∀ h2, MI h2 (sG S p L) → FM h h2 → h2.2.1 77 0 = h.2.1 77 0 → K (some (.int 1)) h2) (k0 : b = 0 → K (some (.int 0)) h) (hb : b = 0 ∨ b = 1 ∧ gfit L) : Ca d m_X7_setsGrowth [.ref 77, .int a, .int b] h K E := by
  obtain ⟨d, rfl⟩ : ∃ e, d = e + 1 := ⟨d - 1, by omega⟩
  refine w_X7_setsGrowth (by omega) hs ⟨fun z => ⟨Or.inl z, by rw [z]; exact k0 z⟩, fun z => ?_⟩
  rcases hb with hb | ⟨hb, f⟩
  · exact absurd hb z
  · refine t_X7_laysGrowth (by omega) hs I ha hp M f (fun h2 I2 F2 t2 => ⟨rfl, F2.sg hs, Or.inr hb, by rw [hb]; exact k1 hb f h2 I2 F2 t2⟩)
theorem t_X7_setsNumber {a : Int32} {b : Int64} {p : Nat} {v : Int} (hd : 23 ≤ d) (hs : Sg h.1 y) (I : MI h S) (ha : a.toInt = p) (hp : p < 16) (hb : b.toInt = v) (k1 : fitN v → ∀ h2, MI h2 (sN S p v) → FM h h2 → h2.2.1 77 0 = h.2.1 77 0 → K (some (.int 1)) h2) (k0 : ¬ fitN v → K (some (.int 0)) h) : Ca d m_X7_setsNumber [.ref 77, .int a, .long b] h K E := by
  obtain ⟨d, rfl⟩ : ∃ e, d = e + 1 := ⟨d - 1, by omega⟩
  have rb : (-268435456 ≤ b ∧ b ≤ 268435456) ↔ fitN v := by
    rw [j_le, j_le, hb]
    exact Iff.rfl
  refine w_X7_setsNumber (by omega) hs ⟨fun w => t_X7_lays (by omega) hs ha hp (fun h2 e2 => ?_), fun w => w_X7_setsNumber_15 (by omega) hs ?_⟩
  · have f := rb.mp w
    obtain ⟨x1, x2, x3⟩ := I.nu hp (v := v) (by rw [j_to32 (by rw [hb]; unfold fitN at f; omega), hb]) e2
    refine ⟨rfl, x2.sg hs, w_X7_setsNumber_15 (by omega) (x2.sg hs) ?_⟩
    rw [bi_t w]
    exact k1 f h2 x1 x2 x3
  · rw [bi_f w]
    exact k0 (fun f => w (rb.mpr f))
theorem t_X7_told {a b c : Int32} (hd : 21 ≤ d) (hs : Sg h.1 y) (I : MI h S) (k1 : b = 0 → ∀ h2, MI h2 S → FM h h2 → h2.2.1 77 0 = 1 → K (some (.int 0)) h2) (k2 : ¬ b = 0 → c = 0 → ∀ h2, MI h2 S → FM h h2 → h2.2.1 77 0 = 2 → K (some (.int 0)) h2) (k0 : ¬ b = 0 → ¬ c = 0 → isp a ∧ ∀ h2, MI h2 S → FM h h2 → h2.2.1 77 0 = 0 → K (some (.int (S.1 (pN a)))) h2) : Ca d m_X7_told [.ref 77, .int a, .int b, .int c] h K E := by
  obtain ⟨d, rfl⟩ : ∃ e, d = e + 1 := ⟨d - 1, by omega⟩
  obtain ⟨m, om, -, -, I3⟩ := id I
  refine w_X7_told (by omega) hs ⟨fun z => ⟨fun w => w_X7_told_18 (by omega) hs (fun h1 e1 => ⟨fun _ => ?_, fun v => absurd rfl v⟩), fun w => w_X7_told_18 (by omega) hs (fun h1 e1 => ⟨fun v => absurd v (by decide), fun _ => ?_⟩)⟩, fun z => w_X7_told_18 (by omega) hs (fun h1 e1 => ⟨fun v => absurd v n1_0, fun _ => ?_⟩)⟩
  · obtain ⟨b1, b2, b3⟩ := I.st 0
    rw [← e1] at b1 b2 b3
    obtain ⟨za, q⟩ := k0 z w
    obtain ⟨z1, z2⟩ := isp_p za
    refine ⟨i_Ix z1 z2, ?_⟩
    rw [i_ix z1, e1, sI_nq _ _ (by omega), (I3 _ z2).1, ← e1]
    exact q h1 b1 b2 b3
  · obtain ⟨b1, b2, b3⟩ := I.st 2
    rw [← e1] at b1 b2 b3
    exact k2 z (Classical.not_not.mp w) h1 b1 b2 b3
  · obtain ⟨b1, b2, b3⟩ := I.st 1
    rw [← e1] at b1 b2 b3
    exact k1 (Classical.not_not.mp z) h1 b1 b2 b3
theorem m_tends {a : Int32} (hd : 50 ≤ d) (hs : Sg h.1 y) (I : MI h S) (V : VG S) (kk : KM h 1 (f_tends a S) K) : Ca d m_X7_tends [.ref 77, .int a] h K E := by
  obtain ⟨d, rfl⟩ : ∃ e, d = e + 1 := ⟨d - 1, by omega⟩
  obtain ⟨m, om, I1, I2, I3⟩ := id I
  refine w_X7_tends (by omega) hs ⟨fun z => t_X7_isKind (by omega) hs (isp_p z).1 (isp_p z).2 (fun hk => ⟨1, rfl, hs, fun _ => ?_, fun v => absurd n1_0 v⟩) (fun hk => ⟨0, rfl, hs, fun v => absurd rfl v, fun _ => ?_⟩), fun z => ?_⟩
  · refine w_X7_tends_28 (by omega) hs (fun h1 e1 => ⟨fun _ => ?_, fun v => absurd rfl v⟩)
    obtain ⟨b1, b2, b3⟩ := I.st 0
    rw [← e1] at b1 b2 b3
    have hk2 := hk
    rw [(I3 _ (isp_p z).2).1] at hk2
    obtain ⟨z1, z2⟩ := isp_p z
    have V9 := V _ z2 hk2
    obtain ⟨m', om', -, -, I3'⟩ := id b1
    obtain ⟨g1, g2, g3⟩ := (I3' _ z2).2.2 hk2
    obtain ⟨d, rfl⟩ : ∃ e, d = e + 1 := ⟨d - 1, by omega⟩
    have fin : ∀ r : Int32, r.toInt = gtn (S.2.2.2 (pN a)) → K (some (.int r)) h1 := fun r hr => kk.a (out2_0 z hk2) b1 b2 b3 ⟨_, rfl, fun _ => hr⟩
    have e0 : ix (20 * a) = 20 * pN a := i_ix (i20 z1 z2)
    refine w_X7_tendsTo (by omega) (b2.sg hs) ⟨i_Ix z1 z2, fun w => ⟨0, rfl, b2.sg hs, fin 0 ?_⟩, fun w => ⟨i_Ix (i20 z1 z2) (by omega), fun v => ⟨i_Ix (i20 z1 z2) (by omega), fun v2 => ⟨i_Ix (i20 z1 z2) (by omega), fun v3 => ⟨3, rfl, b2.sg hs, fin 3 ?_⟩, fun v3 => ⟨2, rfl, b2.sg hs, fin 2 ?_⟩⟩, fun v2 => ⟨1, rfl, b2.sg hs, fin 1 ?_⟩⟩, fun v => ⟨0, rfl, b2.sg hs, fin 0 ?_⟩⟩⟩
    all_goals rw [i_ix z1] at w
    · have : (S.2.2.2 (pN a)).length = 0 := by have := i_ne.mp w; omega
      rw [List.eq_nil_of_length_eq_zero this]; rfl
    all_goals
      cases hL : S.2.2.2 (pN a) with
      | nil => exact absurd (i_ne.mpr (by rw [g1, hL]; rfl)) w
      | cons p L =>
        rw [hL] at g3 V9
        obtain ⟨v7, v8⟩ := g3 0 p.1 p.2 rfl
        rw [Nat.add_zero] at v7 v8
        have cmp := g_cmp (V9.D p List.mem_cons_self) (f := (0, 0, 0, 0)) (by unfold gE; decide)
        have k0 : gck (0, 0, 0, 0) = 550293209600 := rfl
        have k1 : gmk (0, 0, 0, 0) = 12928480800 := rfl
        rw [k0, k1] at cmp
        rw [e0] at *
        show _ = (if gck p.1 < 550293209600 then 0 else if gck p.1 = 550293209600 then 1 else if 0 < p.2 then 2 else 3 : Int)
        have t0 : (0 : Int32).toInt = 0 := rfl
        have eq0 : p.1 = (0, 0, 0, 0) → gck p.1 = 550293209600 ∧ gmk p.1 = 12928480800 := fun q => by rw [q]; exact ⟨rfl, rfl⟩
        first
          | (rw [j_le, lvl_i, v7] at v
             have v2' : ¬ gmk p.1 = 12928480800 := fun q9 => v2 (Int64.toInt_inj.mp (by rw [v7, q9, lvl_i]))
             rw [i_le, v8, t0] at v3
             rcases cmp with ⟨c1, c2, _⟩ | c1 | ⟨c1, c2, _⟩
             · omega
             · have := eq0 c1; omega
             · rw [if_neg (by omega), if_neg (by omega)]
               first
                 | (rw [if_neg (by omega)]; rfl)
                 | (rw [if_pos (by omega)]; rfl))
          | (rw [j_le, lvl_i, v7] at v
             have v2' := congrArg Int64.toInt (Classical.not_not.mp v2)
             rw [v7, lvl_i] at v2'
             rcases cmp with ⟨c1, c2, _⟩ | c1 | ⟨c1, c2, _⟩
             · omega
             · rw [if_neg (by have := eq0 c1; omega), if_pos (eq0 c1).1]; rfl
             · omega)
          | (rw [j_le, lvl_i, v7] at v
             rcases cmp with ⟨c1, c2, _⟩ | c1 | ⟨c1, c2, _⟩
             · rw [if_pos c1]; rfl
             · have := eq0 c1; omega
             · omega)
  · refine w_X7_tends_28 (by omega) hs (fun h1 e1 => ⟨fun v => absurd v (by decide), fun _ => ?_⟩)
    obtain ⟨b1, b2, b3⟩ := I.st 2
    rw [← e1] at b1 b2 b3
    exact kk.b (out2_2 z (fun v => hk (by rw [(I3 _ (isp_p z).2).1]; exact v))) (by decide) b1 b2 (by rw [b3]; rfl) ⟨_, rfl, fun w => w.elim⟩
  · refine w_X7_tends_28 (by omega) hs (fun h1 e1 => ⟨fun v => absurd v n1_0, fun _ => ?_⟩)
    obtain ⟨b1, b2, b3⟩ := I.st 1
    rw [← e1] at b1 b2 b3
    exact kk.b (out2_1 z) (by decide) b1 b2 (by rw [b3]; rfl) ⟨_, rfl, fun w => w.elim⟩
theorem m_part {a b c : Int32} (hd : 50 ≤ d) (hs : Sg h.1 y) (I : MI h S) (V : VG S) (kk : KM h 2 (f_part a b c S) K) : Ca d m_X7_part [.ref 77, .int a, .int b, .int c] h K E := by
  obtain ⟨d, rfl⟩ : ∃ e, d = e + 1 := ⟨d - 1, by omega⟩
  obtain ⟨m, om, I1, I2, I3⟩ := id I
  have rc : (0 ≤ ((c : Int32).toInt64) ∧ ((c : Int32).toInt64) ≤ 4) ↔ (0 ≤ c.toInt ∧ c.toInt ≤ 4) := i_rng rfl rfl
  have bad : ∀ (st : Nat) (s0 : Int32) (u4 : Option Value), s0.toInt = st → ¬ s0 = 0 → ¬ st = 0 → f_part a b c S = (st, 0, S) → b_X7_part_68 d 77 a b c u4 s0 77 h K E := by
    intro st s0 u4 e0 n0 nst eo
    refine w_X7_part_68 (by omega) hs (fun h3 e3 => ⟨fun v => absurd v n0, fun _ => ?_⟩)
    obtain ⟨b1, b2, b3⟩ := I.st s0
    rw [← e3] at b1 b2 b3
    exact kk.b eo nst b1 b2 (by rw [b3]; exact e0) ⟨_, rfl, fun w => w.elim⟩
  have no1 : ¬ (isp a ∧ 0 ≤ b.toInt) → b_X7_part_15 d 77 a b c none h K E := fun w => w_X7_part_15 (by omega) hs (w_X7_part_16 (by omega) hs ⟨fun v => absurd rfl v, fun _ => bad 1 1 _ rfl n1_0 (by decide) (out3_1 w)⟩)
  refine w_X7_part (by omega) hs ⟨fun z => ⟨fun w => no1 (fun v => ?_), fun w => ?_⟩, fun z => no1 (fun v => z v.1)⟩
  · rw [i_lt, i_0] at w; omega
  rw [i_lt, i_0] at w
  have z2 : 0 ≤ b.toInt := by omega
  obtain ⟨y1, y2⟩ := isp_p z
  refine w_X7_part_16 (by omega) hs ⟨fun _ => ⟨fun w3 => ?_, fun w3 => bad 2 2 _ rfl (by decide) (by decide) (out3_2 ⟨z, z2⟩ (fun v => w3 (rc.mpr v)))⟩, fun v => absurd n1_0 v⟩
  rw [rc] at w3
  have no3 : ¬ (S.1 (pN a) = 3 ∧ b.toInt < (S.2.2.2 (pN a)).length) → ∀ u4, b_X7_part_63 d 77 a b c u4 77 h K E := fun v u4 => w_X7_part_63 (by omega) hs (bad 3 3 _ rfl (by decide) (by decide) (out3_3 ⟨z, z2⟩ w3 v))
  refine t_X7_isKind (by omega) hs y1 y2 (fun hk => ⟨1, rfl, hs, fun v => absurd v n1_0, fun _ => ⟨i_Ix y1 y2, ?_⟩⟩) (fun hk => ⟨0, rfl, hs, fun _ => no3 (fun v => hk (by rw [(I3 _ y2).1]; exact v.1)) _, fun v => absurd rfl v⟩)
  rw [i_ix y1]
  have hk2 := hk
  rw [(I3 _ y2).1] at hk2
  have V9 := V _ y2 hk2
  have l20 := V9.2.2.1
  obtain ⟨g1, g2, g3⟩ := (I3 _ y2).2.2 hk2
  refine ⟨fun q => ?_, fun q => no3 (fun v => q (by rw [i_lt, g1]; exact v.2)) _⟩
  rw [i_lt, g1] at q
  refine w_X7_part_68 (by omega) hs (fun h1 e1 => ⟨fun _ => ?_, fun v => absurd rfl v⟩)
  obtain ⟨b1, b2, b3⟩ := I.st 0
  rw [← e1] at b1 b2 b3
  obtain ⟨k, hk9⟩ : ∃ k : Nat, b.toInt = k := ⟨b.toInt.toNat, by omega⟩
  have hx := i20k y1 y2 hk9 (by omega)
  obtain ⟨f, n, g⟩ := gget (A := S.2.2.2 (pN a)) (m := k) (by omega)
  obtain ⟨v1, v2⟩ := g3 k f n g
  have c90 : h1.2.2.1 90 = h.2.2.1 90 := by rw [e1]; rfl
  have c91 : h1.2.1 91 = h.2.1 91 := by rw [e1, sI_nq _ _ (by omega)]
  have eo : f_part a b c S = (0, (if c.toInt = 0 then n else gex c.toInt.toNat f), S) := by
    unfold f_part
    rw [show b.toInt.toNat = k by omega, g]
    exact out3_0 ⟨z, z2⟩ w3 ⟨hk2, q⟩
  obtain ⟨d, rfl⟩ : ∃ e, d = e + 1 := ⟨d - 1, by omega⟩
  refine w_X7_toldPart (by omega) (b2.sg hs) ⟨fun w => ⟨i_Ix hx (by omega), ⟨_, rfl, b2.sg hs, kk.a eo b1 b2 b3 ⟨_, rfl, fun _ => ?_⟩⟩⟩, fun w => ⟨i_Ix hx (by omega), ⟨_, rfl, b2.sg hs, kk.a eo b1 b2 b3 ⟨_, rfl, fun _ => ?_⟩⟩⟩⟩
  · have ne : ¬ c.toInt = 0 := fun q9 => w (i_ne.mpr q9)
    rw [if_neg ne, i_ix hx, c90]
    exact xpn4_i v1 (V9.D _ (List.mem_of_getElem? g)) (by omega) (by omega) (by omega)
  · rw [if_pos (i_ne.mp (Classical.not_not.mp w)), i_2j, i_ix hx, c91]
    exact v2
theorem m_term {a b e1 e2 e3 e4 : Int32} (hd : 50 ≤ d) (hs : Sg h.1 y) (I : MI h S) (kk : KM h 0 (f_term a b e1 e2 e3 e4 S) K) : Ca d m_X7_term [.ref 77, .int a, .int b, .int e1, .int e2, .int e3, .int e4] h K E := by
  obtain ⟨d, rfl⟩ : ∃ e, d = e + 1 := ⟨d - 1, by omega⟩
  have r0 : ((-1000000) ≤ ((b : Int32).toInt64) ∧ ((b : Int32).toInt64) ≤ 1000000) ↔ (-1000000 ≤ b.toInt ∧ b.toInt ≤ 1000000) := i_rng rfl rfl
  have r1 : ∀ x : Int32, ((-20) ≤ ((x : Int32).toInt64) ∧ ((x : Int32).toInt64) ≤ 20) ↔ (-20 ≤ x.toInt ∧ x.toInt ≤ 20) := fun x => i_rng rfl rfl
  have bad : ∀ (st : Nat) (s0 : Int32) (u7 : Option Int32) (u8 : Option Value), s0.toInt = st → ¬ s0 = 0 → ¬ st = 0 → f_term a b e1 e2 e3 e4 S = (st, 0, S) → b_X7_term_102 d 77 a b e1 e2 e3 e4 u7 u8 s0 77 h K E := by
    intro st s0 u7 u8 e0 n0 nst eo
    refine w_X7_term_102 (by omega) hs (fun h3 e3 => ⟨fun v => absurd v n0, fun _ => ?_⟩)
    obtain ⟨b1, b2, b3⟩ := I.st s0
    rw [← e3] at b1 b2 b3
    exact kk.b eo nst b1 b2 (by rw [b3]; exact e0) rfl
  have no : ¬ ((-1000000 ≤ b.toInt ∧ b.toInt ≤ 1000000) ∧ (-20 ≤ e1.toInt ∧ e1.toInt ≤ 20) ∧ (-20 ≤ e2.toInt ∧ e2.toInt ≤ 20) ∧ (-20 ≤ e3.toInt ∧ e3.toInt ≤ 20) ∧ -20 ≤ e4.toInt ∧ e4.toInt ≤ 20) → b_X7_term_77 d 77 a b e1 e2 e3 e4 none none h K E := fun w => w_X7_term_77 (by omega) hs (w_X7_term_78 (by omega) hs ⟨fun z => ⟨fun v => absurd rfl v, fun _ => bad 2 2 _ _ rfl (by decide) (by decide) (out2_2 z w)⟩, fun z => bad 1 1 _ _ rfl n1_0 (by decide) (out2_1 z)⟩)
  refine w_X7_term (by omega) hs ⟨fun w0 => ⟨fun w1 => ⟨fun w2 => ⟨fun w3 => ⟨fun w4 => ?_, fun w => no (fun v => w ((r1 _).mpr v.2.2.2.2))⟩, fun w => no (fun v => w ((r1 _).mpr v.2.2.2.1))⟩, fun w => no (fun v => w ((r1 _).mpr v.2.2.1))⟩, fun w => no (fun v => w ((r1 _).mpr v.2.1))⟩, fun w => no (fun v => w (r0.mpr v.1))⟩
  rw [r0] at w0
  rw [r1] at w1 w2 w3 w4
  refine w_X7_term_78 (by omega) hs ⟨fun z => ⟨fun _ => ?_, fun v => absurd n1_0 v⟩, fun z => bad 1 1 _ _ rfl n1_0 (by decide) (out2_1 z)⟩
  obtain ⟨z1, z2⟩ := isp_p z
  refine w_X7_term_102 (by omega) hs (fun h1 q1 => ⟨fun _ h2 q2 => ?_, fun v => absurd rfl v⟩)
  obtain ⟨b1, b2, b3⟩ := I.st 0
  rw [← q1] at b1 b2 b3
  have hs1 := b2.sg hs
  have F2 : Fg h1 h2 := Fg.ei q2
  have M2 := Mm.z h1
  rw [← q2] at M2
  have hE : e99 (e1.toInt, e2.toInt, e3.toInt, e4.toInt) := by unfold e99; dsimp only; omega
  have u1 : (unt 1).toInt = 64481201 := rfl
  have u2 : (unt 2).toInt = 160801 := rfl
  have u3 : (unt 3).toInt = 401 := rfl
  have p1 : (e1.toInt64 * unt 1).toInt = e1.toInt * 64481201 := by rw [j_mul (by rw [i_2j, u1]; omega) (by rw [i_2j, u1]; omega), i_2j, u1]
  have p2 : (e2.toInt64 * unt 2).toInt = e2.toInt * 160801 := by rw [j_mul (by rw [i_2j, u2]; omega) (by rw [i_2j, u2]; omega), i_2j, u2]
  have p3 : (e3.toInt64 * unt 3).toInt = e3.toInt * 401 := by rw [j_mul (by rw [i_2j, u3]; omega) (by rw [i_2j, u3]; omega), i_2j, u3]
  have s1 : (lvl + e1.toInt64 * unt 1).toInt = 12928480800 + e1.toInt * 64481201 := by rw [j_add (by rw [lvl_i, p1]; omega) (by rw [lvl_i, p1]; omega), lvl_i, p1]
  have s2 : (lvl + e1.toInt64 * unt 1 + e2.toInt64 * unt 2).toInt = 12928480800 + e1.toInt * 64481201 + e2.toInt * 160801 := by rw [j_add (by rw [s1, p2]; omega) (by rw [s1, p2]; omega), s1, p2]
  have s3 : (lvl + e1.toInt64 * unt 1 + e2.toInt64 * unt 2 + e3.toInt64 * unt 3).toInt = 12928480800 + e1.toInt * 64481201 + e2.toInt * 160801 + e3.toInt * 401 := by rw [j_add (by rw [s2, p3]; omega) (by rw [s2, p3]; omega), s2, p3]
  have s4 : (lvl + e1.toInt64 * unt 1 + e2.toInt64 * unt 2 + e3.toInt64 * unt 3 + e4.toInt64).toInt = gmk (e1.toInt, e2.toInt, e3.toInt, e4.toInt) := by
    rw [j_add (by rw [s3, i_2j]; omega) (by rw [s3, i_2j]; omega), s3, i_2j]
    unfold gmk
    dsimp only
    omega
  have eg : gnz (gin (e1.toInt, e2.toInt, e3.toInt, e4.toInt) b.toInt []) = g1 (e1.toInt, e2.toInt, e3.toInt, e4.toInt) b.toInt := gnz_1 _ _
  have fit : gfit (g1 (e1.toInt, e2.toInt, e3.toInt, e4.toInt) b.toInt) := by
    refine ⟨by have := len_g1 (e1.toInt, e2.toInt, e3.toInt, e4.toInt) b.toInt; omega, fun p hp => ?_⟩
    rw [(mem_g1 hp).1]
    exact ⟨by dsimp only; omega, hE⟩
  refine t_X7_joins (bb := 0) (g := 1000000) (L := []) (by omega) (F2.sg hs1) M2 trivial (fun p hp => absurd hp List.not_mem_nil) (by show 0 < 400; omega) (e99_E hE) s4 (i_2j _) (fun p hp => absurd hp List.not_mem_nil) w0 (by omega) (by omega) (fun h3 M3 F3 => ⟨rfl, F3.sg (F2.sg hs1), ?_⟩)
  have hs3 := F3.sg (F2.sg hs1)
  have dL : gD (gin (e1.toInt, e2.toInt, e3.toInt, e4.toInt) b.toInt []) := gD_gin (e99_E hE) (fun p hp => absurd hp List.not_mem_nil)
  refine t_X7_fits (by omega) hs3 M3 dL (fun f h4 M4 F4 => ⟨1, rfl, F4.sg hs3, ?_⟩) (fun f => absurd (by rw [eg]; exact fit) f)
  obtain ⟨d1, d2, d3⟩ := b1.fg ((F2.tr F3).tr F4)
  rw [eg] at M4
  refine t_X7_laysGrowth (by omega) (F4.sg hs3) d1 z1 z2 M4 fit (fun h5 I5 F5 t5 => ⟨rfl, F5.sg (F4.sg hs3), kk.a (out2_0 z ⟨w0, w1, w2, w3, w4⟩) I5 ((b2.tr d2).tr F5) (t5.trans (d3.trans b3)) rfl⟩)
end
