/-! ===== layer 2: the model's sums, products, differences, comparisons, derivatives ===== -/
section
variable {d : Nat} {h : XH} {y : Nat → Nat} {S : XS} {K : XK} {E : XE}
theorem m_derive {a b : Int32} (hd : 50 ≤ d) (hs : Sg h.1 y) (I : MI h S) (V : VG S) (kk : KM h 0 (f_derive a b S) K) : Ca d m_X7_derive [.ref 77, .int a, .int b] h K E := by
  obtain ⟨d, rfl⟩ : ∃ e, d = e + 1 := ⟨d - 1, by omega⟩
  obtain ⟨m, om, I1, I2, I3⟩ := id I
  have fin : ∀ (st : Nat) (v : Int32) (h1 h2 : XH), MI h1 S → FM h h1 → h2 = x_setI h1 77 0 v → v.toInt = st → ¬ st = 0 → f_derive a b S = (st, 0, S) → K none h2 := by
    intro st v h1 h2 J1 F1 e2 ev nst eo
    obtain ⟨b1, b2, b3⟩ := J1.st v
    rw [← e2] at b1 b2 b3
    exact kk.b eo nst b1 (F1.tr b2) (by rw [b3]; exact ev) rfl
  have no1 : ¬ (isp a ∧ isp b) → b_X7_derive_18 d 77 a b none none h K E := fun w => w_X7_derive_18 (by omega) hs (w_X7_derive_19 (by omega) hs ⟨fun _ => w_X7_derive_50 (by omega) hs (w_X7_derive_51 (by omega) hs ⟨fun v => absurd rfl v, fun _ h3 e3 => fin 1 1 h h3 I (FM.rf _) e3 rfl (by decide) (out2_1 w)⟩), fun v => absurd rfl v⟩)
  refine w_X7_derive (by omega) hs ⟨fun z1 => ⟨fun z2 => ?_, fun w => no1 (fun v => w v.2)⟩, fun w => no1 (fun v => w v.1)⟩
  have no2 : ∀ (h1 : XH) (u1 u2 u4 : Option Value), MI h1 S → FM h h1 → ¬ (S.1 (pN b) = 3 ∧ gfit (gnz (gdv (S.2.2.2 (pN b)) []))) → b_X7_derive_50 d 77 u1 u2 1 u4 h1 K E := fun h1 u1 u2 u4 J1 F1 w => w_X7_derive_50 (by omega) (F1.sg hs) (w_X7_derive_51 (by omega) (F1.sg hs) ⟨fun _ => ⟨fun v => absurd rfl v, fun _ h3 e3 => fin 2 2 h1 h3 J1 F1 e3 rfl (by decide) (out2_2 ⟨z1, z2⟩ w)⟩, fun v => absurd n1_0 v⟩)
  obtain ⟨x1, x2⟩ := isp_p z1
  obtain ⟨y1, y2⟩ := isp_p z2
  refine w_X7_derive_19 (by omega) hs ⟨fun v => absurd v n1_0, fun _ => t_X7_isKind (by omega) hs y1 y2 (fun hk => ⟨1, rfl, hs, fun v => absurd v n1_0, fun _ => ?_⟩) (fun hk => ⟨0, rfl, hs, fun _ => no2 h _ _ _ I (FM.rf _) (fun v => hk (by rw [(I3 _ y2).1]; exact v.1)), fun v => absurd rfl v⟩)⟩
  have hk2 := hk
  rw [(I3 _ y2).1] at hk2
  have V9 := V _ y2 hk2
  refine t_X7_derives (by omega) hs y1 y2 ((I3 _ y2).2.2 hk2) V9 (fun f h2 M2 F2 => ⟨1, rfl, F2.sg hs, ?_⟩) (fun f h2 M2 F2 => ⟨0, rfl, F2.sg hs, ?_⟩)
  · obtain ⟨d1, d2, d3⟩ := I.fg F2
    refine t_X7_setsGrowth (by omega) (F2.sg hs) d1 x1 x2 M2 (fun _ _ h4 I4 F4 t4 => ⟨1, rfl, F4.sg (F2.sg hs), fun v => absurd v n1_0, fun _ => w_X7_derive_51 (by omega) (F4.sg (F2.sg hs)) ⟨fun _ => ⟨fun _ h5 e5 => ?_, fun v => absurd n1_0 v⟩, fun v => absurd n1_0 v⟩⟩) (fun v => absurd v n1_0) (Or.inr ⟨rfl, f⟩)
    obtain ⟨b1, b2, b3⟩ := I4.st 0
    rw [← e5] at b1 b2 b3
    exact kk.a (out2_0 ⟨z1, z2⟩ ⟨hk2, f⟩) b1 ((d2.tr F4).tr b2) b3 rfl
  · obtain ⟨d1, d2, d3⟩ := I.fg F2
    exact t_X7_setsGrowth (by omega) (F2.sg hs) d1 x1 x2 M2 (fun v => absurd v.symm n1_0) (fun _ => ⟨0, rfl, F2.sg hs, fun _ => no2 h2 _ _ _ d1 d2 (fun v => f v.2), fun v => absurd rfl v⟩) (Or.inl rfl)
theorem m_compare {a b : Int32} (hd : 50 ≤ d) (hs : Sg h.1 y) (I : MI h S) (V : VG S) (W : VK S) (kk : KM h 1 (f_compare a b S) K) : Ca d m_X7_compare [.ref 77, .int a, .int b] h K E := by
  obtain ⟨d, rfl⟩ : ∃ e, d = e + 1 := ⟨d - 1, by omega⟩
  obtain ⟨m, om, -, -, I3⟩ := id I
  have bad : ∀ (st : Nat) (s0 : Int32) (u3 : Option Value), s0.toInt = st → ¬ s0 = 0 → ¬ st = 0 → f_compare a b S = (st, 0, S) → b_X7_compare_58 d 77 a b u3 s0 77 h K E := by
    intro st s0 u3 e0 n0 nst eo
    refine w_X7_compare_58 (by omega) hs (fun h3 e3 => ⟨fun v => absurd v n0, fun _ => ?_⟩)
    obtain ⟨b1, b2, b3⟩ := I.st s0
    rw [← e3] at b1 b2 b3
    exact kk.b eo nst b1 b2 (by rw [b3]; exact e0) ⟨_, rfl, fun w => w.elim⟩
  have no1 : ¬ (isp a ∧ isp b) → b_X7_compare_18 d 77 a b none h K E := fun w => w_X7_compare_18 (by omega) hs (w_X7_compare_19 (by omega) hs ⟨fun v => absurd rfl v, fun _ => bad 1 1 _ rfl n1_0 (by decide) (out2_1 w)⟩)
  refine w_X7_compare (by omega) hs ⟨fun z1 => ⟨fun z2 => ?_, fun w => no1 (fun v => w v.2)⟩, fun w => no1 (fun v => w v.1)⟩
  obtain ⟨x1, x2⟩ := isp_p z1
  obtain ⟨y1, y2⟩ := isp_p z2
  have no2 : ¬ (¬ S.1 (pN a) = 0 ∧ S.1 (pN a) = S.1 (pN b)) → ∀ u3, b_X7_compare_53 d 77 a b u3 77 h K E := fun w u3 => w_X7_compare_53 (by omega) hs (bad 2 2 _ rfl (by decide) (by decide) (out2_2 ⟨z1, z2⟩ w))
  refine w_X7_compare_19 (by omega) hs ⟨fun _ => t_X7_isKind (by omega) hs x1 x2 (fun hk => ⟨1, rfl, hs, fun _ => no2 (fun v => v.1 (by rw [← (I3 _ x2).1]; exact hk)) _, fun v => absurd n1_0 v⟩) (fun hk => ⟨0, rfl, hs, fun v => absurd rfl v, fun _ => ⟨i_Ix x1 x2, i_Ix y1 y2, ?_⟩⟩), fun v => absurd n1_0 v⟩
  rw [i_ix x1, i_ix y1, (I3 _ x2).1, (I3 _ y2).1]
  rw [(I3 _ x2).1] at hk
  refine ⟨fun ke => w_X7_compare_58 (by omega) hs (fun h1 e1 => ⟨fun _ => ?_, fun v => absurd rfl v⟩), fun w => no2 (fun v => w v.2) _⟩
  obtain ⟨b1, b2, b3⟩ := I.st 0
  rw [← e1] at b1 b2 b3
  have hs1 := b2.sg hs
  obtain ⟨m1, om1, J1, J2, J3⟩ := id b1
  obtain ⟨d, rfl⟩ : ∃ e, d = e + 1 := ⟨d - 1, by omega⟩
  refine w_X7_comparedBoth (by omega) hs1 (t_X7_isKind (by omega) hs1 x1 x2 (fun k2 => ⟨1, rfl, hs1, fun v => absurd v n1_0, fun _ => ⟨i_Ix x1 x2, i_Ix y1 y2, ?_⟩⟩) (fun k2 => ⟨0, rfl, hs1, fun _ => t_X7_isKind (by omega) hs1 x1 x2 (fun k1 => ⟨1, rfl, hs1, fun v => absurd v n1_0, fun _ => ⟨i_Ix x1 x2, i_Ix y1 y2, ?_⟩⟩) (fun k1 => ⟨0, rfl, hs1, fun _ => ?_, fun v => absurd rfl v⟩), fun v => absurd rfl v⟩))
  · rw [(J3 _ x2).1] at k2
    have k2b : S.1 (pN b) = 2 := by rw [← ke]; exact k2
    have v1 := (J3 _ x2).2.1 k2
    have v2 := (J3 _ y2).2.1 k2b
    rw [i_ix x1, i_ix y1]
    have fin : ∀ r : Int32, r.toInt = csg (S.2.2.1 (pN a)) (S.2.2.1 (pN b)) → ∃ x3, (some (Value.int r)) = some (.int x3) ∧ Sg h1.1 y ∧ K (some (.int x3)) h1 := fun r hr => ⟨r, rfl, hs1, kk.a (out2_0 ⟨z1, z2⟩ ⟨hk, ke⟩) b1 b2 b3 ⟨_, rfl, fun _ => by rw [if_neg (by rw [k2]; decide), if_pos k2]; exact hr⟩⟩
    refine ⟨fun w => ⟨i_Ix x1 x2, i_Ix y1 y2, fun w2 => fin 0 ?_, fun w2 => fin (-1) ?_⟩, fun w => fin 1 ?_⟩
    · rw [i_le, v1, v2] at w w2
      unfold csg
      rw [if_neg (by omega), if_pos (by omega)]; rfl
    · rw [i_le, v1, v2] at w w2
      unfold csg
      rw [if_pos (by omega)]; rfl
    · rw [i_le, v1, v2] at w
      unfold csg
      rw [if_neg (by omega), if_neg (by omega)]; rfl
  · have k1' := k1
    rw [(J3 _ x2).1] at k1
    have k1b : S.1 (pN b) = 1 := by rw [← ke]; exact k1
    obtain ⟨i, i1, i2, i3⟩ := J2 _ x2 k1'
    obtain ⟨j, j1, j2, j3⟩ := J2 _ y2 (by rw [(J3 _ y2).1]; exact k1b)
    rw [i_ix x1, i_ix y1]
    refine t_X7_compared (by omega) hs1 J1 i2 j2 i1 j1 (fun r hr => ⟨r, rfl, hs1, r, rfl, hs1, kk.a (out2_0 ⟨z1, z2⟩ ⟨hk, ke⟩) b1 b2 b3 ⟨_, rfl, fun _ => ?_⟩⟩)
    rw [if_pos k1, hr, i3, j3]
  · rw [(J3 _ x2).1] at k1 k2
    have k3 := k3_of W x2 hk k1 k2
    have k3b : S.1 (pN b) = 3 := by rw [← ke]; exact k3
    have V1 := V _ x2 k3
    have V2 := V _ y2 k3b
    have cD : gcan (gnz (gsm (S.2.2.2 (pN a)) (S.2.2.2 (pN b)) (-1))) := by
      obtain ⟨c1, c2⟩ := gsm_can (s := -1) V1 V2
      exact ⟨gs_gnz c1, gD_gnz c2, gNZ_gnz _⟩
    have hh := gcp_hd (S.2.2.2 (pN a)) (S.2.2.2 (pN b)) _ V1.can V2.can cD (fun e => by
      rw [gco_gnz]
      unfold gsm
      rw [gco_gja, gco_gja]
      show (0 : Int) + 1 * gco (S.2.2.2 (pN a)) e + (-1) * gco (S.2.2.2 (pN b)) e = _
      omega)
    have fin : ∀ (r : Int32) (h2 : XH) (F2 : Fg h1 h2), r.toInt = ghd (gnz (gsm (S.2.2.2 (pN a)) (S.2.2.2 (pN b)) (-1))) → ∃ x3, (some (Value.int r)) = some (.int x3) ∧ Sg h2.1 y ∧ ∃ x4, (some (Value.int x3)) = some (.int x4) ∧ Sg h2.1 y ∧ K (some (.int x4)) h2 := by
      intro r h2 F2 hr
      obtain ⟨d1, d2, d3⟩ := b1.fg F2
      refine ⟨r, rfl, F2.sg hs1, r, rfl, F2.sg hs1, kk.a (out2_0 ⟨z1, z2⟩ ⟨hk, ke⟩) d1 (b2.tr d2) (d3.trans b3) ⟨_, rfl, fun _ => ?_⟩⟩
      rw [if_neg k1, if_neg k2, hr, hh]
    obtain ⟨d, rfl⟩ : ∃ e, d = e + 1 := ⟨d - 1, by omega⟩
    have both : ∀ (r : Int32) (h2 : XH), Mm h2 (gnz (gsm (S.2.2.2 (pN a)) (S.2.2.2 (pN b)) (-1))) → Fg h1 h2 → (¬ (h2.2.1 77 20) = 0 → (Ix 0 400 ∧ ((h2.2.2.1 93 (ix 0)) ≤ 0 → ∃ x6, (some (Value.int (-1))) = some (.int x6) ∧ Sg h2.1 y ∧ ∃ x4, (some (Value.int x6)) = some (.int x4) ∧ Sg h2.1 y ∧ K (some (.int x4)) h2) ∧ (¬ ((h2.2.2.1 93 (ix 0)) ≤ 0) → ∃ x6, (some (Value.int 1)) = some (.int x6) ∧ Sg h2.1 y ∧ ∃ x4, (some (Value.int x6)) = some (.int x4) ∧ Sg h2.1 y ∧ K (some (.int x4)) h2))) ∧ (¬ (¬ (h2.2.1 77 20) = 0) → ∃ x6, (some (Value.int 0)) = some (.int x6) ∧ Sg h2.1 y ∧ ∃ x4, (some (Value.int x6)) = some (.int x4) ∧ Sg h2.1 y ∧ K (some (.int x4)) h2) := by
      intro r h2 M2 F2
      obtain ⟨n1, n2, n3⟩ := M2
      have i0 : ix 0 = 0 := rfl
      have t0 : (0 : Int64).toInt = 0 := rfl
      cases hL : gnz (gsm (S.2.2.2 (pN a)) (S.2.2.2 (pN b)) (-1)) with
      | nil =>
        rw [hL] at n1
        exact ⟨fun w => absurd (i_ne.mpr (by rw [n1]; rfl)) w, fun _ => fin 0 h2 F2 (by rw [hL]; rfl)⟩
      | cons p L =>
        rw [hL] at n1 n3
        obtain ⟨v1, v2⟩ := n3 0 p.1 p.2 rfl
        have np : ¬ p.2 = 0 := cD.2.2 p (by rw [hL]; exact List.mem_cons_self)
        refine ⟨fun _ => ⟨by decide, fun w => fin (-1) h2 F2 ?_, fun w => fin 1 h2 F2 ?_⟩, fun w => absurd (i_ne.mp (Classical.not_not.mp w)) (by rw [n1, List.length_cons]; omega)⟩
        all_goals rw [i0, j_le, v2, t0] at w
        all_goals rw [hL]
        all_goals show _ = csg p.2 0
        all_goals unfold csg
        · rw [if_pos (by omega)]; rfl
        · rw [if_neg (by omega), if_neg (by omega)]; rfl
    refine w_X7_comparedGrowths (by omega) hs1 (t_X7_joinsBoth (by omega) hs1 x1 x2 y1 y2 rfl (Or.inr rfl) ((J3 _ x2).2.2 k3) V1 ((J3 _ y2).2.2 k3b) V2 (fun f h2 M2 F2 => ⟨1, rfl, F2.sg hs1, both 1 h2 M2 F2⟩) (fun f h2 M2 F2 => ⟨0, rfl, F2.sg hs1, both 0 h2 M2 F2⟩))
end
