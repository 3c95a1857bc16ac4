/-! ===== layer 2: the class's sums, products, differences, comparisons, derivatives ===== -/
theorem k3_of {S : XS} {p : Nat} (V : VK S) (hp : p < 16) (h0 : ¬ S.1 p = 0) (h1 : ¬ S.1 p = 1) (h2 : ¬ S.1 p = 2) : S.1 p = 3 := by
  rcases V p hp with z | z | z | z
  · exact absurd z h0
  · exact absurd z h1
  · exact absurd z h2
  · exact z
theorem n3_1 : ¬ (3 : Int32) = 1 := by decide
theorem n3_2 : ¬ (3 : Int32) = 2 := by decide
theorem n2_1 : ¬ (2 : Int32) = 1 := by decide
theorem f_sum_1 {a b c : Int32} {S : XS} (z : isp a ∧ isp b ∧ isp c) (k : S.1 (pN b) = 1) (k2 : S.1 (pN c) = 1) (ok : okm (addO (S.2.1 (pN b)) (S.2.1 (pN c)))) : f_sum a b c S = (0, 1, sO S (pN a) (addO (S.2.1 (pN b)) (S.2.1 (pN c)))) := by
  unfold f_sum
  rw [if_pos k]
  refine (out2_0 z ⟨by rw [k]; decide, by rw [k, k2], fun _ => ok, fun w => absurd (k.symm.trans w) (by decide), fun w => absurd (k.symm.trans w) (by decide)⟩).trans ?_
  rw [k]; rfl
theorem f_sum_2 {a b c : Int32} {S : XS} (z : isp a ∧ isp b ∧ isp c) (k : S.1 (pN b) = 2) (k2 : S.1 (pN c) = 2) (ok : fitN (S.2.2.1 (pN b) + S.2.2.1 (pN c))) : f_sum a b c S = (0, 2, sN S (pN a) (S.2.2.1 (pN b) + S.2.2.1 (pN c))) := by
  unfold f_sum
  rw [if_neg (by rw [k]; decide), if_pos k]
  refine (out2_0 z ⟨by rw [k]; decide, by rw [k, k2], fun w => absurd (k.symm.trans w) (by decide), fun _ => ok, fun w => absurd (k.symm.trans w) (by decide)⟩).trans ?_
  rw [k]; rfl
theorem f_sum_3 {a b c : Int32} {S : XS} (z : isp a ∧ isp b ∧ isp c) (k : S.1 (pN b) = 3) (k2 : S.1 (pN c) = 3) (ok : gfit (gnz (gsm (S.2.2.2 (pN b)) (S.2.2.2 (pN c)) 1))) : f_sum a b c S = (0, 3, sG S (pN a) (gnz (gsm (S.2.2.2 (pN b)) (S.2.2.2 (pN c)) 1))) := by
  unfold f_sum
  rw [if_neg (by rw [k]; decide), if_neg (by rw [k]; decide)]
  refine (out2_0 z ⟨by rw [k]; decide, by rw [k, k2], fun w => absurd (k.symm.trans w) (by decide), fun w => absurd (k.symm.trans w) (by decide), fun _ => ok⟩).trans ?_
  rw [k]; rfl
theorem f_product_1 {a b c : Int32} {S : XS} (z : isp a ∧ isp b ∧ isp c) (k : S.1 (pN b) = 1) (k2 : S.1 (pN c) = 1) (ok : mulok (S.2.1 (pN b)) (S.2.1 (pN c))) : f_product a b c S = (0, 1, sO S (pN a) (mulO (S.2.1 (pN b)) (S.2.1 (pN c)))) := by
  unfold f_product
  rw [if_pos k]
  refine (out2_0 z ⟨by rw [k]; decide, by rw [k, k2], fun _ => ok, fun w => absurd (k.symm.trans w) (by decide), fun w => absurd (k.symm.trans w) (by decide)⟩).trans ?_
  rw [k]; rfl
theorem f_product_2 {a b c : Int32} {S : XS} (z : isp a ∧ isp b ∧ isp c) (k : S.1 (pN b) = 2) (k2 : S.1 (pN c) = 2) (ok : S.2.2.1 (pN b) * S.2.2.1 (pN c) % 1048576 = 0 ∧ fitN (S.2.2.1 (pN b) * S.2.2.1 (pN c) / 1048576)) : f_product a b c S = (0, 2, sN S (pN a) (S.2.2.1 (pN b) * S.2.2.1 (pN c) / 1048576)) := by
  unfold f_product
  rw [if_neg (by rw [k]; decide), if_pos k]
  refine (out2_0 z ⟨by rw [k]; decide, by rw [k, k2], fun w => absurd (k.symm.trans w) (by decide), fun _ => ok, fun w => absurd (k.symm.trans w) (by decide)⟩).trans ?_
  rw [k]; rfl
theorem f_product_3 {a b c : Int32} {S : XS} (z : isp a ∧ isp b ∧ isp c) (k : S.1 (pN b) = 3) (k2 : S.1 (pN c) = 3) (ok : gfit (gnz (gmu (S.2.2.2 (pN c)) (S.2.2.2 (pN b)) []))) : f_product a b c S = (0, 3, sG S (pN a) (gnz (gmu (S.2.2.2 (pN c)) (S.2.2.2 (pN b)) []))) := by
  unfold f_product
  rw [if_neg (by rw [k]; decide), if_neg (by rw [k]; decide)]
  refine (out2_0 z ⟨by rw [k]; decide, by rw [k, k2], fun w => absurd (k.symm.trans w) (by decide), fun w => absurd (k.symm.trans w) (by decide), fun _ => ok⟩).trans ?_
  rw [k]; rfl
theorem f_difference_2 {a b c : Int32} {S : XS} (z : isp a ∧ isp b ∧ isp c) (k : S.1 (pN b) = 2) (k2 : S.1 (pN c) = 2) (ok : fitN (S.2.2.1 (pN b) - S.2.2.1 (pN c))) : f_difference a b c S = (0, 2, sN S (pN a) (S.2.2.1 (pN b) - S.2.2.1 (pN c))) := by
  unfold f_difference
  rw [if_pos k]
  refine (out2_0 z ⟨by rw [k]; decide, by rw [k, k2], by rw [k]; decide, fun _ => ok, fun w => absurd (k.symm.trans w) (by decide)⟩).trans ?_
  rw [k]; rfl
theorem f_difference_3 {a b c : Int32} {S : XS} (z : isp a ∧ isp b ∧ isp c) (k : S.1 (pN b) = 3) (k2 : S.1 (pN c) = 3) (ok : gfit (gnz (gsm (S.2.2.2 (pN b)) (S.2.2.2 (pN c)) (-1)))) : f_difference a b c S = (0, 3, sG S (pN a) (gnz (gsm (S.2.2.2 (pN b)) (S.2.2.2 (pN c)) (-1)))) := by
  unfold f_difference
  rw [if_neg (by rw [k]; decide)]
  refine (out2_0 z ⟨by rw [k]; decide, by rw [k, k2], by rw [k]; decide, fun w => absurd (k.symm.trans w) (by decide), fun _ => ok⟩).trans ?_
  rw [k]; rfl
section
variable {d c M : Nat} {h : XH} {y : Nat → Nat} {S : XS} {K : XK} {E : XE}
theorem KC.my {t st v : Nat} {ec : Nat → Nat} {o : XC} {h2 : XH} {y2 : Nat → Nat} (kk : KC M t ec c h y o K E) (I : CI h2 y2 c S) (F : FC 0 h y h2 y2) (e : o = (st, 0, S)) (hst : ¬ st = 0) (hv : ec st = v) : E v (x_new h2 (4, v, []) 6) := kk.b e hst hv (I.nw F.1).1 (F.tr (I.nw F.1).2)
/-- behind what lays an ordinal, with an answer -/
theorem Kx.l1 {p m t : Nat} {ec : Nat → Nat} {o : XC} {ov : Nat → O} {a : Int32} {x : O} {v : Int} {rv : Option Value} (hm : m ≤ M) (hd : 21 ≤ d) (P : PlC h c ov S) (z : isp a) (kk : KC M t ec c h y o K E) (e : o = (0, v, sO S (pN a) x)) (hrv : rvT t True v rv) : Kx p m h y c c ov x (fun rv2 h2 => ∃ x6, rv2 = some (.int x6) ∧ ∃ y7 : Nat → Nat, Sg h2.1 y7 ∧ Ca d m_X6_keepOrdinal [.ref 1, .int a, .int x6] h2 (fun rv3 h8 => rv3 = none ∧ Sg h8.1 y7 ∧ K rv h8) E) := Kx.l hm hd P z kk e hrv
theorem c_derive {a b : Int32} (hd : 50 ≤ d) (hs : Sg h.1 y) (I : CI h y c S) (V : VG S) (kk : KC M 0 ecS c h y (f_derive a b S) K E) : Ca d m_X6_derive [.ref 1, .int a, .int b] h K E := by
  obtain ⟨d, rfl⟩ : ∃ e, d = e + 1 := ⟨d - 1, by omega⟩
  obtain ⟨ov, I1, I2⟩ := id I
  have e4 : (4 : Int32).toInt = 4 := rfl
  refine w_X6_derive (by omega) hs (t_X6_needPlace (by omega) hs (fun z1 => ⟨rfl, hs, t_X6_needPlace (by omega) hs (fun z2 => ⟨rfl, hs, t_X6_growthAt (by omega) hs I2 z2 (fun w => ⟨_, rfl, hs, 20, sg_Gr hs (isp_p z2).2, by omega, ?_⟩) (fun w => kk.n I hs (out2_2 ⟨z1, z2⟩ (fun v => w v.1)) (by decide) rfl)⟩) (fun z => kk.n I hs (out2_1 (fun v => z v.2)) (by decide) rfl)⟩) (fun z => kk.n I hs (out2_1 (fun v => z v.1)) (by decide) rfl))
  have g := (I2 _ (isp_p z2).2).2.2.2 w
  have V9 := V _ (isp_p z2).2 w
  have hp := (isp_p z2).2
  have l20 := V9.2.2.1
  generalize hB : S.2.2.2 (pN b) = B at g V9 l20
  refine t_X4_restart (by omega) hs (fun h1 G1 F1 => ⟨rfl, F1.1, sg_Gr F1.1 hp, ?_⟩)
  have turn : ∀ (i : Nat) (w : Int32) (h1 : XH) (y1 : Nat → Nat) (A : GL) (m : Nat), w.toInt = i → 1 ≤ i → i ≤ 4 → Ft h y h1 y1 → Gc h1 (y1 8) A → gcan A → A.length ≤ 20 * m → m ≤ 3 → gB (9900000000 * (m : Int)) A → (∀ h2 y2 L, Gc h2 (y2 8) L → gcan L → L.length ≤ 20 * (m + 1) → gB (9900000000 * ((m + 1 : Nat) : Int)) L → (∀ f, gco L f = gco A f + gco (gsl i B) f) → Ft h y h2 y2 → b_X6_derive_24 d 1 a (some (.int b)) (29 + 3 * pN b) (w + 1) h2 K E) → b_X6_derive_24 d 1 a (some (.int b)) (29 + 3 * pN b) w h1 K E := by
    intro i w h1 y1 A m hw h1i h4i F1 GA cA lA hm bA next
    refine w_X6_derive_24 (by omega) F1.1 ⟨fun z => absurd (i_lt.mp z) (by rw [e4]; omega), fun _ => ?_⟩
    refine t_X4_addSlopes (by omega) F1.1 hp (g.ft F1) V9 hw h1i h4i GA cA (by omega) bA (by omega) (by omega) (fun h2 y2 L G2 c2 l2 b2 e2 F2 => ⟨rfl, y2, F2.1, next h2 y2 L G2 c2 (by omega) (gB_le b2 (by omega)) e2 (F1.tr F2)⟩)
  refine turn 1 1 h1 y [] 0 rfl (by omega) (by omega) F1 G1 gcan_nil (Nat.zero_le _) (by omega) (fun p hp => absurd hp List.not_mem_nil) (fun h2 y2 L2 G2 c2 l2 b2 q2 F2 => ?_)
  refine turn 2 _ h2 y2 L2 1 rfl (by omega) (by omega) F2 G2 c2 l2 (by omega) b2 (fun h3 y3 L3 G3 c3 l3 b3 q3 F3 => ?_)
  refine turn 3 _ h3 y3 L3 2 rfl (by omega) (by omega) F3 G3 c3 l3 (by omega) b3 (fun h4 y4 L4 G4 c4 l4 b4 q4 F4 => ?_)
  refine turn 4 _ h4 y4 L4 3 rfl (by omega) (by omega) F4 G4 c4 l4 (by omega) b4 (fun h5 y5 L5 G5 c5 l5 b5 q5 F5 => ?_)
  have eL : L5 = gnz (gdv B []) := by
    obtain ⟨s1, d1⟩ := gdv_can B [] (fun q hq => (V9.2.2.2 q hq).2) trivial (fun p hp => absurd hp List.not_mem_nil)
    refine gco_u c5.1 (gs_gnz s1) c5.2.1 (gD_gnz d1) c5.2.2 (gNZ_gnz _) (fun f => ?_)
    rw [q5, q4, q3, q2, gco_gnz, gco_gdv]
  obtain ⟨J5, C5⟩ := I.ft hs F5
  refine w_X6_derive_24 (by omega) F5.1 ⟨fun _ => ?_, fun z => absurd (i_lt.mpr (by rw [e4]; decide)) z⟩
  refine t_X6_keepGrowth (by omega) F5.1 J5 C5 z1 G5 c5 (fun f h6 I6 F6 => ⟨rfl, F6.1, kk.a (v := 0) (S2 := sG S (pN a) L5) ?_ (Nat.le_refl _) (by omega) I6 F6 rfl⟩) (fun f => kk.my J5 C5 (st := 2) ?_ (by decide) rfl)
  · unfold f_derive
    rw [hB, eL]
    rw [eL] at f
    exact out2_0 ⟨z1, z2⟩ ⟨w, f⟩
  · unfold f_derive
    rw [hB]
    rw [eL] at f
    exact out2_2 ⟨z1, z2⟩ (fun v => f v.2)
theorem c_compare {a b : Int32} (hd : 50 ≤ d) (hs : Sg h.1 y) (I : CI h y c S) (V : VG S) (W : VK S) (kk : KC M 1 ecS c h y (f_compare a b S) K E) : Ca d m_X6_compare [.ref 1, .int a, .int b] h K E := by
  obtain ⟨d, rfl⟩ : ∃ e, d = e + 1 := ⟨d - 1, by omega⟩
  obtain ⟨ov, I1, I2⟩ := id I
  refine w_X6_compare (by omega) hs (t_X6_needPlace (by omega) hs (fun z1 => ⟨rfl, hs, t_X6_needPlace (by omega) hs (fun z2 => ⟨rfl, hs, t_X6_commonKind (by omega) hs I2 z1 z2 (fun k0 ke => ⟨_, rfl, hs, fun q1 => ⟨fun q2 => ?_, fun q2 => ?_⟩, fun q1 => ?_⟩) (fun w => kk.n I hs (out2_2 ⟨z1, z2⟩ w) (by decide) rfl)⟩) (fun z => kk.n I hs (out2_1 (fun v => z v.2)) (by decide) rfl)⟩) (fun z => kk.n I hs (out2_1 (fun v => z v.1)) (by decide) rfl))
  · have k3 := k3_of W (isp_p z1).2 k0 q1 q2
    have k3b : S.1 (pN b) = 3 := by rw [← ke]; exact k3
    have V1 := V _ (isp_p z1).2 k3
    have V2 := V _ (isp_p z2).2 k3b
    refine t_X6_growthAt (by omega) hs I2 z1 (fun w => ⟨_, rfl, hs, 20, sg_Gr hs (isp_p z1).2, by omega, t_X6_growthAt (by omega) hs I2 z2 (fun w2 => ⟨_, rfl, hs, sg_Gr hs (isp_p z1).2, 20, sg_Gr hs (isp_p z2).2, by omega, ?_⟩) (fun w => absurd k3b w)⟩) (fun w => absurd k3 w)
    refine t_X1_comparedWith (by omega) hs (sg_Gr hs (isp_p z1).2) (by omega) (sg_Gr hs (isp_p z2).2) (by omega) ((I2 _ (isp_p z1).2).2.2.2 k3) ((I2 _ (isp_p z2).2).2.2.2 k3b) V1.2.2.1 V2.2.2.1 V1.can V2.can (fun r hr => ⟨r, rfl, hs, sg_Gr hs (isp_p z1).2, sg_Gr hs (isp_p z2).2, kk.a (out2_0 ⟨z1, z2⟩ ⟨k0, ke⟩) (Nat.le_refl _) (by omega) I (FC.rf hs) ⟨_, rfl, fun _ => ?_⟩⟩)
    rw [if_neg q1, if_neg q2]; exact hr
  · have k2 := Classical.not_not.mp q2
    have k2b : S.1 (pN b) = 2 := by rw [← ke]; exact k2
    refine t_X6_numberAt (by omega) hs I2 z1 (fun r w1 w2 => ⟨r, rfl, hs, t_X6_numberAt (by omega) hs I2 z2 (fun r2 w3 w4 => ⟨r2, rfl, hs, kk.a (out2_0 ⟨z1, z2⟩ ⟨k0, ke⟩) (Nat.le_refl _) (by omega) I (FC.rf hs) ⟨_, rfl, fun _ => ?_⟩⟩) (fun w => absurd k2b w)⟩) (fun w => absurd k2 w)
    rw [if_neg q1, if_pos k2, c_J_i, w2, w4]
  · have k1 := Classical.not_not.mp q1
    have k1b : S.1 (pN b) = 1 := by rw [← ke]; exact k1
    refine t_X6_ordinalAt (by omega) hs I2 z1 (fun r j w1 w2 w3 w4 => ⟨r, rfl, hs, t_X6_ordinalAt (by omega) hs I2 z2 (fun r2 j2 v1 v2 v3 v4 => ⟨r2, rfl, hs, t_X2_compared (by omega) hs I1 w2 v2 w3 v3 (fun r3 hr => ⟨r3, rfl, hs, kk.a (out2_0 ⟨z1, z2⟩ ⟨k0, ke⟩) (Nat.le_refl _) (by omega) I (FC.rf hs) ⟨_, rfl, fun _ => ?_⟩⟩)⟩) (fun w => absurd k1b w)⟩) (fun w => absurd k1 w)
    rw [if_pos k1, hr, w4, v4]
theorem t_X6_multipliedNumbers {a b : Int64} (hd : 21 ≤ d) (hs : Sg h.1 y) (k1 : (a * b).toInt % 1048576 = 0 → ∀ r : Int64, r.toInt = (a * b).toInt / 1048576 → K (some (.long r)) h) (k0 : ¬ (a * b).toInt % 1048576 = 0 → E 3 (x_new h (4, 3, []) 6)) : Ca d m_X6_multipliedNumbers [.long a, .long b] h K E := by
  obtain ⟨d, rfl⟩ : ∃ e, d = e + 1 := ⟨d - 1, by omega⟩
  exact w_X6_multipliedNumbers (by omega) hs ⟨fun w => k1 ((j_and20 _).mp w) _ (j_shr20 _), fun w => k0 (fun v => w ((j_and20 _).mpr v))⟩
theorem c_sum {a b e : Int32} (hd : 50 ≤ d) (hs : Sg h.1 y) (I : CI h y c S) (V : VG S) (W : VK S) (N : VN S) (hc : c + 10020 < 16384) (kk : KC 9 1 ecS c h y (f_sum a b e S) K E) : Ca d m_X6_sum [.ref 1, .int a, .int b, .int e] h K E := by
  obtain ⟨d, rfl⟩ : ∃ e, d = e + 1 := ⟨d - 1, by omega⟩
  obtain ⟨ov, I1, I2⟩ := id I
  refine w_X6_sum (by omega) hs (t_X6_needThree (by omega) hs (fun z => ⟨rfl, hs, t_X6_commonKind (by omega) hs I2 z.2.1 z.2.2 (fun k0 ke => ⟨_, rfl, hs, fun q1 => ⟨fun q2 => ?_, fun q2 => ?_⟩, fun q1 => ?_⟩) (fun w => kk.n I hs (out2_2 z (fun v => w ⟨v.1, v.2.1⟩)) (by decide) rfl)⟩) (fun z => kk.n I hs (out2_1 z) (by decide) rfl))
  all_goals obtain ⟨z0, z1, z2⟩ := id z
  · have k3 := k3_of W (isp_p z1).2 k0 q1 q2
    have k3b : S.1 (pN e) = 3 := by rw [← ke]; exact k3
    have V1 := V _ (isp_p z1).2 k3
    have V2 := V _ (isp_p z2).2 k3b
    refine t_X6_growthAt (by omega) hs I2 z1 (fun w => ⟨_, rfl, hs, 20, sg_Gr hs (isp_p z1).2, by omega, t_X6_growthAt (by omega) hs I2 z2 (fun w2 => ⟨_, rfl, hs, sg_Gr hs (isp_p z1).2, 20, sg_Gr hs (isp_p z2).2, by omega, ?_⟩) (fun w => absurd k3b w)⟩) (fun w => absurd k3 w)
    refine t_X6_addGrowths (si := 1) (by omega) hs (isp_p z1).2 (isp_p z2).2 ((I2 _ (isp_p z1).2).2.2.2 k3) V1 ((I2 _ (isp_p z2).2).2.2.2 k3b) V2 rfl (Or.inl rfl) (fun h2 y2 L G2 c2 e2 F2 => ⟨rfl, y2, F2.1, sg_Gr F2.1 (isp_p z1).2, sg_Gr F2.1 (isp_p z2).2, ?_⟩)
    have eL := gsm_eq V1 V2 c2 e2
    obtain ⟨J5, C5⟩ := I.ft hs F2
    refine t_X6_keepGrowth (by omega) F2.1 J5 C5 z0 G2 c2 (fun f h6 I6 F6 => ⟨rfl, F6.1, sg_Gr F6.1 (isp_p z1).2, sg_Gr F6.1 (isp_p z2).2, kk.a (v := 3) (S2 := sG S (pN a) L) ?_ (Nat.le_refl _) (by omega) I6 F6 ⟨_, rfl, fun _ => by rw [k3]; rfl⟩⟩) (fun f => kk.my J5 C5 (st := 2) ?_ (by decide) rfl)
    · rw [eL] at f ⊢
      exact f_sum_3 z k3 k3b f
    · rw [eL] at f
      exact out2_2 z (fun v => f (v.2.2.2.2 k3))
  · have k2 := Classical.not_not.mp q2
    have k2b : S.1 (pN e) = 2 := by rw [← ke]; exact k2
    have n1 := N _ (isp_p z1).2 k2
    have n2 := N _ (isp_p z2).2 k2b
    refine t_X6_numberAt (by omega) hs I2 z1 (fun r w1 w2 => ⟨r, rfl, hs, t_X6_numberAt (by omega) hs I2 z2 (fun r2 w3 w4 => ⟨r2, rfl, hs, ?_⟩) (fun w => absurd k2b w)⟩) (fun w => absurd k2 w)
    exact t_X6_keepNumber (v := S.2.2.1 (pN b) + S.2.2.1 (pN e)) (by omega) hs I (FC.rf hs) z0 (by rw [j_add (by rw [w2, w4]; unfold fitN at n1 n2; omega) (by rw [w2, w4]; unfold fitN at n1 n2; omega), w2, w4]) (fun f h2 I2 F2 _ => ⟨rfl, F2.1, kk.a (f_sum_2 z k2 k2b f) (Nat.le_refl _) (by omega) I2 F2 ⟨_, rfl, fun _ => by rw [k2]; rfl⟩⟩) (fun f => kk.n I hs (out2_2 z (fun v => f (v.2.2.2.1 k2))) (by decide) rfl)
  · have k1 := Classical.not_not.mp q1
    have k1b : S.1 (pN e) = 1 := by rw [← ke]; exact k1
    refine t_X6_ordinalAt (by omega) hs I2 z1 (fun r j w1 w2 w3 w4 => ⟨r, rfl, hs, t_X6_ordinalAt (by omega) hs I2 z2 (fun r2 j2 v1 v2 v3 v4 => ⟨r2, rfl, hs, ?_⟩) (fun w => absurd k1b w)⟩) (fun w => absurd k1 w)
    refine t_X2_added (i := j) (j := j2) (by omega) hs I1 w2 v2 w3 v3 (by omega) (Nat.le_refl _) (fun ok => ?_) (fun nok => ?_)
    · rw [w4, v4] at ok ⊢
      exact Kx.l (by omega) (by omega) I2 z0 kk (f_sum_1 z k1 k1b ok) ⟨_, rfl, fun _ => by rw [k1]; rfl⟩
    · rw [w4, v4] at nok
      exact kk.f I2 (st := 2) (out2_2 z (fun v => nok (v.2.2.1 k1))) (by decide) rfl
theorem c_product {a b e : Int32} (hd : 50 ≤ d) (hs : Sg h.1 y) (I : CI h y c S) (V : VG S) (W : VK S) (N : VN S) (hc : c + 10020 < 16384) (kk : KC 9 1 ecS c h y (f_product a b e S) K E) : Ca d m_X6_product [.ref 1, .int a, .int b, .int e] h K E := by
  obtain ⟨d, rfl⟩ : ∃ e, d = e + 1 := ⟨d - 1, by omega⟩
  obtain ⟨ov, I1, I2⟩ := id I
  refine w_X6_product (by omega) hs (t_X6_needThree (by omega) hs (fun z => ⟨rfl, hs, t_X6_commonKind (by omega) hs I2 z.2.1 z.2.2 (fun k0 ke => ⟨_, rfl, hs, fun q1 => ⟨fun q2 => ?_, fun q2 => ?_⟩, fun q1 => ?_⟩) (fun w => kk.n I hs (out2_2 z (fun v => w ⟨v.1, v.2.1⟩)) (by decide) rfl)⟩) (fun z => kk.n I hs (out2_1 z) (by decide) rfl))
  all_goals obtain ⟨z0, z1, z2⟩ := id z
  · have k3 := k3_of W (isp_p z1).2 k0 q1 q2
    have k3b : S.1 (pN e) = 3 := by rw [← ke]; exact k3
    have V1 := V _ (isp_p z1).2 k3
    have V2 := V _ (isp_p z2).2 k3b
    refine t_X6_growthAt (by omega) hs I2 z1 (fun w => ⟨_, rfl, hs, 20, sg_Gr hs (isp_p z1).2, by omega, t_X6_growthAt (by omega) hs I2 z2 (fun w2 => ⟨_, rfl, hs, sg_Gr hs (isp_p z1).2, 20, sg_Gr hs (isp_p z2).2, by omega, ?_⟩) (fun w => absurd k3b w)⟩) (fun w => absurd k3 w)
    refine t_X6_multiplyGrowths (by omega) hs (isp_p z1).2 (isp_p z2).2 ((I2 _ (isp_p z1).2).2.2.2 k3) V1 ((I2 _ (isp_p z2).2).2.2.2 k3b) V2 (fun h2 y2 L G2 c2 e2 F2 => ⟨rfl, y2, F2.1, sg_Gr F2.1 (isp_p z1).2, sg_Gr F2.1 (isp_p z2).2, ?_⟩)
    have eL := gmu_eq V1 V2 c2 e2
    obtain ⟨J5, C5⟩ := I.ft hs F2
    refine t_X6_keepGrowth (by omega) F2.1 J5 C5 z0 G2 c2 (fun f h6 I6 F6 => ⟨rfl, F6.1, sg_Gr F6.1 (isp_p z1).2, sg_Gr F6.1 (isp_p z2).2, kk.a (v := 3) (S2 := sG S (pN a) L) ?_ (Nat.le_refl _) (by omega) I6 F6 ⟨_, rfl, fun _ => by rw [k3]; rfl⟩⟩) (fun f => kk.my J5 C5 (st := 2) ?_ (by decide) rfl)
    · rw [eL] at f ⊢
      exact f_product_3 z k3 k3b f
    · rw [eL] at f
      exact out2_2 z (fun v => f (v.2.2.2.2 k3))
  · have k2 := Classical.not_not.mp q2
    have k2b : S.1 (pN e) = 2 := by rw [← ke]; exact k2
    have n1 := N _ (isp_p z1).2 k2
    have n2 := N _ (isp_p z2).2 k2b
    have nm := mul_fit n1 n2
    refine t_X6_numberAt (by omega) hs I2 z1 (fun r w1 w2 => ⟨r, rfl, hs, t_X6_numberAt (by omega) hs I2 z2 (fun r2 w3 w4 => ⟨r2, rfl, hs, ?_⟩) (fun w => absurd k2b w)⟩) (fun w => absurd k2 w)
    have pv : (r * r2).toInt = S.2.2.1 (pN b) * S.2.2.1 (pN e) := by rw [j_mul (by rw [w2, w4]; omega) (by rw [w2, w4]; omega), w2, w4]
    refine t_X6_multipliedNumbers (by omega) hs (fun q r3 hr => ⟨r3, rfl, hs, ?_⟩) (fun q => kk.n I hs (out2_2 z (fun v => q (by rw [pv]; exact (v.2.2.2.1 k2).1))) (by decide) rfl)
    rw [pv] at q hr
    exact t_X6_keepNumber (by omega) hs I (FC.rf hs) z0 hr (fun f h2 I2 F2 _ => ⟨rfl, F2.1, kk.a (f_product_2 z k2 k2b ⟨q, f⟩) (Nat.le_refl _) (by omega) I2 F2 ⟨_, rfl, fun _ => by rw [k2]; rfl⟩⟩) (fun f => kk.n I hs (out2_2 z (fun v => f (v.2.2.2.1 k2).2)) (by decide) rfl)
  · have k1 := Classical.not_not.mp q1
    have k1b : S.1 (pN e) = 1 := by rw [← ke]; exact k1
    refine t_X6_ordinalAt (by omega) hs I2 z1 (fun r j w1 w2 w3 w4 => ⟨r, rfl, hs, t_X6_ordinalAt (by omega) hs I2 z2 (fun r2 j2 v1 v2 v3 v4 => ⟨r2, rfl, hs, ?_⟩) (fun w => absurd k1b w)⟩) (fun w => absurd k1 w)
    refine t_X2_multiplied (i := j) (j := j2) (by omega) hs I1 w2 v2 w3 v3 (by omega) (Nat.le_refl _) (fun ok => ?_) (fun nok => ?_)
    · rw [w4, v4] at ok ⊢
      exact Kx.l (by omega) (by omega) I2 z0 kk (f_product_1 z k1 k1b ok) ⟨_, rfl, fun _ => by rw [k1]; rfl⟩
    · rw [w4, v4] at nok
      exact kk.f I2 (st := 2) (out2_2 z (fun v => nok (v.2.2.1 k1))) (by decide) rfl
theorem c_difference {a b e : Int32} (hd : 50 ≤ d) (hs : Sg h.1 y) (I : CI h y c S) (V : VG S) (W : VK S) (N : VN S) (hc : c + 10020 < 16384) (kk : KC 9 1 ecS c h y (f_difference a b e S) K E) : Ca d m_X6_difference [.ref 1, .int a, .int b, .int e] h K E := by
  obtain ⟨d, rfl⟩ : ∃ e, d = e + 1 := ⟨d - 1, by omega⟩
  obtain ⟨ov, I1, I2⟩ := id I
  refine w_X6_difference (by omega) hs (t_X6_needThree (by omega) hs (fun z => ⟨rfl, hs, t_X6_commonKind (by omega) hs I2 z.2.1 z.2.2 (fun k0 ke => ⟨_, rfl, hs, fun q1 => ⟨fun q2 => ?_, fun q2 => ?_⟩, fun q1 => ?_⟩) (fun w => kk.n I hs (out2_2 z (fun v => w ⟨v.1, v.2.1⟩)) (by decide) rfl)⟩) (fun z => kk.n I hs (out2_1 z) (by decide) rfl))
  all_goals obtain ⟨z0, z1, z2⟩ := id z
  · have k3 := k3_of W (isp_p z1).2 k0 q1 q2
    have k3b : S.1 (pN e) = 3 := by rw [← ke]; exact k3
    have V1 := V _ (isp_p z1).2 k3
    have V2 := V _ (isp_p z2).2 k3b
    refine t_X6_growthAt (by omega) hs I2 z1 (fun w => ⟨_, rfl, hs, 20, sg_Gr hs (isp_p z1).2, by omega, t_X6_growthAt (by omega) hs I2 z2 (fun w2 => ⟨_, rfl, hs, sg_Gr hs (isp_p z1).2, 20, sg_Gr hs (isp_p z2).2, by omega, ?_⟩) (fun w => absurd k3b w)⟩) (fun w => absurd k3 w)
    refine t_X6_addGrowths (si := (-1)) (by omega) hs (isp_p z1).2 (isp_p z2).2 ((I2 _ (isp_p z1).2).2.2.2 k3) V1 ((I2 _ (isp_p z2).2).2.2.2 k3b) V2 rfl (Or.inr rfl) (fun h2 y2 L G2 c2 e2 F2 => ⟨rfl, y2, F2.1, sg_Gr F2.1 (isp_p z1).2, sg_Gr F2.1 (isp_p z2).2, ?_⟩)
    have eL := gsm_eq V1 V2 c2 e2
    obtain ⟨J5, C5⟩ := I.ft hs F2
    refine t_X6_keepGrowth (by omega) F2.1 J5 C5 z0 G2 c2 (fun f h6 I6 F6 => ⟨rfl, F6.1, sg_Gr F6.1 (isp_p z1).2, sg_Gr F6.1 (isp_p z2).2, kk.a (v := 3) (S2 := sG S (pN a) L) ?_ (Nat.le_refl _) (by omega) I6 F6 ⟨_, rfl, fun _ => by rw [k3]; rfl⟩⟩) (fun f => kk.my J5 C5 (st := 2) ?_ (by decide) rfl)
    · rw [eL] at f ⊢
      exact f_difference_3 z k3 k3b f
    · rw [eL] at f
      exact out2_2 z (fun v => f (v.2.2.2.2 k3))
  · have k2 := Classical.not_not.mp q2
    have k2b : S.1 (pN e) = 2 := by rw [← ke]; exact k2
    have n1 := N _ (isp_p z1).2 k2
    have n2 := N _ (isp_p z2).2 k2b
    refine t_X6_numberAt (by omega) hs I2 z1 (fun r w1 w2 => ⟨r, rfl, hs, t_X6_numberAt (by omega) hs I2 z2 (fun r2 w3 w4 => ⟨r2, rfl, hs, ?_⟩) (fun w => absurd k2b w)⟩) (fun w => absurd k2 w)
    exact t_X6_keepNumber (v := S.2.2.1 (pN b) - S.2.2.1 (pN e)) (by omega) hs I (FC.rf hs) z0 (by rw [j_sub (by rw [w2, w4]; unfold fitN at n1 n2; omega) (by rw [w2, w4]; unfold fitN at n1 n2; omega), w2, w4]) (fun f h2 I2 F2 _ => ⟨rfl, F2.1, kk.a (f_difference_2 z k2 k2b f) (Nat.le_refl _) (by omega) I2 F2 ⟨_, rfl, fun _ => by rw [k2]; rfl⟩⟩) (fun f => kk.n I hs (out2_2 z (fun v => f (v.2.2.2.1 k2))) (by decide) rfl)
  · have k1 := Classical.not_not.mp q1
    exact kk.n I hs (out2_2 z (fun v => v.2.2.1 k1)) (by decide) rfl
end
