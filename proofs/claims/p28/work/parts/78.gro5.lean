/-! ===== layer 2: the class's calls over growths; sums, products, differences, comparisons ===== -/
def gmc : GL → GL → GE → Int
  | [], _, _ => 0
  | p :: A, B, f => gco (grw p B) f + gmc A B f
theorem gmc_sn (B : GL) (f : GE) (p : GE × Int) : ∀ A, gmc (A ++ [p]) B f = gmc A B f + gco (grw p B) f := by
  intro A
  induction A with
  | nil => show gco (grw p B) f + 0 = 0 + gco (grw p B) f; omega
  | cons q A ih =>
    show gco (grw q B) f + gmc (A ++ [p]) B f = gco (grw q B) f + gmc A B f + _
    rw [ih]
    omega
theorem gco_gmu (B : GL) (f : GE) : ∀ A L, gco (gmu B A L) f = gco L f + gmc A B f := by
  intro A
  induction A with
  | nil => intro L; show gco L f = gco L f + 0; omega
  | cons p A ih =>
    intro L
    show gco (gmu B A (gmi p B L)) f = gco L f + (gco (grw p B) f + gmc A B f)
    rw [ih, gco_gmi]
    omega
theorem gco_id (vv : Int) (f : GE) : ∀ L : GL, gco (gmap (fun e => e) (fun q => q.2 * vv) L) f = vv * gco L f := by
  intro L
  induction L with
  | nil => show (0 : Int) = vv * 0; omega
  | cons p L ih =>
    show (if p.1 = f then p.2 * vv else 0) + gco (gmap (fun e => e) (fun q => q.2 * vv) L) f = vv * ((if p.1 = f then p.2 else 0) + gco L f)
    rw [ih, Int.mul_add]
    split
    · rw [Int.mul_comm]
    · rw [Int.mul_zero]
noncomputable def f_term (a b c e f g : Int32) (S : XS) : XC := out2 (isp a) ((-1000000 ≤ b.toInt ∧ b.toInt ≤ 1000000) ∧ (-20 ≤ c.toInt ∧ c.toInt ≤ 20) ∧ (-20 ≤ e.toInt ∧ e.toInt ≤ 20) ∧ (-20 ≤ f.toInt ∧ f.toInt ≤ 20) ∧ -20 ≤ g.toInt ∧ g.toInt ≤ 20) 0 S (sG S (pN a) (g1 (c.toInt, e.toInt, f.toInt, g.toInt) b.toInt))
noncomputable def f_derive (a b : Int32) (S : XS) : XC := out2 (isp a ∧ isp b) (S.1 (pN b) = 3 ∧ gfit (gnz (gdv (S.2.2.2 (pN b)) []))) 0 S (sG S (pN a) (gnz (gdv (S.2.2.2 (pN b)) [])))
noncomputable def f_tends (a : Int32) (S : XS) : XC := out2 (isp a) (S.1 (pN a) = 3) (gtn (S.2.2.2 (pN a))) S S
noncomputable def f_part (a b c : Int32) (S : XS) : XC := out3 (isp a ∧ 0 ≤ b.toInt) (0 ≤ c.toInt ∧ c.toInt ≤ 4) (S.1 (pN a) = 3 ∧ b.toInt < (S.2.2.2 (pN a)).length) (if c.toInt = 0 then ((S.2.2.2 (pN a))[b.toInt.toNat]?.getD ((0, 0, 0, 0), 0)).2 else gex c.toInt.toNat ((S.2.2.2 (pN a))[b.toInt.toNat]?.getD ((0, 0, 0, 0), 0)).1) S S
noncomputable def f_sum (a b c : Int32) (S : XS) : XC := out2 (isp a ∧ isp b ∧ isp c) (¬ S.1 (pN b) = 0 ∧ S.1 (pN b) = S.1 (pN c) ∧ (S.1 (pN b) = 1 → okm (addO (S.2.1 (pN b)) (S.2.1 (pN c)))) ∧ (S.1 (pN b) = 2 → fitN (S.2.2.1 (pN b) + S.2.2.1 (pN c))) ∧ (S.1 (pN b) = 3 → gfit (gnz (gsm (S.2.2.2 (pN b)) (S.2.2.2 (pN c)) 1)))) (S.1 (pN b)).toInt S
  (if S.1 (pN b) = 1 then sO S (pN a) (addO (S.2.1 (pN b)) (S.2.1 (pN c))) else if S.1 (pN b) = 2 then sN S (pN a) (S.2.2.1 (pN b) + S.2.2.1 (pN c)) else sG S (pN a) (gnz (gsm (S.2.2.2 (pN b)) (S.2.2.2 (pN c)) 1)))
noncomputable def f_product (a b c : Int32) (S : XS) : XC := out2 (isp a ∧ isp b ∧ isp c) (¬ S.1 (pN b) = 0 ∧ S.1 (pN b) = S.1 (pN c) ∧ (S.1 (pN b) = 1 → mulok (S.2.1 (pN b)) (S.2.1 (pN c))) ∧ (S.1 (pN b) = 2 → S.2.2.1 (pN b) * S.2.2.1 (pN c) % 1048576 = 0 ∧ fitN (S.2.2.1 (pN b) * S.2.2.1 (pN c) / 1048576)) ∧ (S.1 (pN b) = 3 → gfit (gnz (gmu (S.2.2.2 (pN c)) (S.2.2.2 (pN b)) [])))) (S.1 (pN b)).toInt S
  (if S.1 (pN b) = 1 then sO S (pN a) (mulO (S.2.1 (pN b)) (S.2.1 (pN c))) else if S.1 (pN b) = 2 then sN S (pN a) (S.2.2.1 (pN b) * S.2.2.1 (pN c) / 1048576) else sG S (pN a) (gnz (gmu (S.2.2.2 (pN c)) (S.2.2.2 (pN b)) [])))
noncomputable def f_difference (a b c : Int32) (S : XS) : XC := out2 (isp a ∧ isp b ∧ isp c) (¬ S.1 (pN b) = 0 ∧ S.1 (pN b) = S.1 (pN c) ∧ ¬ S.1 (pN b) = 1 ∧ (S.1 (pN b) = 2 → fitN (S.2.2.1 (pN b) - S.2.2.1 (pN c))) ∧ (S.1 (pN b) = 3 → gfit (gnz (gsm (S.2.2.2 (pN b)) (S.2.2.2 (pN c)) (-1))))) (S.1 (pN b)).toInt S
  (if S.1 (pN b) = 2 then sN S (pN a) (S.2.2.1 (pN b) - S.2.2.1 (pN c)) else sG S (pN a) (gnz (gsm (S.2.2.2 (pN b)) (S.2.2.2 (pN c)) (-1))))
noncomputable def f_compare (a b : Int32) (S : XS) : XC := out2 (isp a ∧ isp b) (¬ S.1 (pN a) = 0 ∧ S.1 (pN a) = S.1 (pN b)) (if S.1 (pN a) = 1 then oc (S.2.1 (pN a)) (S.2.1 (pN b)) else if S.1 (pN a) = 2 then csg (S.2.2.1 (pN a)) (S.2.2.1 (pN b)) else gcp (S.2.2.2 (pN a)) (S.2.2.2 (pN b))) S S
/-- the growths are in their right form and fit; the kinds are four -/
def VG (S : XS) : Prop := ∀ p, p < 16 → S.1 p = 3 → gok (S.2.2.2 p)
def VK (S : XS) : Prop := ∀ p, p < 16 → S.1 p = 0 ∨ S.1 p = 1 ∨ S.1 p = 2 ∨ S.1 p = 3
section
variable {d c M : Nat} {h : XH} {y : Nat → Nat} {S : XS} {K : XK} {E : XE} {t : Nat} {ec : Nat → Nat} {o : XC}
theorem St.yc {k : Nat} {ov : Nat → O} {y2 : Nat → Nat} (I : St h y c k ov) (e : ∀ b, b < 8 → y2 b = y b) : St h y2 c k ov := by
  unfold St Yl at *
  rw [e 0 (by omega), e 1 (by omega), e 2 (by omega), e 3 (by omega), e 4 (by omega), e 5 (by omega), e 6 (by omega), e 7 (by omega)]
  exact I
theorem CI.ft {h2 : XH} {y2 : Nat → Nat} (I : CI h y c S) (hs : Sg h.1 y) (F : Ft h y h2 y2) : CI h2 y2 c S ∧ FC 0 h y h2 y2 := by
  obtain ⟨f1, f2, f3, f4, f5⟩ := F
  obtain ⟨ov, I1, I2⟩ := I
  have hh := sg_hnd hs
  have ty : Ty y2 = Ty y := by unfold Ty; rw [f2 4 (by omega), f2 5 (by omega), f2 6 (by omega), f2 7 (by omega)]
  refine ⟨⟨ov, (I1.fr (f3 _ (by omega)).1 (f3 _ (by omega)).1 (f3 _ (by omega)).1 (f3 _ (by omega)).1 (f3 _ (by omega)).1).yc f2, I2.fr (fun r a b => f3 r (by omega)) (Nat.le_refl _) (fun _ _ => rfl)⟩, f1, fun r a b => f3 r (by omega), by omega, by omega⟩
theorem t_X6_growthAt {a : Int32} {ov : Nat → O} (hd : 22 ≤ d) (hs : Sg h.1 y) (P : PlC h c ov S) (z : isp a) (k1 : S.1 (pN a) = 3 → K (some (.ref (29 + 3 * pN a))) h) (k0 : ¬ S.1 (pN a) = 3 → E 3 (x_new h (4, 3, []) 6)) : Ca d m_X6_growthAt [.ref 1, .int a] h K E := by
  obtain ⟨d, rfl⟩ : ∃ e, d = e + 1 := ⟨d - 1, by omega⟩
  obtain ⟨p1, -, -, -⟩ := P _ (isp_p z).2
  refine w_X6_growthAt (by omega) hs z ⟨fun w => k0 (fun v => w ?_), fun w => k1 ?_⟩
  · rw [g_p z (Nat.le_refl _), p1]; exact v
  · have := Classical.not_not.mp w
    rw [g_p z (Nat.le_refl _), p1] at this
    exact this
theorem t_X6_commonKind {a b : Int32} {ov : Nat → O} (hd : 21 ≤ d) (hs : Sg h.1 y) (P : PlC h c ov S) (z1 : isp a) (z2 : isp b) (k1 : ¬ S.1 (pN a) = 0 → S.1 (pN a) = S.1 (pN b) → K (some (.int (S.1 (pN a)))) h) (k0 : ¬ (¬ S.1 (pN a) = 0 ∧ S.1 (pN a) = S.1 (pN b)) → E 3 (x_new h (4, 3, []) 6)) : Ca d m_X6_commonKind [.ref 1, .int a, .int b] h K E := by
  obtain ⟨d, rfl⟩ : ∃ e, d = e + 1 := ⟨d - 1, by omega⟩
  have p1 := (P _ (isp_p z1).2).1
  have p2 := (P _ (isp_p z2).2).1
  have e1 : g_I h 2 16 a = S.1 (pN a) := by rw [g_p z1 (Nat.le_refl _), p1]
  have e2 : g_I h 2 16 b = S.1 (pN b) := by rw [g_p z2 (Nat.le_refl _), p2]
  refine w_X6_commonKind (by omega) hs ?_
  rw [e1, e2]
  exact ⟨fun w => k0 (fun v => v.1 w), fun w => ⟨fun v => k1 w v, fun v => k0 (fun q => v q.2)⟩⟩
theorem t_X6_keepGrowth {a : Int32} {L : GL} {h0 : XH} {y0 : Nat → Nat} (hd : 26 ≤ d) (hs : Sg h.1 y) (I : CI h y c S) (F : FC 0 h0 y0 h y) (z : isp a) (G : Gc h (y 8) L) (cL : gcan L) (kk : gfit L → ∀ h2, CI h2 y c (sG S (pN a) L) → FC 0 h0 y0 h2 y → K none h2) (ke : ¬ gfit L → E 3 (x_new h (4, 3, []) 6)) : Ca d m_X6_keepGrowth [.ref 1, .int a] h K E := by
  obtain ⟨d, rfl⟩ : ∃ e, d = e + 1 := ⟨d - 1, by omega⟩
  obtain ⟨v8, v9, vn⟩ := y89 hs
  obtain ⟨z1, z2⟩ := isp_p z
  have hh := sg_hnd hs
  have hl := G.2.1
  refine w_X6_keepGrowth (by omega) hs z (t_X1_fits (n := 400) (by omega) hs (sg_Gn hs).1 (Nat.le_refl _) G hl cL.2.1 (fun f => ⟨1, rfl, hs, fun _ => ?_, fun v => absurd n1_0 v⟩) (fun f => ⟨0, rfl, hs, fun v => absurd rfl v, fun _ => ke f⟩))
  refine t_X1_copy (n := 20) (n_o := 400) (by omega) hs (sg_Gr hs z2) (by omega) (sg_Gn hs).1 (Nat.le_refl _) (Or.inr (by omega)) G f.1 hl cL.2.2 (fun h2 G2 F2 => ⟨rfl, F2.sg hs, fun h3 e3 => ?_⟩)
  rw [pI_in z1 z2] at e3
  obtain ⟨ov, I1, I2⟩ := I
  have n3 : ∀ r, r ≠ 2 → r ≠ 29 + 3 * pN a → r ≠ 29 + 3 * pN a + 1 → r ≠ 29 + 3 * pN a + 2 → h3.2.1 r = h.2.1 r ∧ h3.2.2.1 r = h.2.2.1 r := fun r a b c d => by
    rw [e3, sI_nq _ _ a]
    exact F2.2.2 r b c d
  refine kk f h3 ⟨ov, I1.fr (n3 _ (by omega) (by omega) (by omega) (by omega)).1 (n3 _ (by omega) (by omega) (by omega) (by omega)).1 (n3 _ (by omega) (by omega) (by omega) (by omega)).1 (n3 _ (by omega) (by omega) (by omega) (by omega)).1 (n3 _ (by omega) (by omega) (by omega) (by omega)).1, fun q hq => ?_⟩ (F.tr (FC.ce hs (by rw [e3]; exact F2.1) (by rw [e3]; exact F2.2.1) (fun r a b => n3 r (by omega) (by omega) (by omega) (by omega))))
  obtain ⟨p1, p2, p3, p4⟩ := I2 q hq
  have c2 : h3.2.1 2 q = if q = pN a then 3 else h.2.1 2 q := by
    rw [e3]
    by_cases w : q = pN a
    · rw [if_pos w, w, sI_eq]
    · rw [if_neg w, sI_ne _ _ w, (F2.2.2 2 (by omega) (by omega) (by omega)).1]
  by_cases w : q = pN a
  · rw [if_pos w] at c2
    rw [w] at c2 ⊢
    have u9 : (sG S (pN a) L).1 (pN a) = 3 := upw_e _ _ _
    refine ⟨c2.trans (upw_e _ _ _).symm, fun q9 => ?_, fun q9 => ?_, fun _ => ?_⟩
    · rw [u9] at q9; exact absurd q9 (by decide)
    · rw [u9] at q9; exact absurd q9 (by decide)
    · have u8 : (sG S (pN a) L).2.2.2 (pN a) = L := upw_e _ _ _
      rw [u8]
      exact G2.fr (by rw [e3, sI_nq _ _ (by omega)]) (by rw [e3]; rfl) (by rw [e3]; rfl)
  · rw [if_neg w] at c2
    have u1 : (sG S (pN a) L).1 q = S.1 q := upw_n _ _ w
    have u2 : (sG S (pN a) L).2.2.2 q = S.2.2.2 q := upw_n _ _ w
    rw [u1, u2, c2, (n3 3 (by omega) (by omega) (by omega) (by omega)).1, (n3 4 (by omega) (by omega) (by omega) (by omega)).2]
    refine ⟨p1, p2, p3, fun v => (p4 v).fr (n3 _ (by omega) (by omega) (by omega) (by omega)).1 (n3 _ (by omega) (by omega) (by omega) (by omega)).2 (n3 _ (by omega) (by omega) (by omega) (by omega)).2⟩
theorem c_tends {a : Int32} (hd : 50 ≤ d) (hs : Sg h.1 y) (I : CI h y c S) (V : VG S) (kk : KC M 1 ecS c h y (f_tends a S) K E) : Ca d m_X6_tends [.ref 1, .int a] h K E := by
  obtain ⟨d, rfl⟩ : ∃ e, d = e + 1 := ⟨d - 1, by omega⟩
  obtain ⟨ov, I1, I2⟩ := id I
  refine w_X6_tends (by omega) hs (t_X6_needPlace (by omega) hs (fun z => ⟨rfl, hs, t_X6_growthAt (by omega) hs I2 z (fun w => ⟨_, rfl, hs, 20, sg_Gr hs (isp_p z).2, by omega, ?_⟩) (fun w => kk.n I hs (out2_2 z w) (by decide) rfl)⟩) (fun z => kk.n I hs (out2_1 z) (by decide) rfl))
  have g := (I2 _ (isp_p z).2).2.2.2 w
  exact t_X1_limit (by omega) hs (sg_Gr hs (isp_p z).2) (by omega) g (V _ (isp_p z).2 w).2.2.1 (fun r hr => ⟨r, rfl, hs, sg_Gr hs (isp_p z).2, kk.a (out2_0 z w) (Nat.le_refl _) (by omega) I (FC.rf hs) ⟨_, rfl, fun _ => hr⟩⟩)
theorem c_terms {a : Int32} (hd : 50 ≤ d) (hs : Sg h.1 y) (I : CI h y c S) (kk : KC M 1 ecS c h y (f_terms a S) K E) : Ca d m_X6_terms [.ref 1, .int a] h K E := by
  obtain ⟨d, rfl⟩ : ∃ e, d = e + 1 := ⟨d - 1, by omega⟩
  obtain ⟨ov, I1, I2⟩ := id I
  refine w_X6_terms (by omega) hs (t_X6_needPlace (by omega) hs (fun z => ⟨rfl, hs, t_X6_growthAt (by omega) hs I2 z (fun w => ⟨_, rfl, hs, 20, sg_Gr hs (isp_p z).2, by omega, ?_⟩) (fun w => kk.n I hs (out2_2 z w) (by decide) rfl)⟩) (fun z => kk.n I hs (out2_1 z) (by decide) rfl))
  have g := (I2 _ (isp_p z).2).2.2.2 w
  exact kk.a (out2_0 z w) (Nat.le_refl _) (by omega) I (FC.rf hs) ⟨_, rfl, fun _ => g.1⟩
theorem c_part {a b e : Int32} (hd : 50 ≤ d) (hs : Sg h.1 y) (I : CI h y c S) (V : VG S) (kk : KC M 2 ecI c h y (f_part a b e S) K E) : Ca d m_X6_part [.ref 1, .int a, .int b, .int e] h K E := by
  obtain ⟨d, rfl⟩ : ∃ e, d = e + 1 := ⟨d - 1, by omega⟩
  obtain ⟨ov, I1, I2⟩ := id I
  have e4 : (4 : Int32).toInt = 4 := rfl
  refine w_X6_part (by omega) hs (t_X6_needPlace (by omega) hs (fun z => ⟨rfl, hs, t_X6_needRow (by omega) hs (fun z2 => ⟨rfl, hs, t_X6_needRange (by omega) hs (fun z3 => ⟨rfl, hs, ?_⟩) (fun w => kk.n I hs (out3_2 ⟨z, z2⟩ w) (by decide) rfl)⟩) (fun w => kk.n I hs (out3_1 (fun v => w v.2)) (by decide) rfl)⟩) (fun z => kk.n I hs (out3_1 (fun v => z v.1)) (by decide) rfl))
  rw [i_0, e4] at z3
  refine t_X6_growthAt (by omega) hs I2 z (fun w => ⟨_, rfl, hs, 20, sg_Gr hs (isp_p z).2, by omega, ?_⟩) (fun w => kk.n I hs (out3_3 ⟨z, z2⟩ z3 (fun v => w v.1)) (by decide) rfl)
  have g := (I2 _ (isp_p z).2).2.2.2 w
  have V9 := V _ (isp_p z).2 w
  have l20 := V9.2.2.1
  refine ⟨fun q => ?_, fun q => kk.n I hs (out3_3 ⟨z, z2⟩ z3 (fun v => q ?_)) (by decide) rfl⟩
  · rw [i_lt, g.1] at q
    obtain ⟨k, hk⟩ : ∃ k : Nat, b.toInt = k := ⟨b.toInt.toNat, by omega⟩
    obtain ⟨f, n, g2⟩ := gget (A := S.2.2.2 (pN a)) (m := k) (by omega)
    obtain ⟨v1, v2⟩ := g.2.2 k f n g2
    have eo : f_part a b e S = (0, (if e.toInt = 0 then n else gex e.toInt.toNat f), S) := by
      unfold f_part
      rw [show b.toInt.toNat = k by omega, g2]
      exact out3_0 ⟨z, z2⟩ z3 ⟨w, q⟩
    refine ⟨fun v => kk.a eo (Nat.le_refl _) (by omega) I (FC.rf hs) ⟨_, rfl, fun _ => ?_⟩, fun v => kk.a eo (Nat.le_refl _) (by omega) I (FC.rf hs) ⟨_, rfl, fun _ => ?_⟩⟩
    · have ne : ¬ e.toInt = 0 := fun q9 => v (i_ne.mpr q9)
      rw [if_neg ne, i_2j]
      exact xpin_i (by rw [gJ_in hk (by omega)]; exact v2) (V9.D _ (List.mem_of_getElem? g2)) (by omega) (by omega) (by omega)
    · rw [if_pos (i_ne.mp (Classical.not_not.mp v)), gJ_in hk (by omega)]
      exact v1
  · rw [i_lt, g.1]; exact v.2
theorem c_term {a b e1 e2 e3 e4 : Int32} (hd : 50 ≤ d) (hs : Sg h.1 y) (I : CI h y c S) (kk : KC M 0 ecI c h y (f_term a b e1 e2 e3 e4 S) K E) : Ca d m_X6_term [.ref 1, .int a, .int b, .int e1, .int e2, .int e3, .int e4] h K E := by
  obtain ⟨d, rfl⟩ : ∃ e, d = e + 1 := ⟨d - 1, by omega⟩
  have q1 : (1000000 : Int32).toInt = 1000000 := rfl
  have q2 : (-1000000 : Int32).toInt = -1000000 := rfl
  have q3 : (20 : Int32).toInt = 20 := rfl
  have q4 : (-20 : Int32).toInt = -20 := rfl
  refine w_X6_term (by omega) hs (t_X6_needPlace (by omega) hs (fun z => ⟨rfl, hs, t_X6_needRange (by omega) hs (fun w1 => ⟨rfl, hs, t_X6_needRange (by omega) hs (fun w2 => ⟨rfl, hs, t_X6_needRange (by omega) hs (fun w3 => ⟨rfl, hs, t_X6_needRange (by omega) hs (fun w4 => ⟨rfl, hs, t_X6_needRange (by omega) hs (fun w5 => ⟨rfl, hs, ?_⟩) (fun w => kk.n I hs (out2_2 z (fun v => w ?_)) (by decide) rfl)⟩) (fun w => kk.n I hs (out2_2 z (fun v => w ?_)) (by decide) rfl)⟩) (fun w => kk.n I hs (out2_2 z (fun v => w ?_)) (by decide) rfl)⟩) (fun w => kk.n I hs (out2_2 z (fun v => w ?_)) (by decide) rfl)⟩) (fun w => kk.n I hs (out2_2 z (fun v => w ?_)) (by decide) rfl)⟩) (fun z => kk.n I hs (out2_1 z) (by decide) rfl))
  · rw [q1, q2] at w1
    rw [q3, q4] at w2 w3 w4 w5
    refine t_X4_restart (by omega) hs (fun h1 G1 F1 => ⟨rfl, F1.1, ?_⟩)
    obtain ⟨J1, C1⟩ := I.ft hs F1
    have hE : e99 (e1.toInt, e2.toInt, e3.toInt, e4.toInt) := by unfold e99; dsimp only; omega
    refine t_X4_addPart (t := b.toInt) (b := 0) (c := 1000000) (e := (e1.toInt, e2.toInt, e3.toInt, e4.toInt)) (by omega) F1.1 G1 gcan_nil (by show 0 + 1 ≤ 400; omega) (fun p hp => absurd hp List.not_mem_nil) (e99_E hE) (i_2j _) (keyv_i (by omega) (by omega) (by omega) (by omega)) w1 (by omega) (by omega) (fun h2 y2 L G2 cL lL bL eL F2 => ⟨rfl, y2, F2.1, ?_⟩)
    obtain ⟨J2, C2⟩ := J1.ft F1.1 F2
    have eqL : L = g1 (e1.toInt, e2.toInt, e3.toInt, e4.toInt) b.toInt := by
      have cg := gcan_g1 (e := (e1.toInt, e2.toInt, e3.toInt, e4.toInt)) (t := b.toInt) (e99_E hE)
      refine gco_u cL.1 cg.1 cL.2.1 cg.2.1 cL.2.2 cg.2.2 (fun f => ?_)
      rw [eL, gco_g1]
      show (0 : Int) + _ = _
      omega
    have fit : gfit L := by
      rw [eqL]
      refine ⟨by have := len_g1 (e1.toInt, e2.toInt, e3.toInt, e4.toInt) b.toInt; omega, fun p hp => ?_⟩
      rw [(mem_g1 hp).1]
      exact ⟨by dsimp only; omega, hE⟩
    exact t_X6_keepGrowth (by omega) F2.1 J2 (C1.tr C2) z G2 cL (fun _ h3 I3 F3 => ⟨rfl, F3.1, kk.a (by rw [eqL]; exact out2_0 z ⟨w1, w2, w3, w4, w5⟩) (Nat.le_refl _) (by omega) I3 F3 rfl⟩) (fun f => absurd fit f)
  · rw [q3, q4]; exact v.2.2.2.2
  · rw [q3, q4]; exact v.2.2.2.1
  · rw [q3, q4]; exact v.2.2.1
  · rw [q3, q4]; exact v.2.1
  · rw [q1, q2]; exact v.1
theorem t_X6_addGrowths {p r : Nat} {A B : GL} {s : Int32} {si : Int} (hd : 30 ≤ d) (hs : Sg h.1 y) (hp : p < 16) (hr : r < 16) (GA : Gc h (29 + 3 * p) A) (oA : gok A) (GB : Gc h (29 + 3 * r) B) (oB : gok B) (hsi : s.toInt = si) (h1s : si = 1 ∨ si = -1) (kk : ∀ h2 y2 L, Gc h2 (y2 8) L → gcan L → (∀ f, gco L f = gco A f + si * gco B f) → Ft h y h2 y2 → K none h2) : Ca d m_X6_addGrowths [.ref 1, .ref (29 + 3 * p), .ref (29 + 3 * r), .int s] h K E := by
  obtain ⟨d, rfl⟩ : ∃ e, d = e + 1 := ⟨d - 1, by omega⟩
  have lA := oA.2.2.1
  have lB := oB.2.2.1
  refine w_X6_addGrowths (n_o := 20) (n_p := 20) (by omega) hs (sg_Gr hs hp) (by omega) (sg_Gr hs hr) (by omega) (t_X4_restart (by omega) hs (fun h1 G1 F1 => ⟨rfl, F1.1, sg_Gr F1.1 hp, sg_Gr F1.1 hr, ?_⟩))
  refine t_X4_addMultiple (vv := 1) (cc := 0) (b := 0) (c := 100000000) (kf := fun e => e) (by omega) F1.1 hp (GA.ft F1) oA rfl rfl (fun e => by omega) (fun q hq => oA.D q hq) (fun q hq => by have := oA.B q hq; omega) G1 gcan_nil (by show 0 + A.length ≤ 400; omega) (fun p hp => absurd hp List.not_mem_nil) (by omega) (by omega) (by omega) (fun h2 y2 L1 G2 c2 l2 b2 e2 F2 => ⟨rfl, y2, F2.1, sg_Gr F2.1 hp, sg_Gr F2.1 hr, ?_⟩)
  have l2' : L1.length ≤ 0 + A.length := l2
  refine t_X4_addMultiple (vv := si) (cc := 0) (b := 0 + 100000000) (c := 100000000) (kf := fun e => e) (by omega) F2.1 hr ((GB.ft F1).ft F2) oB (by rw [i_2j]; exact hsi) rfl (fun e => by omega) (fun q hq => oB.D q hq) (fun q hq => by
    have := oB.B q hq
    rcases h1s with z | z <;> rw [z] <;> omega) G2 c2 (by omega) b2 (by omega) (by omega) (by omega) (fun h3 y3 L2 G3 c3 l3 b3 e3 F3 => ⟨rfl, y3, F3.1, sg_Gr F3.1 hp, sg_Gr F3.1 hr, kk h3 y3 L2 G3 c3 (fun f => ?_) ((F1.tr F2).tr F3)⟩)
  rw [e3, e2, gco_id, gco_id]
  show (0 : Int) + 1 * gco A f + si * gco B f = _
  omega
theorem gsm_can {A B : GL} {s : Int} (hA : gok A) (hB : gok B) : gs (gsm A B s) ∧ gD (gsm A B s) := by
  have ja : ∀ (s : Int) (X L : GL), gD X → gs L → gD L → gs (gja s X L) ∧ gD (gja s X L) := by
    intro s X
    induction X with
    | nil => intro L _ a b; exact ⟨a, b⟩
    | cons p X ih =>
      intro L hX a b
      have he := hX p List.mem_cons_self
      exact ih _ (fun q hq => hX q (List.mem_cons_of_mem _ hq)) (gs_gin he a b) (gD_gin he b)
  have h1 := ja 1 A [] hA.D trivial (fun p hp => absurd hp List.not_mem_nil)
  exact ja s B _ hB.D h1.1 h1.2
theorem gsm_eq {A B L : GL} {s : Int} (hA : gok A) (hB : gok B) (cL : gcan L) (e : ∀ f, gco L f = gco A f + s * gco B f) : L = gnz (gsm A B s) := by
  obtain ⟨h1, h2⟩ := gsm_can (s := s) hA hB
  refine gco_u cL.1 (gs_gnz h1) cL.2.1 (gD_gnz h2) cL.2.2 (gNZ_gnz _) (fun f => ?_)
  rw [e, gco_gnz]
  unfold gsm
  rw [gco_gja, gco_gja]
  show _ = (0 : Int) + 1 * gco A f + s * gco B f
  omega
theorem t_X6_multiplyGrowths {p r : Nat} {A B : GL} (hd : 30 ≤ d) (hs : Sg h.1 y) (hp : p < 16) (hr : r < 16) (GA : Gc h (29 + 3 * p) A) (oA : gok A) (GB : Gc h (29 + 3 * r) B) (oB : gok B) (kk : ∀ h2 y2 L, Gc h2 (y2 8) L → gcan L → (∀ f, gco L f = gmc A B f) → Ft h y h2 y2 → K none h2) : Ca d m_X6_multiplyGrowths [.ref 1, .ref (29 + 3 * p), .ref (29 + 3 * r)] h K E := by
  obtain ⟨d, rfl⟩ : ∃ e, d = e + 1 := ⟨d - 1, by omega⟩
  have lA := oA.2.2.1
  have lB := oB.2.2.1
  have loop : ∀ (q s : Nat) (l3 : Int32) (h1 : XH) (y1 : Nat → Nat) (L : GL), q + s = A.length → l3.toInt = s → Ft h y h1 y1 → Gc h1 (y1 8) L → gcan L → L.length ≤ 20 * s → gB (10000000000000000 * (s : Int)) L → (∀ f, gco L f = gmc (A.take s) B f) → b_X6_multiplyGrowths_9 d 1 (29 + 3 * p) (29 + 3 * r) l3 h1 K E := by
    intro q
    induction q with
    | zero =>
      intro s l3 h1 y1 L hq h3 F1 G1 c1 l1 b1 e1
      have ga := (GA.ft F1).1
      rw [List.take_of_length_le (by omega)] at e1
      exact w_X6_multiplyGrowths_9 (n_o := 20) (n_p := 20) (by omega) F1.1 (sg_Gr F1.1 hp) (by omega) (sg_Gr F1.1 hr) (by omega) ⟨fun _ => kk h1 y1 L G1 c1 e1 F1, fun z => absurd (i_le.mpr (by omega)) z⟩
    | succ q ih =>
      intro s l3 h1 y1 L hq h3 F1 G1 c1 l1 b1 e1
      have ga := GA.ft F1
      have gac := ga.1
      have nx : (l3 + 1).toInt = (s + 1 : Nat) := by rw [i_add (by rw [i_1]; omega) (by rw [i_1]; omega), h3, i_1]; rfl
      obtain ⟨e, t, g⟩ := gget (A := A) (m := s) (by omega)
      have hm := List.mem_of_getElem? g
      obtain ⟨w1, w2⟩ := ga.2.2 s e t g
      have ht := oA.B _ hm
      have he := (oA.2.2.2 _ hm).2
      dsimp only at ht he
      refine w_X6_multiplyGrowths_9 (n_o := 20) (n_p := 20) (by omega) F1.1 (sg_Gr F1.1 hp) (by omega) (sg_Gr F1.1 hr) (by omega) ⟨fun z => absurd (i_le.mp z) (by omega), fun _ => ?_⟩
      refine t_X4_addMultiple (vv := t) (cc := gck e - 550293209600) (b := 10000000000000000 * (s : Int)) (c := 10000000000000000) (kf := ead e) (by omega) F1.1 hr (GB.ft F1) oB (by rw [gJ_in h3 (by omega)]; exact w1) (by rw [gJ_in h3 (by omega), w2]; omega) (fun f => by rw [gck_ead]; omega) (fun q9 hq9 => ead_E he (oB.2.2.2 q9 hq9).2) (fun q9 hq9 => ?_) G1 c1 (by omega) b1 (by omega) (by omega) (by omega) (fun h2 y2 L2 G2 c2 l2 b2 e2 F2 => ⟨rfl, y2, F2.1, sg_Gr F2.1 hp, sg_Gr F2.1 hr, ih (s + 1) (l3 + 1) h2 y2 L2 (by omega) nx (F1.tr F2) G2 c2 (by omega) (gB_le b2 (by omega)) (fun f => ?_)⟩)
      · have h9 := oB.B q9 hq9
        have h1 : q9.2.natAbs * t.natAbs ≤ 100000000 * 100000000 := Nat.mul_le_mul (by omega) (by omega)
        have h2 : (q9.2 * t).natAbs = q9.2.natAbs * t.natAbs := Int.natAbs_mul _ _
        omega
      · have em : gmap (ead e) (fun q => q.2 * t) B = grw (e, t) B := by
          unfold grw
          show gmap (ead e) (fun q => q.2 * t) B = gmap (ead e) (fun q => t * q.2) B
          congr 1
          funext q9
          exact Int.mul_comm _ _
        rw [e2, e1, List.take_add_one, g, em]
        show _ = gmc (A.take s ++ [(e, t)]) B f
        rw [gmc_sn]
  exact w_X6_multiplyGrowths (n_o := 20) (n_p := 20) (by omega) hs (sg_Gr hs hp) (by omega) (sg_Gr hs hr) (by omega) (t_X4_restart (by omega) hs (fun h1 G1 F1 => ⟨rfl, F1.1, sg_Gr F1.1 hp, sg_Gr F1.1 hr, loop A.length 0 0 h1 y [] (Nat.add_zero _) rfl F1 G1 gcan_nil (Nat.zero_le _) (fun p hp => absurd hp List.not_mem_nil) (fun f => rfl)⟩))
theorem gmi_can {p : GE × Int} (he : e99 p.1) : ∀ (B L : GL), (∀ q ∈ B, e99 q.1) → gs L → gD L → gs (gmi p B L) ∧ gD (gmi p B L) := by
  intro B
  induction B with
  | nil => intro L _ a b; exact ⟨a, b⟩
  | cons q B ih =>
    intro L h a b
    have hE := ead_E he (h q List.mem_cons_self)
    exact ih _ (fun r hr => h r (List.mem_cons_of_mem _ hr)) (gs_gin hE a b) (gD_gin hE b)
theorem gmu_can {B : GL} (hB : ∀ q ∈ B, e99 q.1) : ∀ (A L : GL), (∀ q ∈ A, e99 q.1) → gs L → gD L → gs (gmu B A L) ∧ gD (gmu B A L) := by
  intro A
  induction A with
  | nil => intro L _ a b; exact ⟨a, b⟩
  | cons p A ih =>
    intro L h a b
    obtain ⟨a2, b2⟩ := gmi_can (h p List.mem_cons_self) B L hB a b
    exact ih _ (fun r hr => h r (List.mem_cons_of_mem _ hr)) a2 b2
theorem gmu_eq {A B L : GL} (hA : gok A) (hB : gok B) (cL : gcan L) (e : ∀ f, gco L f = gmc A B f) : L = gnz (gmu B A []) := by
  obtain ⟨h1, h2⟩ := gmu_can (fun q hq => (hB.2.2.2 q hq).2) A [] (fun q hq => (hA.2.2.2 q hq).2) trivial (fun p hp => absurd hp List.not_mem_nil)
  refine gco_u cL.1 (gs_gnz h1) cL.2.1 (gD_gnz h2) cL.2.2 (gNZ_gnz _) (fun f => ?_)
  rw [e, gco_gnz, gco_gmu]
  show _ = (0 : Int) + _
  omega
theorem gdv_can : ∀ (A L : GL), (∀ q ∈ A, e99 q.1) → gs L → gD L → gs (gdv A L) ∧ gD (gdv A L) := by
  intro A
  induction A with
  | nil => intro L _ a b; exact ⟨a, b⟩
  | cons p A ih =>
    intro L h a b
    have hE := fun w => edl_E (w := w) (h p List.mem_cons_self)
    have s1 := gs_gin (n := p.2 * gex 1 p.1) (hE 1) a b
    have d1 := gD_gin (n := p.2 * gex 1 p.1) (hE 1) b
    have s2 := gs_gin (n := p.2 * gex 2 p.1) (hE 2) s1 d1
    have d2 := gD_gin (n := p.2 * gex 2 p.1) (hE 2) d1
    have s3 := gs_gin (n := p.2 * gex 3 p.1) (hE 3) s2 d2
    have d3 := gD_gin (n := p.2 * gex 3 p.1) (hE 3) d2
    exact ih _ (fun r hr => h r (List.mem_cons_of_mem _ hr)) (gs_gin (hE 4) s3 d3) (gD_gin (hE 4) d3)
end
