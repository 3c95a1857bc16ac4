/-! ===== layer 2: the class's numbers ===== -/
noncomputable def f_number (a b c : Int32) (S : XS) : XC := out2 (isp a) ((0 ≤ c.toInt ∧ c.toInt ≤ 20) ∧ fitN (b.toInt * pw2 (20 - c.toInt.toNat))) 0 S (sN S (pN a) (b.toInt * pw2 (20 - c.toInt.toNat)))
noncomputable def f_signs (a b c : Int32) (S : XS) : XC := out2 (isp a) ((0 ≤ c.toInt ∧ c.toInt ≤ 20) ∧ 0 ≤ b.toInt ∧ b.toInt ≤ pw2 c.toInt.toNat - 1) 0 S (sN S (pN a) (alg (btI b) c.toInt.toNat (wA 0)).1)
noncomputable def f_birthday (a : Int32) (S : XS) : XC := out2 (isp a) (S.1 (pN a) = 2) ((tw 300 (S.2.2.1 (pN a)) (wA 0)).2.2.2 : Nat) S S
noncomputable def f_signOf (a b : Int32) (S : XS) : XC := out2 (isp a ∧ 0 ≤ b.toInt) (S.1 (pN a) = 2) (csg (S.2.2.1 (pN a)) (tw (min b.toInt.toNat 300) (S.2.2.1 (pN a)) (wA 0)).1) S S
def gof (S : XS) (b : Int32) : Nat → Int
  | 0 => -1099511627776
  | k + 1 => if btI b k = true then max (gof S b k) (S.2.2.1 k) else gof S b k
def lof (S : XS) (b : Int32) : Nat → Int
  | 0 => 1099511627776
  | k + 1 => if btI b k = true then min (lof S b k) (S.2.2.1 k) else lof S b k
def allN (S : XS) (b : Int32) (k : Nat) : Prop := ∀ i, i < k → btI b i = true → S.1 i = 2
def cfit : Option WS → Prop
  | none => False
  | some w => fitN w.1
def cW (S : XS) (b c : Int32) : Option WS := fnw (gof S b 16) (lof S c 16) 300 (wA 0)
noncomputable def f_cut (a b c : Int32) (S : XS) : XC := out3 (isp a) ((0 ≤ b.toInt ∧ b.toInt ≤ 65535) ∧ 0 ≤ c.toInt ∧ c.toInt ≤ 65535) ((allN S b 16 ∧ allN S c 16) ∧ gof S b 16 < lof S c 16 ∧ cfit (cW S b c)) (((cW S b c).getD (wA 0)).2.2.2 : Nat) S (sN S (pN a) ((cW S b c).getD (wA 0)).1)
/-- the numbers fit -/
def VN (S : XS) : Prop := ∀ p, p < 16 → S.1 p = 2 → fitN (S.2.2.1 p)
theorem gof_b {S : XS} {b : Int32} (V : VN S) : ∀ k, k ≤ 16 → allN S b k → (gof S b k = -1099511627776 ∨ fitN (gof S b k)) := by
  intro k
  induction k with
  | zero => intro _ _; exact Or.inl rfl
  | succ k ih =>
    intro hk h
    have h2 := ih (by omega) (fun i hi hb => h i (by omega) hb)
    show (if btI b k = true then max (gof S b k) (S.2.2.1 k) else gof S b k) = _ ∨ fitN (if btI b k = true then max (gof S b k) (S.2.2.1 k) else gof S b k)
    by_cases z : btI b k = true
    · rw [if_pos z]
      have := V k (by omega) (h k (by omega) z)
      unfold fitN at *
      omega
    · rw [if_neg z]; exact h2
theorem lof_b {S : XS} {b : Int32} (V : VN S) : ∀ k, k ≤ 16 → allN S b k → (lof S b k = 1099511627776 ∨ fitN (lof S b k)) := by
  intro k
  induction k with
  | zero => intro _ _; exact Or.inl rfl
  | succ k ih =>
    intro hk h
    have h2 := ih (by omega) (fun i hi hb => h i (by omega) hb)
    show (if btI b k = true then min (lof S b k) (S.2.2.1 k) else lof S b k) = _ ∨ fitN (if btI b k = true then min (lof S b k) (S.2.2.1 k) else lof S b k)
    by_cases z : btI b k = true
    · rw [if_pos z]
      have := V k (by omega) (h k (by omega) z)
      unfold fitN at *
      omega
    · rw [if_neg z]; exact h2
section
variable {d c M : Nat} {h : XH} {y : Nat → Nat} {S : XS} {K : XK} {E : XE} {t : Nat} {ec : Nat → Nat} {o : XC}
theorem CI.fw {h2 : XH} (I : CI h y c S) (hs : Sg h.1 y) (F : Fw h h2) : CI h2 y c S ∧ FC 0 h y h2 y := by
  obtain ⟨ov, I1, I2⟩ := I
  have hh := sg_hnd hs
  exact ⟨⟨ov, I1.fr (F.2.2 _ (by omega)).1 (F.2.2 _ (by omega)).1 (F.2.2 _ (by omega)).1 (F.2.2 _ (by omega)).1 (F.2.2 _ (by omega)).1, I2.fr (fun r a b => F.2.2 r (by omega)) (Nat.le_refl _) (fun _ _ => rfl)⟩, FC.ce hs F.1 F.2.1 (fun r a b => F.2.2 r (by omega))⟩
theorem KC.m {st v : Nat} {h2 : XH} (kk : KC M t ec c h y o K E) (I : CI h2 y c S) (F : FC 0 h y h2 y) (e : o = (st, 0, S)) (hst : ¬ st = 0) (hv : ec st = v) : E v (x_new h2 (4, v, []) 6) := kk.b e hst hv (I.nw F.1).1 (F.tr (I.nw F.1).2)
theorem t_X6_keepNumber {a : Int32} {b : Int64} {v : Int} {h0 : XH} {y0 : Nat → Nat} (hd : 21 ≤ d) (hs : Sg h.1 y) (I : CI h y c S) (F : FC 0 h0 y0 h y) (z : isp a) (hb : b.toInt = v) (kk : fitN v → ∀ h2, CI h2 y c (sN S (pN a) v) → FC 0 h0 y0 h2 y → (∀ r, r = 18 → h2.2.1 r = h.2.1 r) → K none h2) (ke : ¬ fitN v → E 3 (x_new h (4, 3, []) 6)) : Ca d m_X6_keepNumber [.ref 1, .int a, .long b] h K E := by
  obtain ⟨d, rfl⟩ : ∃ e, d = e + 1 := ⟨d - 1, by omega⟩
  obtain ⟨z1, z2⟩ := isp_p z
  have hh := sg_hnd hs
  have rb : (-268435456 ≤ b ∧ b ≤ 268435456) ↔ fitN v := by
    rw [j_le, j_le, hb]
    exact Iff.rfl
  obtain ⟨ov, I1, I2⟩ := I
  refine w_X6_keepNumber (by omega) hs ⟨fun w h2 e2 h3 e3 => ?_, fun w => ke (fun v => w (rb.mpr v))⟩
  rw [pJ_in z1 z2] at e2
  rw [pI_in z1 z2] at e3
  have ei : ∀ r, r ≠ 2 → h3.2.1 r = h.2.1 r := fun r w => by rw [e3, sI_nq _ _ w, e2]; rfl
  have ej : ∀ r, r ≠ 4 → h3.2.2.1 r = h.2.2.1 r := fun r w => by rw [e3]; show h2.2.2.1 r = _; rw [e2, sJ_nq _ _ w]
  refine kk (rb.mp w) h3 ⟨ov, I1.fr (ei _ (by omega)) (ei _ (by omega)) (ei _ (by omega)) (ei _ (by omega)) (ei _ (by omega)), fun q hq => ?_⟩ (F.tr (FC.ce hs (by rw [e3]; show h2.1 = _; rw [e2]; rfl) (by rw [e3]; show h2.2.2.2 = _; rw [e2]; rfl) (fun r a b => ⟨ei r (by omega), ej r (by omega)⟩))) (fun r hr => ei r (by omega))
  obtain ⟨p1, p2, p3, p4⟩ := I2 q hq
  have c2 : h3.2.1 2 q = if q = pN a then 2 else h.2.1 2 q := by
    rw [e3]
    by_cases w : q = pN a
    · rw [if_pos w, w, sI_eq]
    · rw [if_neg w, sI_ne _ _ w, e2]; rfl
  have c4 : h3.2.2.1 4 q = if q = pN a then b else h.2.2.1 4 q := by
    rw [e3]
    show h2.2.2.1 4 q = _
    rw [e2]
    by_cases w : q = pN a
    · rw [if_pos w, w, sJ_eq]
    · rw [if_neg w, sJ_ne _ _ w]
  by_cases w : q = pN a
  · rw [if_pos w] at c2 c4
    rw [w] at c2 c4 ⊢
    have u9 : (sN S (pN a) v).1 (pN a) = 2 := upw_e _ _ _
    refine ⟨c2.trans (upw_e _ _ _).symm, fun q9 => ?_, fun _ => by rw [c4, hb]; exact (upw_e _ _ _).symm, fun q9 => ?_⟩
    · rw [u9] at q9
      exact absurd q9 (by decide)
    · rw [u9] at q9
      exact absurd q9 (by decide)
  · rw [if_neg w] at c2 c4
    have u1 : (sN S (pN a) v).1 q = S.1 q := upw_n _ _ w
    have u2 : (sN S (pN a) v).2.2.1 q = S.2.2.1 q := upw_n _ _ w
    rw [u1, u2, c2, c4, ei 3 (by omega)]
    refine ⟨p1, p2, p3, fun v => ?_⟩
    obtain ⟨g1, g2, g3⟩ := p4 v
    refine ⟨by rw [ei _ (by omega)]; exact g1, g2, fun k e n hk => ?_⟩
    rw [ej _ (by omega), ej _ (by omega)]
    exact g3 k e n hk
theorem t_X5_toward {a : Int64} {b : Int32} {t : Int} {k : Nat} (hd : 30 ≤ d) (hs : Sg h.1 y) (ha : a.toInt = t) (hb : b.toInt = k) (ht : fitN t) (kk : ∀ h2, Wc h2 (tw (min k 300) t (wA 0)) → Fw h h2 → K none h2) : Ca d m_X5_toward [.ref 18, .long a, .int b] h K E := by
  obtain ⟨d, rfl⟩ : ∃ e, d = e + 1 := ⟨d - 1, by omega⟩
  have e3 : (300 : Int32).toInt = 300 := rfl
  have hm : (mnI b 300).toInt = (min k 300 : Nat) := by rw [mnI_i, hb, e3]; omega
  have loop : ∀ (q s g : Nat) (l5 : Int32) (w : WS) (h1 : XH), q + s = min k 300 → l5.toInt = s → tQ g t w → Wc h1 w → Fw h h1 → tw q t w = tw (min k 300) t (wA 0) → b_X5_toward_16 d 18 a (some (.int b)) (mnI b 300) l5 h1 K E := by
    intro q
    induction q with
    | zero =>
      intro s g l5 w h1 hq h5 Q W1 F1 e
      exact w_X5_toward_16 (by omega) (F1.sg hs) ⟨fun _ => kk h1 (by rw [← e]; exact W1) F1, fun z => absurd (i_le.mpr (by omega)) z⟩
    | succ q ih =>
      intro s g l5 w h1 hq h5 Q W1 F1 e
      have hs1 := F1.sg hs
      have wv := W1.1
      refine w_X5_toward_16 (by omega) hs1 ⟨fun z => absurd (i_le.mp z) (by omega), fun _ => ⟨fun z => ?_, fun z => ?_⟩⟩
      · have : w.1 = t := by rw [← wv, z, ha]
        rw [tw_e this] at e
        exact kk h1 (by rw [← e]; exact W1) F1
      · have hne : ¬ w.1 = t := fun v => z (Int64.toInt_inj.mp (by rw [wv, ha, v]))
        obtain ⟨g2, w2, e2, e4, Q2, -⟩ := tQ_s ht Q hne
        rw [tw_n hne e4] at e
        have nx : ∀ s0 : Int32, (s0 = 0 ↔ decide (w.1 < t) = false) → b_X5_toward_47 d 18 a (some (.int b)) (mnI b 300) l5 s0 18 h1 K E := by
          intro s0 hs0
          refine w_X5_toward_47 (by omega) hs1 (t_X5_goes (by omega) hs1 W1 (tQ_ok Q).1 hs0 (fun w3 h2 e5 W2 F2 => ⟨1, rfl, F2.sg hs1, ?_⟩) (fun e5 => ?_))
          · rw [e4] at e5
            cases e5
            refine ih (s + 1) g2 (l5 + 1) w2 h2 (by omega) ?_ Q2 W2 (F1.tr F2) e
            rw [i_add (by rw [i_1]; omega) (by rw [i_1]; omega), h5, i_1]; rfl
          · rw [e4] at e5
            cases e5
        refine ⟨fun v => nx 0 ⟨fun _ => decide_eq_false ?_, fun _ => rfl⟩, fun v => nx 1 ⟨fun q9 => absurd q9 n1_0, fun q9 => ?_⟩⟩
        · rw [j_le, ha, wv] at v; omega
        · rw [j_le, ha, wv] at v
          rw [decide_eq_true (by omega : w.1 < t)] at q9
          cases q9
  exact w_X5_toward (by omega) hs (t_X5_restart (by omega) hs (fun h1 W1 F1 => ⟨rfl, F1.sg hs, loop (min k 300) 0 276 0 (wA 0) h1 (by omega) rfl (tQ_0 t) W1 F1 rfl⟩))
theorem t_X5_along {a b : Int32} {k : Nat} (hd : 30 ≤ d) (hs : Sg h.1 y) (hb : b.toInt = k) (hk : k ≤ 20) (kk : ∀ h2, Wc h2 (alg (btI a) k (wA 0)) → Fw h h2 → K none h2) : Ca d m_X5_along [.ref 18, .int a, .int b] h K E := by
  obtain ⟨d, rfl⟩ : ∃ e, d = e + 1 := ⟨d - 1, by omega⟩
  have loop : ∀ (q s : Nat) (l5 : Int32) (h1 : XH), q + s = k → l5.toInt = s → Wc h1 (alg (btI a) s (wA 0)) → Fw h h1 → b_X5_along_6 d 18 a b l5 h1 K E := by
    intro q
    induction q with
    | zero =>
      intro s l5 h1 hq h5 W1 F1
      have : s = k := by omega
      subst this
      exact w_X5_along_6 (by omega) (F1.sg hs) ⟨fun _ => kk h1 W1 F1, fun z => absurd (i_le.mpr (by omega)) z⟩
    | succ q ih =>
      intro s l5 h1 hq h5 W1 F1
      have hs1 := F1.sg hs
      obtain ⟨Q1, Q2⟩ := alg_Q (btI a) s (by omega)
      have Q3 := Q2 (by omega)
      have nx : ∀ s0 : Int32, (s0 = 0 ↔ btI a s = false) → b_X5_along_25 d 18 a b l5 s0 18 h1 K E := by
        intro s0 hs0
        refine w_X5_along_25 (by omega) hs1 (t_X5_goes (by omega) hs1 W1 (aQ_ok (by omega) Q1).1 hs0 (fun w3 h2 e5 W2 F2 => ⟨1, rfl, F2.sg hs1, ?_⟩) (fun e5 => ?_))
        · rw [Q3] at e5
          cases e5
          refine ih (s + 1) (l5 + 1) h2 (by omega) ?_ W2 (F1.tr F2)
          rw [i_add (by rw [i_1]; omega) (by rw [i_1]; omega), h5, i_1]; rfl
        · rw [Q3] at e5
          cases e5
      refine w_X5_along_6 (by omega) hs1 ⟨fun z => absurd (i_le.mp z) (by omega), fun _ => ⟨fun v => nx 0 ⟨fun _ => (btI_f h5 (by omega)).mp v, fun _ => rfl⟩, fun v => nx 1 ⟨fun w => absurd w n1_0, fun w => absurd ((btI_f h5 (by omega)).mpr w) v⟩⟩⟩
  exact w_X5_along (by omega) hs (t_X5_restart (by omega) hs (fun h1 W1 F1 => ⟨rfl, F1.sg hs, loop k 0 0 h1 (by omega) rfl W1 F1⟩))
theorem t_X5_between {a b : Int64} {l u : Int} (hd : 30 ≤ d) (hs : Sg h.1 y) (ha : a.toInt = l) (hb : b.toInt = u) (B : bLU l u) (kk : ∀ w h2, fnw l u 300 (wA 0) = some w → Wc h2 w → wok w → Fw h h2 → K (some (.int 1)) h2) (kn : ∀ h2, fnw l u 300 (wA 0) = none → Fw h h2 → K (some (.int 0)) h2) : Ca d m_X5_between [.ref 18, .long a, .long b] h K E := by
  obtain ⟨d, rfl⟩ : ∃ e, d = e + 1 := ⟨d - 1, by omega⟩
  have e3 : (300 : Int32).toInt = 300 := rfl
  have loop : ∀ (q s g : Nat) (l6 : Int32) (w : WS) (h1 : XH), q + s = 300 → l6.toInt = s → bQ g l u w → Wc h1 w → Fw h h1 → fnw l u q w = fnw l u 300 (wA 0) → b_X5_between_10 d 18 a b 1 l6 h1 K E := by
    intro q
    induction q with
    | zero =>
      intro s g l6 w h1 hq h6 Q W1 F1 e
      exact w_X5_between_10 (by omega) (F1.sg hs) ⟨fun _ => ⟨Or.inr rfl, kk w h1 e.symm W1 (bQ_ok Q).1 F1⟩, fun z => absurd (i_le.mpr (by omega)) z⟩
    | succ q ih =>
      intro s g l6 w h1 hq h6 Q W1 F1 e
      have hs1 := F1.sg hs
      have wv := W1.1
      have e0 : fnw l u (q + 1) w = if w.1 ≤ l ∨ u ≤ w.1 then (match wgo (decide (w.1 ≤ l)) w with
        | some w2 => fnw l u q w2
        | none => none) else some w := rfl
      rw [e0] at e
      have nx : ∀ u5 : Option Value, (w.1 ≤ l ∨ u ≤ w.1) → b_X5_between_41 d 18 a b u5 l6 h1 K E := by
        intro u5 hc
        rw [if_pos hc] at e
        obtain ⟨g2, e2, hor⟩ := bQ_s B Q hc
        have nx2 : ∀ s0 : Int32, (s0 = 0 ↔ decide (w.1 ≤ l) = false) → b_X5_between_56 d 18 a b u5 l6 s0 18 h1 K E := by
          intro s0 hs0
          have hn : (l6 + 1).toInt = (s + 1 : Nat) := by rw [i_add (by rw [i_1]; omega) (by rw [i_1]; omega), h6, i_1]; rfl
          refine w_X5_between_56 (by omega) hs1 (t_X5_goes (by omega) hs1 W1 (bQ_ok Q).1 hs0 (fun w3 h2 e5 W2 F2 => ⟨1, rfl, F2.sg hs1, ?_⟩) (fun e5 => ⟨0, rfl, hs1, ?_⟩))
          · rw [e5] at e
            rcases hor with hor | ⟨w2, e6, Q2, -⟩
            · rw [e5] at hor; cases hor
            · rw [e5] at e6
              cases e6
              exact ih (s + 1) g2 (l6 + 1) w3 h2 (by omega) hn Q2 W2 (F1.tr F2) e
          · rw [e5] at e
            have hK := kn h1 e.symm F1
            exact w_X5_between_10 (by omega) hs1 ⟨fun _ => ⟨Or.inl rfl, hK⟩, fun _ => ⟨fun _ => ⟨Or.inl rfl, hK⟩, fun v => absurd rfl v⟩⟩
        refine w_X5_between_41 (by omega) hs1 ⟨fun v => nx2 0 ⟨fun _ => decide_eq_false ?_, fun _ => rfl⟩, fun v => nx2 1 ⟨fun w => absurd w n1_0, fun z => ?_⟩⟩
        · rw [j_lt, ha, wv] at v; omega
        · rw [j_lt, ha, wv] at v
          rw [decide_eq_true (by omega : w.1 ≤ l)] at z
          cases z
      refine w_X5_between_10 (by omega) hs1 ⟨fun z => absurd (i_le.mp z) (by omega), fun _ => ⟨fun z => absurd z n1_0, fun _ => ⟨fun z => nx _ (Or.inl ?_), fun z => ⟨fun v => ⟨Or.inr rfl, ?_⟩, fun v => nx _ (Or.inr ?_)⟩⟩⟩⟩
      · rw [j_le, ha, wv] at z; exact z
      · rw [j_le, ha, wv] at z
        rw [j_lt, hb, wv] at v
        rw [if_neg (by omega)] at e
        exact kk w h1 e.symm W1 (bQ_ok Q).1 F1
      · rw [j_lt, hb, wv] at v
        omega
  exact w_X5_between (by omega) hs (t_X5_restart (by omega) hs (fun h1 W1 F1 => ⟨rfl, F1.sg hs, loop 300 0 278 0 (wA 0) h1 (by omega) rfl (bQ_0 l u) W1 F1 rfl⟩))
theorem t_X6_greatestOf {b : Int32} {ov : Nat → O} (hd : 30 ≤ d) (hs : Sg h.1 y) (P : PlC h c ov S) (kk : ∀ r : Int64, allN S b 16 → r.toInt = gof S b 16 → K (some (.long r)) h) (ke : ¬ allN S b 16 → E 3 (x_new h (4, 3, []) 6)) : Ca d m_X6_greatestOf [.ref 1, .int b] h K E := by
  obtain ⟨d, rfl⟩ : ∃ e, d = e + 1 := ⟨d - 1, by omega⟩
  have e16 : (16 : Int32).toInt = 16 := rfl
  have loop : ∀ (q s : Nat) (l2 : Int64) (l4 : Int32), q + s = 16 → l4.toInt = s → l2.toInt = gof S b s → allN S b s → b_X6_greatestOf_7 d 1 b l2 l4 h K E := by
    intro q
    induction q with
    | zero =>
      intro s l2 l4 hq h4 h2 ha
      have : s = 16 := by omega
      subst this
      exact w_X6_greatestOf_7 (by omega) hs ⟨fun _ => kk l2 ha h2, fun z => absurd (i_le.mpr (by rw [e16]; omega)) z⟩
    | succ q ih =>
      intro s l2 l4 hq h4 h2 ha
      have nx : (l4 + 1).toInt = (s + 1 : Nat) := by rw [i_add (by rw [i_1]; omega) (by rw [i_1]; omega), h4, i_1]; rfl
      have hp : isp l4 := (i_rng (x := 0) (z := 15) rfl rfl).mpr (by omega)
      have hps : pN l4 = s := by show l4.toInt.toNat = s; omega
      have eg : gof S b (s + 1) = if btI b s = true then max (gof S b s) (S.2.2.1 s) else gof S b s := rfl
      refine w_X6_greatestOf_7 (by omega) hs ⟨fun z => absurd (i_le.mp z) (by rw [e16]; omega), fun _ => ⟨fun z => ?_, fun z => ?_⟩⟩
      · rw [btI_f h4 (by omega)] at z
        have hz : ¬ btI b s = true := by rw [z]; decide
        refine w_X6_greatestOf_34 (by omega) hs (ih (s + 1) l2 (l4 + 1) (by omega) nx (by rw [eg, if_neg hz]; exact h2) (fun i hi hb => ?_))
        by_cases w : i = s
        · rw [w] at hb; exact absurd hb hz
        · exact ha i (by omega) hb
      · rw [btI_f h4 (by omega)] at z
        have hz : btI b s = true := by
          cases hbt : btI b s with
          | true => rfl
          | false => exact absurd hbt z
        refine t_X6_numberAt (by omega) hs P hp (fun r w1 w2 => ⟨r, rfl, hs, ?_⟩) (fun w => ke (fun v => w (by rw [hps]; exact v s (by omega) hz)))
        rw [hps] at w1 w2
        refine w_X6_greatestOf_34 (by omega) hs (ih (s + 1) _ (l4 + 1) (by omega) nx (by rw [mxJ_i, eg, if_pos hz, h2, w2]) (fun i hi hb => ?_))
        by_cases w : i = s
        · rw [w]; exact w1
        · exact ha i (by omega) hb
  exact w_X6_greatestOf (by omega) hs (loop 16 0 _ 0 rfl rfl rfl (fun i hi => absurd hi (by omega)))
theorem t_X6_leastOf {b : Int32} {ov : Nat → O} (hd : 30 ≤ d) (hs : Sg h.1 y) (P : PlC h c ov S) (kk : ∀ r : Int64, allN S b 16 → r.toInt = lof S b 16 → K (some (.long r)) h) (ke : ¬ allN S b 16 → E 3 (x_new h (4, 3, []) 6)) : Ca d m_X6_leastOf [.ref 1, .int b] h K E := by
  obtain ⟨d, rfl⟩ : ∃ e, d = e + 1 := ⟨d - 1, by omega⟩
  have e16 : (16 : Int32).toInt = 16 := rfl
  have loop : ∀ (q s : Nat) (l2 : Int64) (l4 : Int32), q + s = 16 → l4.toInt = s → l2.toInt = lof S b s → allN S b s → b_X6_leastOf_7 d 1 b l2 l4 h K E := by
    intro q
    induction q with
    | zero =>
      intro s l2 l4 hq h4 h2 ha
      have : s = 16 := by omega
      subst this
      exact w_X6_leastOf_7 (by omega) hs ⟨fun _ => kk l2 ha h2, fun z => absurd (i_le.mpr (by rw [e16]; omega)) z⟩
    | succ q ih =>
      intro s l2 l4 hq h4 h2 ha
      have nx : (l4 + 1).toInt = (s + 1 : Nat) := by rw [i_add (by rw [i_1]; omega) (by rw [i_1]; omega), h4, i_1]; rfl
      have hp : isp l4 := (i_rng (x := 0) (z := 15) rfl rfl).mpr (by omega)
      have hps : pN l4 = s := by show l4.toInt.toNat = s; omega
      have eg : lof S b (s + 1) = if btI b s = true then min (lof S b s) (S.2.2.1 s) else lof S b s := rfl
      refine w_X6_leastOf_7 (by omega) hs ⟨fun z => absurd (i_le.mp z) (by rw [e16]; omega), fun _ => ⟨fun z => ?_, fun z => ?_⟩⟩
      · rw [btI_f h4 (by omega)] at z
        have hz : ¬ btI b s = true := by rw [z]; decide
        refine w_X6_leastOf_34 (by omega) hs (ih (s + 1) l2 (l4 + 1) (by omega) nx (by rw [eg, if_neg hz]; exact h2) (fun i hi hb => ?_))
        by_cases w : i = s
        · rw [w] at hb; exact absurd hb hz
        · exact ha i (by omega) hb
      · rw [btI_f h4 (by omega)] at z
        have hz : btI b s = true := by
          cases hbt : btI b s with
          | true => rfl
          | false => exact absurd hbt z
        refine t_X6_numberAt (by omega) hs P hp (fun r w1 w2 => ⟨r, rfl, hs, ?_⟩) (fun w => ke (fun v => w (by rw [hps]; exact v s (by omega) hz)))
        rw [hps] at w1 w2
        refine w_X6_leastOf_34 (by omega) hs (ih (s + 1) _ (l4 + 1) (by omega) nx (by rw [mnJ_i, eg, if_pos hz, h2, w2]) (fun i hi hb => ?_))
        by_cases w : i = s
        · rw [w]; exact w1
        · exact ha i (by omega) hb
  exact w_X6_leastOf (by omega) hs (loop 16 0 _ 0 rfl rfl rfl (fun i hi => absurd hi (by omega)))
theorem c_number {a b e : Int32} (hd : 50 ≤ d) (hs : Sg h.1 y) (I : CI h y c S) (kk : KC M 0 ecI c h y (f_number a b e S) K E) : Ca d m_X6_number [.ref 1, .int a, .int b, .int e] h K E := by
  obtain ⟨d, rfl⟩ : ∃ e, d = e + 1 := ⟨d - 1, by omega⟩
  have e20 : (20 : Int32).toInt = 20 := rfl
  refine w_X6_number (by omega) hs (t_X6_needPlace (by omega) hs (fun z => ⟨rfl, hs, t_X6_needRange (by omega) hs (fun w => ⟨rfl, hs, ?_⟩) (fun w => kk.n I hs (out2_2 z (fun v => w v.1)) (by decide) rfl)⟩) (fun z => kk.n I hs (out2_1 z) (by decide) rfl))
  rw [i_0, e20] at w
  have hv := num_sh (b := b) (c := e) (i := e.toInt.toNat) (by omega) (by omega)
  have rb : (-268435456 ≤ (b.toInt64 <<< ((20 - e).toInt64 &&& 63)) ∧ (b.toInt64 <<< ((20 - e).toInt64 &&& 63)) ≤ 268435456) ↔ fitN (b.toInt * pw2 (20 - e.toInt.toNat)) := by
    rw [j_le, j_le, hv]
    exact Iff.rfl
  refine ⟨fun v => t_X6_keepNumber (by omega) hs I (FC.rf hs) z hv (fun f h2 I2 F2 _ => ⟨rfl, F2.1, kk.a (out2_0 z ⟨w, f⟩) (Nat.le_refl _) (by omega) I2 F2 rfl⟩) (fun f => absurd (rb.mp v) f), fun v => kk.n I hs (out2_2 z (fun q => v (rb.mpr q.2))) (by decide) rfl⟩
theorem c_signs {a b e : Int32} (hd : 50 ≤ d) (hs : Sg h.1 y) (I : CI h y c S) (kk : KC M 0 ecI c h y (f_signs a b e S) K E) : Ca d m_X6_signs [.ref 1, .int a, .int b, .int e] h K E := by
  obtain ⟨d, rfl⟩ : ∃ e, d = e + 1 := ⟨d - 1, by omega⟩
  have e20 : (20 : Int32).toInt = 20 := rfl
  refine w_X6_signs (by omega) hs (t_X6_needPlace (by omega) hs (fun z => ⟨rfl, hs, t_X6_needRange (by omega) hs (fun w => ⟨rfl, hs, ?_⟩) (fun w => kk.n I hs (out2_2 z (fun v => w v.1)) (by decide) rfl)⟩) (fun z => kk.n I hs (out2_1 z) (by decide) rfl))
  rw [i_0, e20] at w
  have hr := row_up (c := e) (i := e.toInt.toNat) (by omega) (by omega)
  refine t_X6_needRange (by omega) hs (fun v => ⟨rfl, hs, ?_⟩) (fun v => kk.n I hs (out2_2 z (fun q => v (by rw [hr, i_0]; exact q.2))) (by decide) rfl)
  rw [hr, i_0] at v
  refine t_X5_along (k := e.toInt.toNat) (by omega) hs (by omega) (by omega) (fun h2 W2 F2 => ⟨rfl, F2.sg hs, ?_⟩)
  have q := (aQ_ok (by omega) (alg_Q (btI b) e.toInt.toNat (by omega)).1).2
  obtain ⟨I2, G2⟩ := I.fw hs F2
  exact t_X6_keepNumber (by omega) (F2.sg hs) I2 G2 z W2.1 (fun f h2 I2 F2 _ => ⟨rfl, F2.1, kk.a (out2_0 z ⟨w, v⟩) (Nat.le_refl _) (by omega) I2 F2 rfl⟩) (fun f => absurd q f)
theorem c_birthday {a : Int32} (hd : 50 ≤ d) (hs : Sg h.1 y) (I : CI h y c S) (V : VN S) (kk : KC M 1 ecS c h y (f_birthday a S) K E) : Ca d m_X6_birthday [.ref 1, .int a] h K E := by
  obtain ⟨d, rfl⟩ : ∃ e, d = e + 1 := ⟨d - 1, by omega⟩
  obtain ⟨ov, I1, I2⟩ := id I
  refine w_X6_birthday (by omega) hs (t_X6_needPlace (by omega) hs (fun z => ⟨rfl, hs, t_X6_numberAt (by omega) hs I2 z (fun r w1 w2 => ⟨r, rfl, hs, t_X5_toward (k := 300) (by omega) hs w2 rfl (V _ (isp_p z).2 w1) (fun h2 W2 F2 => ⟨rfl, F2.sg hs, ?_⟩)⟩) (fun w => kk.n I hs (out2_2 z w) (by decide) rfl)⟩) (fun z => kk.n I hs (out2_1 z) (by decide) rfl))
  exact kk.a (out2_0 z w1) (Nat.le_refl _) (by omega) (I.fw hs F2).1 (I.fw hs F2).2 ⟨_, rfl, fun _ => W2.2.2.2⟩
theorem c_signOf {a b : Int32} (hd : 50 ≤ d) (hs : Sg h.1 y) (I : CI h y c S) (V : VN S) (kk : KC M 1 ecS c h y (f_signOf a b S) K E) : Ca d m_X6_signOf [.ref 1, .int a, .int b] h K E := by
  obtain ⟨d, rfl⟩ : ∃ e, d = e + 1 := ⟨d - 1, by omega⟩
  obtain ⟨ov, I1, I2⟩ := id I
  refine w_X6_signOf (by omega) hs (t_X6_needPlace (by omega) hs (fun z => ⟨rfl, hs, t_X6_needRow (by omega) hs (fun z2 => ⟨rfl, hs, t_X6_numberAt (by omega) hs I2 z (fun r w1 w2 => ⟨r, rfl, hs, t_X5_toward (k := b.toInt.toNat) (by omega) hs w2 (by omega) (V _ (isp_p z).2 w1) (fun h2 W2 F2 => ⟨rfl, F2.sg hs, ?_⟩)⟩) (fun w => kk.n I hs (out2_2 ⟨z, z2⟩ w) (by decide) rfl)⟩) (fun w => kk.n I hs (out2_1 (fun v => w v.2)) (by decide) rfl)⟩) (fun w => kk.n I hs (out2_1 (fun v => w v.1)) (by decide) rfl))
  exact kk.a (out2_0 ⟨z, z2⟩ w1) (Nat.le_refl _) (by omega) (I.fw hs F2).1 (I.fw hs F2).2 ⟨_, rfl, fun _ => by rw [c_J_i, w2, W2.1]⟩
theorem c_cut {a b e : Int32} (hd : 50 ≤ d) (hs : Sg h.1 y) (I : CI h y c S) (V : VN S) (kk : KC M 1 ecI c h y (f_cut a b e S) K E) : Ca d m_X6_cut [.ref 1, .int a, .int b, .int e] h K E := by
  obtain ⟨d, rfl⟩ : ∃ e, d = e + 1 := ⟨d - 1, by omega⟩
  obtain ⟨ov, I1, I2⟩ := id I
  have e65 : (65535 : Int32).toInt = 65535 := rfl
  refine w_X6_cut (by omega) hs (t_X6_needPlace (by omega) hs (fun z => ⟨rfl, hs, t_X6_needRange (by omega) hs (fun z2 => ⟨rfl, hs, t_X6_needRange (by omega) hs (fun z3 => ⟨rfl, hs, ?_⟩) (fun w => kk.n I hs (out3_2 z (fun v => w v.2)) (by decide) rfl)⟩) (fun w => kk.n I hs (out3_2 z (fun v => w v.1)) (by decide) rfl)⟩) (fun z => kk.n I hs (out3_1 z) (by decide) rfl))
  rw [i_0, e65] at z2 z3
  refine t_X6_greatestOf (by omega) hs I2 (fun r1 g1 g2 => ⟨r1, rfl, hs, t_X6_leastOf (by omega) hs I2 (fun r2 l1 l2 => ⟨r2, rfl, hs, fun q => ?_, fun q => ?_⟩) (fun w => kk.n I hs (out3_3 z ⟨z2, z3⟩ (fun v => w v.1.2)) (by decide) rfl)⟩) (fun w => kk.n I hs (out3_3 z ⟨z2, z3⟩ (fun v => w v.1.1)) (by decide) rfl)
  · rw [j_le, g2, l2] at q
    exact kk.n I hs (out3_3 z ⟨z2, z3⟩ (fun v => by have := v.2.1; omega)) (by decide) rfl
  · rw [j_le, g2, l2] at q
    have b1 := gof_b V 16 (Nat.le_refl _) g1
    have b2 := lof_b V 16 (Nat.le_refl _) l1
    refine t_X5_between (by omega) hs g2 l2 ⟨by omega, b1, b2⟩ (fun w h2 ew W2 ok F2 => ⟨1, rfl, F2.sg hs, fun _ => ?_, fun v => absurd n1_0 v⟩) (fun h2 ew F2 => ⟨0, rfl, F2.sg hs, fun v => absurd rfl v, fun _ => ?_⟩)
    · obtain ⟨J2, G2⟩ := I.fw hs F2
      have ecw : cW S b e = some w := ew
      refine t_X6_keepNumber (by omega) (F2.sg hs) J2 G2 z W2.1 (fun f h3 I3 F3 f18 => ⟨rfl, F3.1, ?_⟩) (fun f => kk.m J2 G2 (out3_3 z ⟨z2, z3⟩ (fun v => f ?_)) (by decide) rfl)
      · have eo : f_cut a b e S = (0, ((w.2.2.2 : Nat) : Int), sN S (pN a) w.1) := by
          unfold f_cut
          rw [ecw]
          exact out3_0 z ⟨z2, z3⟩ ⟨⟨g1, l1⟩, by omega, f⟩
        refine kk.a eo (Nat.le_refl _) (by omega) I3 F3 ⟨_, rfl, fun _ => ?_⟩
        rw [f18 18 rfl]
        exact W2.2.2.2
      · have := v.2.2
        rw [ecw] at this
        exact this
    · have ecw : cW S b e = none := ew
      refine kk.m (I.fw hs F2).1 (I.fw hs F2).2 (out3_3 z ⟨z2, z3⟩ (fun v => ?_)) (by decide) rfl
      have := v.2.2
      rw [ecw] at this
      exact this
end
