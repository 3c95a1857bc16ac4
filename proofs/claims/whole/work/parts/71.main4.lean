/-! ===== layer 2: the model's numbers ===== -/
section
variable {d : Nat} {h : XH} {y : Nat → Nat} {S : XS} {K : XK} {E : XE}
theorem MI.fq {h2 : XH} (I : MI h S) (F : Fq h h2) : MI h2 S ∧ FM h h2 ∧ h2.2.1 77 0 = h.2.1 77 0 := by
  obtain ⟨m, om, I1, I2, I3⟩ := I
  obtain ⟨f1, f2, f3, f4⟩ := F
  refine ⟨⟨m, om, I1.fr (f4 7 (by omega)) (fun r a b => (f3 r (by omega)).1), I2.fr (f3 78 (by omega)).1 (f3 79 (by omega)).1 (Nat.le_refl _) (fun _ _ => rfl), fun p hp => ?_⟩, ⟨f1, f2, fun r hr => f3 r (by omega)⟩, f4 0 (by omega)⟩
  obtain ⟨p1, p2, p3⟩ := I3 p hp
  rw [(f3 78 (by omega)).1, (f3 79 (by omega)).1]
  refine ⟨p1, p2, fun z => ?_⟩
  obtain ⟨g1, g2, g3⟩ := p3 z
  refine ⟨by rw [(f3 79 (by omega)).1]; exact g1, g2, fun k e n hk => ?_⟩
  rw [(f3 90 (by omega)).2, (f3 91 (by omega)).1]
  exact g3 k e n hk
/-- a number laid -/
theorem MI.nu {p : Nat} {c : Int32} {v : Int} {h2 : XH} (I : MI h S) (hp : p < 16) (hc : c.toInt = v) (e : h2 = x_setI (x_setI h 78 p 2) 79 p c) : MI h2 (sN S p v) ∧ FM h h2 ∧ h2.2.1 77 0 = h.2.1 77 0 := by
  obtain ⟨a1, a2⟩ := MI.no (c := c) I hp (Or.inr (Or.inl rfl)) (sN S p v) h rfl rfl (fun q z => ⟨upw_n _ _ z, rfl⟩) (FM.rf _) rfl rfl (fun _ _ _ => rfl) rfl (fun q _ k _ => ⟨rfl, rfl⟩) (fun _ => hc.trans (upw_e _ _ _).symm) (fun w => absurd w (by decide))
  rw [← e] at a1 a2
  exact ⟨a1, a2, by rw [e, sI_nq _ _ (by omega), sI_nq _ _ (by omega)]⟩
theorem t_X7_goesTo {a : Int64} {b : Int32} {t : Int} {m : Nat} (hd : 30 ≤ d) (hs : Sg h.1 y) (ha : a.toInt = t) (hb : b.toInt = m) (ht : fitN t) (kk : ∀ (r : Int32) h2, Wm h2 (tw m t (wA 0)) → Fq h h2 → r.toInt = twl m t (wA 0) 0 → K (some (.int r)) h2) : Ca d m_X7_goesTo [.ref 77, .long a, .int b] h K E := by
  obtain ⟨d, rfl⟩ : ∃ e, d = e + 1 := ⟨d - 1, by omega⟩
  have loop : ∀ (q g : Nat) (l4 : Int32) (u5 : Option Value) (w : WS) (l : Int) (h1 : XH), q + w.2.2.2 = m → l4.toInt = l → tQ g t w → Wm h1 w → Fq h h1 → tw q t w = tw m t (wA 0) → twl q t w l = twl m t (wA 0) 0 → b_X7_goesTo_7 d 77 a b l4 u5 h1 K E := by
    intro q
    induction q with
    | zero =>
      intro g l4 u5 w l h1 hq h4 Q W1 F1 e e'
      have fin : K (some (.int l4)) h1 := kk l4 h1 (by rw [← e]; exact W1) F1 (by rw [← e']; exact h4)
      have wc := W1.2.2.2
      exact w_X7_goesTo_7 (by omega) (F1.sg hs) ⟨fun _ => fin, fun _ => ⟨fun _ => fin, fun z => absurd (i_le.mpr (by omega)) z⟩⟩
    | succ q ih =>
      intro g l4 u5 w l h1 hq h4 Q W1 F1 e e'
      have hs1 := F1.sg hs
      have wv := W1.1
      have wc := W1.2.2.2
      refine w_X7_goesTo_7 (by omega) hs1 ⟨fun z => ?_, fun z => ⟨fun v => absurd (i_le.mp v) (by omega), fun _ => ?_⟩⟩
      · have hw : w.1 = t := by rw [← wv, z, ha]
        rw [tw_e hw] at e
        have e9 : twl (q + 1) t w l = l := by
          show (if w.1 = t then l else _) = l
          rw [if_pos hw]
        rw [e9] at e'
        exact kk l4 h1 (by rw [← e]; exact W1) F1 (by rw [← e']; exact h4)
      · have hne : ¬ w.1 = t := fun v => z (Int64.toInt_inj.mp (by rw [wv, ha, v]))
        obtain ⟨g2, w2, e2, e4, Q2, e5⟩ := tQ_s ht Q hne
        rw [tw_n hne e4] at e
        rw [twl_n hne e4] at e'
        have nx : ∀ (s0 s1 : Int32) (u5 : Option Value), (s0 = 0 ↔ decide (w.1 < t) = false) → s1.toInt = (if t ≤ w.1 then -1 else 1 : Int) → b_X7_goesTo_55 d 77 a b s1 u5 s0 77 h1 K E := by
          intro s0 s1 u5 hs0 hs1'
          refine w_X7_goesTo_55 (by omega) hs1 (t_X7_goes (by omega) hs1 W1 (tQ_ok Q).1 hs0 (fun w3 h2 e6 W2 F2 => ⟨1, rfl, F2.sg hs1, ?_⟩) (fun h2 e6 F2 => ?_))
          · rw [e4] at e6
            cases e6
            exact ih g2 s1 _ w2 _ h2 (by omega) hs1' Q2 W2 (F1.tr F2) e e'
          · rw [e4] at e6
            cases e6
        refine ⟨fun v => w_X7_goesTo_38 (by omega) hs1 ⟨fun _ => nx 0 (-1) _ ⟨fun _ => decide_eq_false ?_, fun _ => rfl⟩ ?_, fun w => absurd v w⟩, fun v => w_X7_goesTo_38 (by omega) hs1 ⟨fun w => absurd w v, fun _ => nx 1 1 _ ⟨fun q9 => absurd q9 n1_0, fun q9 => ?_⟩ ?_⟩⟩
        · rw [j_le, ha, wv] at v; omega
        · rw [j_le, ha, wv] at v
          rw [if_pos v]; rfl
        · rw [j_le, ha, wv] at v
          rw [decide_eq_true (by omega : w.1 < t)] at q9
          cases q9
        · rw [j_le, ha, wv] at v
          rw [if_neg v]; rfl
  exact w_X7_goesTo (by omega) hs (t_X7_begins (by omega) hs (fun h1 W1 F1 => ⟨rfl, F1.sg hs, loop m 276 0 none (wA 0) 0 h1 (by show m + 0 = m; omega) rfl (tQ_0 t) W1 F1 rfl rfl⟩))
theorem t_X7_finds {a b : Int32} {e f : Int64} {l u : Int} (hd : 30 ≤ d) (hs : Sg h.1 y) (B : bLU l u) (hl : (a = 0 → l = -1099511627776) ∧ (¬ a = 0 → e.toInt = l)) (hu : (b = 0 → u = 1099511627776) ∧ (¬ b = 0 → f.toInt = u)) (kk : ∀ w h2, fnw l u 300 (wA 0) = some w → fitN w.1 → Wm h2 w → Fq h h2 → K (some (.int 1)) h2) (kn : ∀ h2, ¬ cfit (fnw l u 300 (wA 0)) → Fq h h2 → K (some (.int 0)) h2) : Ca d m_X7_finds [.ref 77, .int a, .long e, .int b, .long f] h K E := by
  obtain ⟨d, rfl⟩ : ∃ e, d = e + 1 := ⟨d - 1, by omega⟩
  have no : ∀ h1, ¬ cfit (fnw l u 300 (wA 0)) → Fq h h1 → b_X7_finds_7 d 77 a e b f 0 h1 K E := fun h1 n F1 => w_X7_finds_7 (by omega) (F1.sg hs) ⟨fun _ => ⟨Or.inl rfl, kn h1 n F1⟩, fun v => absurd rfl v⟩
  have loop : ∀ (g q : Nat) (w : WS) (h1 : XH), g ≤ q → fitN w.1 → bQ g l u w → Wm h1 w → Fq h h1 → fnw l u q w = fnw l u 300 (wA 0) → b_X7_finds_7 d 77 a e b f 1 h1 K E := by
    intro g
    induction g with
    | zero =>
      intro q w h1 hq fw Q W1 F1 ee
      exfalso
      rcases Q with ⟨n, e9, q1, q2, q3, q4⟩ | ⟨j, v, c, e9, q1, _⟩
      · have := q1
        have := q2
        by_cases z : 0 < n
        · have := q1 z; omega
        · by_cases z2 : n < 0
          · have := q2 z2; omega
          · omega
      · omega
    | succ g ih =>
      intro q w h1 hq fw Q W1 F1 ee
      have hs1 := F1.sg hs
      have wv := W1.1
      obtain ⟨q, rfl⟩ : ∃ r, q = r + 1 := ⟨q - 1, by omega⟩
      have e0 : fnw l u (q + 1) w = if w.1 ≤ l ∨ u ≤ w.1 then (match wgo (decide (w.1 ≤ l)) w with
        | some w2 => fnw l u q w2
        | none => none) else some w := rfl
      rw [e0] at ee
      have al : (a = 0 → ¬ w.1 ≤ l) ∧ (¬ a = 0 → ((h1.2.2.1 77 25) ≤ e ↔ w.1 ≤ l)) := by
        refine ⟨fun z => by rw [hl.1 z]; unfold fitN at fw; omega, fun z => ?_⟩
        rw [j_le, wv, hl.2 z]
      have au : (b = 0 → ¬ u ≤ w.1) ∧ (¬ b = 0 → ((h1.2.2.1 77 25) < f ↔ ¬ u ≤ w.1)) := by
        refine ⟨fun z => by rw [hu.1 z]; unfold fitN at fw; omega, fun z => ?_⟩
        rw [j_lt, wv, hu.2 z]
        omega
      -- one step more
      have go : ∀ u7 : Option Value, (w.1 ≤ l ∨ u ≤ w.1) → b_X7_finds_40 d 77 a e b f u7 h1 K E := by
        intro u7 hc
        rw [if_pos hc] at ee
        obtain ⟨g2, e2, hor⟩ := bQ_s B Q hc
        have hg : g2 = g := by omega
        subst hg
        have nx : ∀ s0 : Int32, (s0 = 0 ↔ decide (w.1 ≤ l) = false) → b_X7_finds_59 d 77 a e b f u7 s0 77 h1 K E := by
          intro s0 hs0
          refine w_X7_finds_59 (by omega) hs1 (t_X7_goes (by omega) hs1 W1 (bQ_ok Q).1 hs0 (fun w3 h2 e5 W2 F2 => ⟨1, rfl, F2.sg hs1, fun v => absurd v n1_0, fun _ => ?_⟩) (fun h2 e5 F2 => ⟨0, rfl, F2.sg hs1, fun _ => ?_, fun v => absurd rfl v⟩))
          · rw [e5] at ee
            rcases hor with hor | ⟨w2, e6, Q2, hnf⟩
            · rw [e5] at hor; cases hor
            · rw [e5] at e6
              cases e6
              have hs2 := F2.sg hs1
              have rb : (-268435456 ≤ h2.2.2.1 77 25 ∧ h2.2.2.1 77 25 ≤ 268435456) ↔ fitN w3.1 := by
                rw [j_le, j_le, W2.1]
                exact Iff.rfl
              refine ⟨fun v => w_X7_finds_80 (by omega) hs2 (ih q w3 h2 (by omega) (rb.mp v) Q2 W2 (F1.tr F2) ee), fun v => w_X7_finds_79 (by omega) hs2 (w_X7_finds_80 (by omega) hs2 (no h2 ?_ (F1.tr F2)))⟩
              have hnf2 := hnf (fun q9 => v (rb.mpr q9))
              have e8 : fnw l u q w3 = some w3 := by
                cases q with
                | zero => rfl
                | succ q =>
                  show (if w3.1 ≤ l ∨ u ≤ w3.1 then _ else some w3) = some w3
                  rw [if_neg hnf2]
              have ee2 : fnw l u q w3 = fnw l u 300 (wA 0) := ee
              rw [← ee2, e8]
              exact fun q9 => v (rb.mpr q9)
          · rw [e5] at ee
            have ee2 : none = fnw l u 300 (wA 0) := ee
            exact w_X7_finds_79 (by omega) (F2.sg hs1) (w_X7_finds_80 (by omega) (F2.sg hs1) (no h2 (by rw [← ee2]; exact fun q9 => q9) (F1.tr F2)))
        refine w_X7_finds_40 (by omega) hs1 ⟨fun z => w_X7_finds_58 (by omega) hs1 (nx 0 ⟨fun _ => decide_eq_false (al.1 z), fun _ => rfl⟩), fun z => ⟨fun v => w_X7_finds_58 (by omega) hs1 (nx 0 ⟨fun _ => decide_eq_false (fun q9 => j_nle.mpr v ((al.2 z).mpr q9)), fun _ => rfl⟩), fun v => nx 1 ⟨fun q9 => absurd q9 n1_0, fun q9 => ?_⟩⟩⟩
        have := (al.2 z).mp (j_nlt.mp v)
        rw [decide_eq_true this] at q9
        cases q9
      have fin : ¬ (w.1 ≤ l ∨ u ≤ w.1) → (1 : Int32) = 0 ∨ (1 : Int32) = 1 → K (some (.int 1)) h1 := by
        intro hc _
        rw [if_neg hc] at ee
        exact kk w h1 ee.symm fw W1 F1
      have second : ¬ w.1 ≤ l → b_X7_finds_25 d 77 a e b f 1 h1 K E := by
        intro hnl
        refine w_X7_finds_25 (by omega) hs1 ⟨fun z => ⟨Or.inr rfl, fin (fun v => v.elim hnl (au.1 z)) (Or.inr rfl)⟩, fun z => ⟨fun v => ⟨Or.inr rfl, fin (fun v9 => v9.elim hnl ((au.2 z).mp v)) (Or.inr rfl)⟩, fun v => go _ (Or.inr (Classical.byContradiction (fun q9 => v ((au.2 z).mpr q9))))⟩⟩
      exact w_X7_finds_7 (by omega) hs1 ⟨fun z => absurd z n1_0, fun _ => ⟨fun z => second (al.1 z), fun z => ⟨fun v => go _ (Or.inl ((al.2 z).mp v)), fun v => second (fun q9 => v ((al.2 z).mpr q9))⟩⟩⟩
  exact w_X7_finds (by omega) hs (t_X7_begins (by omega) hs (fun h1 W1 F1 => ⟨rfl, F1.sg hs, loop 278 300 (wA 0) h1 (by omega) (by show fitN (0 * 1048576); unfold fitN; omega) (bQ_0 l u) W1 F1 rfl⟩))
theorem t_X7_birthdayOf {a : Int32} (hd : 32 ≤ d) (hs : Sg h.1 y) (I : MI h S) (V : VN S) (z : isp a) (hk : S.1 (pN a) = 2) (kk : ∀ (r : Int32) h2, Fq h h2 → r.toInt = (tw 300 (S.2.2.1 (pN a)) (wA 0)).2.2.2 → K (some (.int r)) h2) : Ca d m_X7_birthdayOf [.ref 77, .int a] h K E := by
  obtain ⟨d, rfl⟩ : ∃ e, d = e + 1 := ⟨d - 1, by omega⟩
  obtain ⟨m, om, -, -, I3⟩ := id I
  obtain ⟨z1, z2⟩ := isp_p z
  have hv := V _ z2 hk
  refine w_X7_birthdayOf (by omega) hs ⟨i_Ix z1 z2, ?_⟩
  rw [i_ix z1]
  refine t_X7_goesTo (t := S.2.2.1 (pN a)) (m := 1000) (by omega) hs (by rw [i_2j]; exact (I3 _ z2).2.1 hk) rfl hv (fun r h2 W2 F2 _ => ⟨r, rfl, F2.sg hs, kk _ h2 F2 ?_⟩)
  rw [W2.2.2.2, (tw_st hv 276 _ (tQ_0 _) 1000 (by omega)).2 300 (by omega)]
theorem t_X7_signAt {a b : Int32} (hd : 33 ≤ d) (hs : Sg h.1 y) (I : MI h S) (V : VN S) (z : isp a) (hk : S.1 (pN a) = 2) (hb : 0 ≤ b.toInt) (kk : ∀ (r : Int32) h2, Fq h h2 → r.toInt = csg (S.2.2.1 (pN a)) (tw (min b.toInt.toNat 300) (S.2.2.1 (pN a)) (wA 0)).1 → K (some (.int r)) h2) : Ca d m_X7_signAt [.ref 77, .int a, .int b] h K E := by
  obtain ⟨d, rfl⟩ : ∃ e, d = e + 1 := ⟨d - 1, by omega⟩
  obtain ⟨m, om, -, -, I3⟩ := id I
  obtain ⟨z1, z2⟩ := isp_p z
  have hv := V _ z2 hk
  have hs9 := tw_sg hv b.toInt.toNat 276 300 (wA 0) 0 (tQ_0 _) (by omega)
  have hst := tw_st hv 276 (wA 0) (tQ_0 _)
  have h276 := (tw_up hv 300 276 (wA 0) (tQ_0 _)).2
  have c0 : (wA 0).2.2.2 = 0 := rfl
  rw [c0] at hs9
  refine w_X7_signAt (by omega) hs (t_X7_birthdayOf (by omega) hs I V z hk (fun r h2 F2 hr => ⟨r, rfl, F2.sg hs, fun w => kk 0 h2 F2 ?_, fun w => ?_⟩))
  · rw [i_le, hr] at w
    have e1 : (tw b.toInt.toNat (S.2.2.1 (pN a)) (wA 0)).1 = S.2.2.1 (pN a) := Classical.byContradiction (fun q => by
      have := (hs9.2 q).1
      omega)
    have e2 : (tw (min b.toInt.toNat 300) (S.2.2.1 (pN a)) (wA 0)).1 = S.2.2.1 (pN a) := by
      by_cases q : b.toInt.toNat ≤ 300
      · rw [show min b.toInt.toNat 300 = b.toInt.toNat by omega]; exact e1
      · rw [show min b.toInt.toNat 300 = 300 by omega]; exact (hst 300 (by omega)).1
    rw [e2]
    unfold csg
    rw [if_neg (by omega), if_pos rfl]
    rfl
  · rw [i_le, hr] at w
    have hne : ¬ (tw b.toInt.toNat (S.2.2.1 (pN a)) (wA 0)).1 = S.2.2.1 (pN a) := fun q => by
      have := hs9.1 q
      omega
    have h9 := hs9.2 hne
    refine ⟨i_Ix z1 z2, ?_⟩
    rw [i_ix z1, (F2.2.2.1 79 (by omega)).1]
    have nb : (b + 1).toInt = (b.toInt.toNat + 1 : Nat) := by rw [i_add (by rw [i_1]; omega) (by rw [i_1]; omega), i_1]; omega
    refine t_X7_goesTo (t := S.2.2.1 (pN a)) (m := b.toInt.toNat + 1) (by omega) (F2.sg hs) (by rw [i_2j]; exact (I3 _ z2).2.1 hk) nb hv (fun r3 h3 W3 F3 hr3 => ⟨r3, rfl, (F2.tr F3).sg hs, kk r3 h3 (F2.tr F3) ?_⟩)
    rw [hr3, h9.2, show min b.toInt.toNat 300 = b.toInt.toNat by omega]
theorem m_birthday {a : Int32} (hd : 50 ≤ d) (hs : Sg h.1 y) (I : MI h S) (V : VN S) (kk : KM h 1 (f_birthday a S) K) : Ca d m_X7_birthday [.ref 77, .int a] h K E := by
  obtain ⟨d, rfl⟩ : ∃ e, d = e + 1 := ⟨d - 1, by omega⟩
  obtain ⟨m, om, I1, I2, I3⟩ := id I
  refine w_X7_birthday (by omega) hs ⟨fun z => t_X7_isKind (by omega) hs (isp_p z).1 (isp_p z).2 (fun hk => ⟨1, rfl, hs, fun _ => ?_, fun v => absurd n1_0 v⟩) (fun hk => ⟨0, rfl, hs, fun v => absurd rfl v, fun _ => ?_⟩), fun z => ?_⟩
  · refine w_X7_birthday_28 (by omega) hs (fun h1 e1 => ⟨fun _ => ?_, fun v => absurd rfl v⟩)
    obtain ⟨b1, b2, b3⟩ := I.st 0
    rw [← e1] at b1 b2 b3
    have hk2 := hk
    rw [(I3 _ (isp_p z).2).1] at hk2
    refine t_X7_birthdayOf (by omega) (b2.sg hs) b1 V z hk2 (fun r h2 F2 hr => ⟨r, rfl, F2.sg (b2.sg hs), ?_⟩)
    obtain ⟨d1, d2, d3⟩ := b1.fq F2
    exact kk.a (out2_0 z hk2) d1 (b2.tr d2) (d3.trans b3) ⟨_, rfl, fun _ => hr⟩
  · refine w_X7_birthday_28 (by omega) hs (fun h1 e1 => ⟨fun v => absurd v (by decide), fun _ => ?_⟩)
    obtain ⟨b1, b2, b3⟩ := I.st 2
    rw [← e1] at b1 b2 b3
    exact kk.b (out2_2 z (fun v => hk (by rw [(I3 _ (isp_p z).2).1]; exact v))) (by decide) b1 b2 (by rw [b3]; rfl) ⟨_, rfl, fun w => w.elim⟩
  · refine w_X7_birthday_28 (by omega) hs (fun h1 e1 => ⟨fun v => absurd v n1_0, fun _ => ?_⟩)
    obtain ⟨b1, b2, b3⟩ := I.st 1
    rw [← e1] at b1 b2 b3
    exact kk.b (out2_1 z) (by decide) b1 b2 (by rw [b3]; rfl) ⟨_, rfl, fun w => w.elim⟩
theorem m_number {a b c : Int32} (hd : 50 ≤ d) (hs : Sg h.1 y) (I : MI h S) (kk : KM h 0 (f_number a b c S) K) : Ca d m_X7_number [.ref 77, .int a, .int b, .int c] h K E := by
  obtain ⟨d, rfl⟩ : ∃ e, d = e + 1 := ⟨d - 1, by omega⟩
  have rc : (0 ≤ ((c : Int32).toInt64) ∧ ((c : Int32).toInt64) ≤ 20) ↔ (0 ≤ c.toInt ∧ c.toInt ≤ 20) := i_rng rfl rfl
  have e20 : (20 : Int32).toInt = 20 := rfl
  have lo := i_lo b
  have hi := i_hi b
  have bad : ∀ (st : Nat) (s0 l1 : Int32) (u2 u3 u4 u7 : Option Value) (l5 : Int64), s0.toInt = st → ¬ s0 = 0 → ¬ st = 0 → f_number a b c S = (st, 0, S) → b_X7_number_79 d 77 l1 u2 u3 u4 l5 u7 s0 77 h K E := by
    intro st s0 l1 u2 u3 u4 u7 l5 e0 n0 nst eo
    refine w_X7_number_79 (by omega) hs (fun h3 e3 => ⟨fun v => absurd v n0, fun _ => ?_⟩)
    obtain ⟨b1, b2, b3⟩ := I.st s0
    rw [← e3] at b1 b2 b3
    exact kk.b eo nst b1 b2 (by rw [b3]; exact e0) rfl
  refine w_X7_number (by omega) hs ⟨fun w => ?_, fun w => ?_⟩
  · have hbi : ¬ bi (0 ≤ ((c : Int32).toInt64) ∧ ((c : Int32).toInt64) ≤ 20) = 0 := bi_ne.mpr w
    rw [rc] at w
    have loop : ∀ (q k : Nat) (u2 u3 : Option Value) (l5 : Int64) (l7 : Int32), q + k = 20 - c.toInt.toNat → l7.toInt = c.toInt.toNat + k → l5.toInt = b.toInt * pw2 k → -2147483648 * pw2 k ≤ b.toInt * pw2 k ∧ b.toInt * pw2 k ≤ 2147483648 * pw2 k → b_X7_number_28 d 77 a u2 u3 (bi (0 ≤ ((c : Int32).toInt64) ∧ ((c : Int32).toInt64) ≤ 20)) l5 l7 h K E := by
      intro q
      induction q with
      | zero =>
        intro k u2 u3 l5 l7 hq h7 h5 hb5
        have hk : k = 20 - c.toInt.toNat := by omega
        rw [hk] at h5
        have rb : (-268435456 ≤ l5 ∧ l5 ≤ 268435456) ↔ fitN (b.toInt * pw2 (20 - c.toInt.toNat)) := by
          rw [j_le, j_le, h5]
          exact Iff.rfl
        refine w_X7_number_28 (by omega) hs ⟨fun _ => ⟨fun z => ⟨fun v => absurd v hbi, fun _ => ⟨fun f => ?_, fun f => ?_⟩⟩, fun z => bad 1 1 _ _ _ _ _ _ rfl n1_0 (by decide) (out2_1 z)⟩, fun v => absurd (i_le.mpr (by rw [e20]; omega)) v⟩
        · refine w_X7_number_79 (by omega) hs (fun h1 e1 => ⟨fun _ => ?_, fun v => absurd rfl v⟩)
          obtain ⟨b1, b2, b3⟩ := I.st 0
          rw [← e1] at b1 b2 b3
          obtain ⟨z1, z2⟩ := isp_p z
          have f2 := rb.mp f
          refine t_X7_lays (by omega) (b2.sg hs) z1 z2 (fun h2 e2 => ?_)
          obtain ⟨d1, d2, d3⟩ := b1.nu z2 (v := b.toInt * pw2 (20 - c.toInt.toNat)) (by rw [j_to32 (by rw [h5]; unfold fitN at f2; omega), h5]) e2
          exact ⟨rfl, d2.sg (b2.sg hs), kk.a (out2_0 z ⟨w, f2⟩) d1 (b2.tr d2) (d3.trans b3) rfl⟩
        · exact w_X7_number_74 (by omega) hs (bad 2 2 _ _ _ _ _ _ rfl (by decide) (by decide) (out2_2 z (fun v => f (rb.mpr v.2))))
      | succ q ih =>
        intro k u2 u3 l5 l7 hq h7 h5 hb5
        have hp : pw2 k ≤ pw2 20 := pw2_le (by omega)
        have hp2 : pw2 20 = 1048576 := rfl
        have hp1 := pw2_1 k
        have e2 : (2 : Int64).toInt = 2 := rfl
        have en : b.toInt * pw2 (k + 1) = 2 * (b.toInt * pw2 k) := by rw [pw2_s, Int.mul_left_comm]
        refine w_X7_number_28 (by omega) hs ⟨fun v => absurd (i_le.mp v) (by rw [e20]; omega), fun _ => ih (k + 1) _ _ (l5 * 2) (l7 + 1) (by omega) ?_ ?_ ?_⟩
        · rw [i_add (by rw [i_1]; omega) (by rw [i_1]; omega), h7, i_1]; omega
        · rw [j_mul (by rw [e2, h5]; omega) (by rw [e2, h5]; omega), e2, h5, en]; omega
        · rw [en, pw2_s]; omega
    refine w_X7_number_26 (by omega) hs (loop (20 - c.toInt.toNat) 0 _ _ _ c (by omega) (by omega) ?_ ?_)
    · rw [i_2j, show pw2 0 = 1 from rfl]; omega
    · rw [show pw2 0 = 1 from rfl]; omega
  · have hbi : bi (0 ≤ ((c : Int32).toInt64) ∧ ((c : Int32).toInt64) ≤ 20) = 0 := bi_eq.mpr w
    rw [rc] at w
    refine w_X7_number_26 (by omega) hs (w_X7_number_28 (by omega) hs ⟨fun _ => ⟨fun z => ⟨fun _ => ?_, fun v => absurd hbi v⟩, fun z => bad 1 1 _ _ _ _ _ _ rfl n1_0 (by decide) (out2_1 z)⟩, fun v => absurd (i_le.mpr (Int.le_refl _)) v⟩)
    exact w_X7_number_74 (by omega) hs (bad 2 2 _ _ _ _ _ _ rfl (by decide) (by decide) (out2_2 z (fun v => w v.1)))
theorem m_signs {a b c : Int32} (hd : 50 ≤ d) (hs : Sg h.1 y) (I : MI h S) (kk : KM h 0 (f_signs a b c S) K) : Ca d m_X7_signs [.ref 77, .int a, .int b, .int c] h K E := by
  obtain ⟨d, rfl⟩ : ∃ e, d = e + 1 := ⟨d - 1, by omega⟩
  have rc : (0 ≤ ((c : Int32).toInt64) ∧ ((c : Int32).toInt64) ≤ 20) ↔ (0 ≤ c.toInt ∧ c.toInt ≤ 20) := i_rng rfl rfl
  have bad : ∀ (st : Nat) (s0 l1 l2 l3 : Int32) (u4 : Option Int32) (u5 u6 : Option Value), s0.toInt = st → ¬ s0 = 0 → ¬ st = 0 → f_signs a b c S = (st, 0, S) → b_X7_signs_51 d 77 l1 l2 l3 u4 u5 u6 s0 77 h K E := by
    intro st s0 l1 l2 l3 u4 u5 u6 e0 n0 nst eo
    refine w_X7_signs_51 (by omega) hs (fun h3 e3 => ⟨fun v => absurd v n0, fun _ => ?_⟩)
    obtain ⟨b1, b2, b3⟩ := I.st s0
    rw [← e3] at b1 b2 b3
    exact kk.b eo nst b1 b2 (by rw [b3]; exact e0) rfl
  have no : ¬ ((0 ≤ c.toInt ∧ c.toInt ≤ 20) ∧ 0 ≤ b.toInt ∧ b.toInt ≤ pw2 c.toInt.toNat - 1) → b_X7_signs_26 d 77 a b c none none none h K E := fun w => by
    refine w_X7_signs_26 (by omega) hs (w_X7_signs_27 (by omega) hs ⟨fun z => ⟨fun v => absurd rfl v, fun _ => bad 2 2 _ _ _ _ _ _ rfl (by decide) (by decide) (out2_2 z w)⟩, fun z => bad 1 1 _ _ _ _ _ _ rfl n1_0 (by decide) (out2_1 z)⟩)
  refine w_X7_signs (by omega) hs ⟨fun w => ⟨fun v => no (fun q => ?_), fun v => ?_⟩, fun w => no (fun q => w (rc.mpr q.1))⟩
  · rw [i_lt, i_0] at v; omega
  rw [rc] at w
  rw [i_lt, i_0] at v
  have rd := row_dn (b := b) (c := c) (i := c.toInt.toNat) (by omega) (by omega) (by omega)
  refine ⟨fun q => no (fun q2 => q (rd.mpr (by omega))), fun q => w_X7_signs_27 (by omega) hs ⟨fun z => ⟨fun _ => ?_, fun v => absurd n1_0 v⟩, fun z => bad 1 1 _ _ _ _ _ _ rfl n1_0 (by decide) (out2_1 z)⟩⟩
  have q2 := rd.mp (Classical.not_not.mp q)
  refine w_X7_signs_51 (by omega) hs (fun h1 e1 => ⟨fun _ => ?_, fun v => absurd rfl v⟩)
  obtain ⟨b1, b2, b3⟩ := I.st 0
  rw [← e1] at b1 b2 b3
  have hs1 := b2.sg hs
  have loop : ∀ (q s : Nat) (l5 : Int32) (u4 : Option Int32) (u6 : Option Value) (h2 : XH), q + s = c.toInt.toNat → l5.toInt = s → Wm h2 (alg (btI b) s (wA 0)) → Fq h1 h2 → b_X7_signs_65 d 77 a b c u4 l5 u6 h2 K E := by
    intro q
    induction q with
    | zero =>
      intro s l5 u4 u6 h2 hq h5 W1 F1
      have hsc : s = c.toInt.toNat := by omega
      subst hsc
      obtain ⟨z1, z2⟩ := isp_p z
      refine w_X7_signs_65 (by omega) (F1.sg hs1) ⟨fun _ => t_X7_lays (by omega) (F1.sg hs1) z1 z2 (fun h3 e3 => ?_), fun z => absurd (i_le.mpr (by omega)) z⟩
      obtain ⟨d1, d2, d3⟩ := b1.fq F1
      have q9 := (aQ_ok (by omega) (alg_Q (btI b) c.toInt.toNat (by omega)).1).2
      obtain ⟨g1, g2, g3⟩ := d1.nu z2 (v := (alg (btI b) c.toInt.toNat (wA 0)).1) (by rw [j_to32 (by rw [W1.1]; omega), W1.1]) e3
      exact ⟨rfl, g2.sg (F1.sg hs1), kk.a (out2_0 z ⟨w, by omega, by omega⟩) g1 ((b2.tr d2).tr g2) (g3.trans (d3.trans b3)) rfl⟩
    | succ q ih =>
      intro s l5 u4 u6 h2 hq h5 W1 F1
      have hs2 := F1.sg hs1
      obtain ⟨Q1, Q2⟩ := alg_Q (btI b) s (by omega)
      have Q3 := Q2 (by omega)
      have nx : ∀ s0 : Int32, (s0 = 0 ↔ btI b s = false) → b_X7_signs_87 d 77 a b c u4 l5 u6 s0 77 h2 K E := by
        intro s0 hs0
        refine w_X7_signs_87 (by omega) hs2 (t_X7_goes (by omega) hs2 W1 (aQ_ok (by omega) Q1).1 hs0 (fun w3 h3 e5 W2 F2 => ⟨1, rfl, F2.sg hs2, ?_⟩) (fun h3 e5 F2 => ?_))
        · rw [Q3] at e5
          cases e5
          refine ih (s + 1) (l5 + 1) _ _ h3 (by omega) ?_ W2 (F1.tr F2)
          rw [i_add (by rw [i_1]; omega) (by rw [i_1]; omega), h5, i_1]; rfl
        · rw [Q3] at e5
          cases e5
      refine w_X7_signs_65 (by omega) hs2 ⟨fun z => absurd (i_le.mp z) (by omega), fun _ => ⟨fun v => nx 0 ⟨fun _ => (btI_f h5 (by omega)).mp (i_nd1.mp v), fun _ => rfl⟩, fun v => nx 1 ⟨fun w => absurd w n1_0, fun w => absurd (i_nd1.mpr ((btI_f h5 (by omega)).mpr w)) v⟩⟩⟩
  exact t_X7_begins (by omega) hs1 (fun h2 W2 F2 => ⟨rfl, F2.sg hs1, loop c.toInt.toNat 0 0 _ _ h2 (by omega) rfl W2 F2⟩)
end
