/-! ===== layer 2: the model's calls over what the places hold ===== -/
theorem KM.a {h : XH} {t : Nat} {o : XC} {K : XK} {v : Int} {S : XS} (kk : KM h t o K) (e : o = (0, v, S)) {rv : Option Value} {h2 : XH} (a : MI h2 S) (b : FM h h2) (c : h2.2.1 77 0 = 0) (r : rvT t True v rv) : K rv h2 := by
  subst e
  refine kk rv h2 a b (by rw [c]; rfl) ?_
  match t, r with
  | 0, r => exact r
  | 1, ⟨r, e, g⟩ => exact ⟨r, e, fun _ => g trivial⟩
  | t + 2, ⟨r, e, g⟩ => exact ⟨r, e, fun _ => g trivial⟩
theorem KM.b {h : XH} {t st : Nat} {o : XC} {K : XK} {S : XS} (kk : KM h t o K) (e : o = (st, 0, S)) (hst : ¬ st = 0) {rv : Option Value} {h2 : XH} (a : MI h2 S) (b : FM h h2) (c : (h2.2.1 77 0).toInt = st) (r : rvT t False 0 rv) : K rv h2 := by
  subst e
  refine kk rv h2 a b c ?_
  match t, r with
  | 0, r => exact r
  | 1, ⟨r, e, _⟩ => exact ⟨r, e, fun w => absurd w hst⟩
  | t + 2, ⟨r, e, _⟩ => exact ⟨r, e, fun w => absurd w hst⟩
theorem Fla.st {p : Nat} {h h1 : XH} (F : Fla False p h h1) (v : Int32) : Fla False p (x_setI h 77 0 v) (x_setI h1 77 0 v) := by
  obtain ⟨f1, f2, f3, f4, f5, f6, f7, f8⟩ := F
  refine ⟨f1, f2, fun r hr => ⟨?_, (f3 r hr).2⟩, fun s q0 q1 q2 q3 q4 => ?_, f5, ?_, f7, fun q hq z hk => ?_⟩
  · rw [sI_nq _ _ (by omega), sI_nq _ _ (by omega)]; exact (f3 r hr).1
  · by_cases z : s = 0
    · rw [z, sI_eq, sI_eq]
    · rw [sI_ne _ _ z, sI_ne _ _ z]; exact f4 s q0 q1 q2 q3 q4
  · rw [sI_nq _ _ (by omega), sI_nq _ _ (by omega)]; exact f6
  · rw [sI_nq _ _ (by omega)] at hk
    rw [sI_nq _ _ (by omega), sI_nq _ _ (by omega)]
    exact f8 q hq z hk
theorem n1_0 : ¬ (1 : Int32) = 0 := by decide
/-- by f steps at most, the s-th next: what x comes to and the steps made -/
noncomputable def dsF (n : Nat) : Nat → Nat → O → Option (O × Nat)
  | 0, s, x => some (x, s)
  | f + 1, s, x => ouif (x = .leaf) (some (x, s)) (ouif (stpok (n + s) 5 x) (dsF n f (s + 1) (stpF (n + s) 5 x)) none)
theorem dsF_R (n : Nat) : ∀ f s x, dsR n f s x (dsF n f s x) := by
  intro f
  induction f with
  | zero => intro s x; rfl
  | succ f ih =>
    intro s x
    by_cases a : x = .leaf
    · exact Or.inl ⟨a, by rw [dsF, ouif_t a]⟩
    · by_cases b : stpok (n + s) 5 x
      · refine Or.inr (Or.inl ⟨a, b, ?_⟩)
        rw [dsF, ouif_f a, ouif_t b]
        exact ih _ _
      · exact Or.inr (Or.inr ⟨a, b, by rw [dsF, ouif_f a, ouif_f b]⟩)
noncomputable def dsV : Option (O × Nat) → Int
  | none => 0
  | some (x, s) => ouif (x = .leaf) (s : Int) (-1)
noncomputable def f_kind (a : Int32) (S : XS) : XC := out2 (isp a) True (S.1 (pN a)).toInt S S
noncomputable def f_clear (a : Int32) (S : XS) : XC := out2 (isp a) True (S.1 (pN a)).toInt S (sK S (pN a) 0)
noncomputable def f_finite (a b : Int32) (S : XS) : XC := out2 (isp a) (0 ≤ b.toInt ∧ b.toInt ≤ 1000000) 0 S (sO S (pN a) (mk (if 0 < b.toInt.toNat then [(.leaf, b.toInt.toNat)] else [])))
noncomputable def f_omega (a b : Int32) (S : XS) : XC := out2 (isp a ∧ isp b) (S.1 (pN b) = 1 ∧ okm (mk [(S.2.1 (pN b), 1)])) 0 S (sO S (pN a) (mk [(S.2.1 (pN b), 1)]))
noncomputable def f_natural (a b c e : Int32) (S : XS) : XC := out2 (isp a ∧ isp b ∧ isp c) (S.1 (pN b) = 1 ∧ S.1 (pN c) = 1 ∧ if e = 0 then okm (naO (S.2.1 (pN b)) (S.2.1 (pN c))) else nmok (S.2.1 (pN b)) (S.2.1 (pN c))) 0 S (sO S (pN a) (if e = 0 then naO (S.2.1 (pN b)) (S.2.1 (pN c)) else nmO (S.2.1 (pN b)) (S.2.1 (pN c))))
noncomputable def f_step (a b c : Int32) (S : XS) : XC := out3 (isp a ∧ isp b) (1 ≤ c.toInt ∧ c.toInt ≤ 99) (S.1 (pN b) = 1 ∧ ¬ S.2.1 (pN b) = .leaf ∧ stpok c.toInt.toNat 5 (S.2.1 (pN b))) 0 S (sO S (pN a) (stpF c.toInt.toNat 5 (S.2.1 (pN b))))
noncomputable def f_descent (a b c : Int32) (S : XS) : XC := out3 (isp a) ((1 ≤ b.toInt ∧ b.toInt ≤ 99) ∧ 0 ≤ c.toInt ∧ c.toInt ≤ 2000) (S.1 (pN a) = 1 ∧ ¬ dsF b.toInt.toNat c.toInt.toNat 0 (S.2.1 (pN a)) = none) (dsV (dsF b.toInt.toNat c.toInt.toNat 0 (S.2.1 (pN a)))) S S
noncomputable def f_powers (a : Int32) (S : XS) : XC := out2 (isp a) (S.1 (pN a) = 1) (pl (S.2.1 (pN a))).length S S
noncomputable def f_times (a b : Int32) (S : XS) : XC := out2 (isp a ∧ 0 ≤ b.toInt) (S.1 (pN a) = 1 ∧ b.toInt < (pl (S.2.1 (pN a))).length) ((pl (S.2.1 (pN a)))[b.toInt.toNat]?.getD (.leaf, 0)).2 S S
noncomputable def f_exponent (a b c : Int32) (S : XS) : XC := out2 (isp a ∧ isp b ∧ 0 ≤ c.toInt) (S.1 (pN b) = 1 ∧ c.toInt < (pl (S.2.1 (pN b))).length) 0 S (sO S (pN a) ((pl (S.2.1 (pN b)))[c.toInt.toNat]?.getD (.leaf, 0)).1)
noncomputable def f_parts (a : Int32) (S : XS) : XC := out2 (isp a) (S.1 (pN a) = 2) (S.2.2.1 (pN a)) S S
noncomputable def f_terms (a : Int32) (S : XS) : XC := out2 (isp a) (S.1 (pN a) = 3) (S.2.2.2 (pN a)).length S S
/-- what is live in a descent is not too much, for S -/
def LBD (S : XS) : Prop := ∀ (p nn f : Nat), p < 16 → S.1 p = 1 → 1 ≤ nn → nn ≤ 99 → f ≤ 2000 → (∀ g, g < f → stpok (nn + g) 5 (itr nn g 0 (S.2.1 p))) → LB S.1 S.2.1 (itr nn f 0 (S.2.1 p))
theorem i_rng {b : Int32} {u v : Int64} {x z : Int} (h1 : u.toInt = x) (h2 : v.toInt = z) : (u ≤ ((b : Int32).toInt64) ∧ ((b : Int32).toInt64) ≤ v) ↔ (x ≤ b.toInt ∧ b.toInt ≤ z) := by
  rw [j_le, j_le, i_2j, h1, h2]
section
variable {d : Nat} {h : XH} {y : Nat → Nat} {S : XS} {K : XK} {E : XE}
theorem m_kind {a : Int32} (hd : 50 ≤ d) (hs : Sg h.1 y) (I : MI h S) (kk : KM h 1 (f_kind a S) K) : Ca d m_X7_kind [.ref 77, .int a] h K E := by
  obtain ⟨d, rfl⟩ : ∃ e, d = e + 1 := ⟨d - 1, by omega⟩
  obtain ⟨m, om, -, -, I3⟩ := id I
  refine w_X7_kind (by omega) hs ⟨fun z => ?_, fun z => ?_⟩
  · refine w_X7_kind_13 (by omega) hs (fun h1 e1 => ⟨fun _ => ⟨i_Ix (isp_p z).1 (isp_p z).2, ?_⟩, fun v => absurd rfl v⟩)
    obtain ⟨b1, b2, b3⟩ := I.st 0
    rw [← e1] at b1 b2 b3
    refine kk.a (out2_0 z trivial) b1 b2 b3 ⟨_, rfl, fun _ => ?_⟩
    rw [i_ix (isp_p z).1, e1, sI_nq _ _ (by omega), (I3 _ (isp_p z).2).1]
  · refine w_X7_kind_13 (by omega) hs (fun h1 e1 => ⟨fun v => absurd v n1_0, fun _ => ?_⟩)
    obtain ⟨b1, b2, b3⟩ := I.st 1
    rw [← e1] at b1 b2 b3
    exact kk.b (out2_1 z) (by decide) b1 b2 (by rw [b3]; rfl) ⟨_, rfl, fun w => w.elim⟩
theorem m_clear {a : Int32} (hd : 50 ≤ d) (hs : Sg h.1 y) (I : MI h S) (kk : KM h 1 (f_clear a S) K) : Ca d m_X7_clear [.ref 77, .int a] h K E := by
  obtain ⟨d, rfl⟩ : ∃ e, d = e + 1 := ⟨d - 1, by omega⟩
  obtain ⟨m, om, -, -, I3⟩ := id I
  refine w_X7_clear (by omega) hs ⟨fun z => ?_, fun z => ?_⟩
  · refine w_X7_clear_13 (by omega) hs (fun h1 e1 => ⟨fun _ => ⟨i_Ix (isp_p z).1 (isp_p z).2, ?_⟩, fun v => absurd rfl v⟩)
    obtain ⟨b1, b2, b3⟩ := I.st 0
    rw [← e1] at b1 b2 b3
    refine t_X7_lays (by omega) (b2.sg hs) (isp_p z).1 (isp_p z).2 (fun h2 e2 => ⟨rfl, ?_, ?_⟩)
    · rw [e2]; exact b2.sg hs
    obtain ⟨c1, c2⟩ := MI.no (c := 0) b1 (isp_p z).2 (Or.inl rfl) (sK S (pN a) 0) h1 rfl rfl (fun q _ => ⟨rfl, rfl⟩) (FM.rf _) rfl rfl (fun _ _ _ => rfl) rfl (fun q _ k _ => ⟨rfl, rfl⟩) (fun w => absurd w (by decide)) (fun w => absurd w (by decide))
    rw [← e2] at c1 c2
    refine kk.a (out2_0 z trivial) c1 (b2.tr c2) ?_ ⟨_, rfl, fun _ => ?_⟩
    · rw [e2, sI_nq _ _ (by omega), sI_nq _ _ (by omega)]; exact b3
    · rw [i_ix (isp_p z).1, e1, sI_nq _ _ (by omega), (I3 _ (isp_p z).2).1]
  · refine w_X7_clear_13 (by omega) hs (fun h1 e1 => ⟨fun v => absurd v n1_0, fun _ => ?_⟩)
    obtain ⟨b1, b2, b3⟩ := I.st 1
    rw [← e1] at b1 b2 b3
    exact kk.b (out2_1 z) (by decide) b1 b2 (by rw [b3]; rfl) ⟨_, rfl, fun w => w.elim⟩
theorem m_finite {a b : Int32} (hd : 50 ≤ d) (hs : Sg h.1 y) (I : MI h S) (L : LBS S) (kk : KM h 0 (f_finite a b S) K) : Ca d m_X7_finite [.ref 77, .int a, .int b] h K E := by
  obtain ⟨m, om, I1, I2, I3⟩ := id I
  refine t_X7_finite (p := pN a) (n := b.toInt.toNat) (by omega) hs I1 I2 (L.h I) isp_p (fun w => by omega) (fun z w => ⟨fun h2 m2 ov2 _ M2 P2 F2 => ?_, fun h2 m2 ov2 nt _ _ _ => absurd trivial nt⟩) (fun z => ?_) (fun z w => ?_)
  · obtain ⟨a1, a2, a3⟩ := I.la (isp_p z).2 M2 P2 F2
    exact kk.a (out2_0 z w) a1 a2 a3 rfl
  · obtain ⟨a1, a2, a3⟩ := I.st 1
    exact kk.b (out2_1 z) (by decide) a1 a2 (by rw [a3]; rfl) rfl
  · obtain ⟨a1, a2, a3⟩ := I.st 2
    exact kk.b (out2_2 z w) (by decide) a1 a2 (by rw [a3]; rfl) rfl
theorem m_omega {a b : Int32} (hd : 50 ≤ d) (hs : Sg h.1 y) (I : MI h S) (L : LBS S) (kk : KM h 0 (f_omega a b S) K) : Ca d m_X7_omega [.ref 77, .int a, .int b] h K E := by
  obtain ⟨m, om, I1, I2, I3⟩ := id I
  refine t_X7_omega (p := pN a) (q := pN b) (by omega) hs I1 I2 (L.h I) isp_p isp_p (fun z1 z2 w1 w2 => ⟨fun h2 m2 ov2 _ M2 P2 F2 => ?_, fun h2 m2 ov2 nt _ _ _ => absurd trivial nt⟩) (fun z => ?_) (fun z1 z2 w h2 m2 ov2 M2 P2 F2 => ?_)
  · obtain ⟨a1, a2, a3⟩ := I.la (isp_p z1).2 M2 P2 F2
    exact kk.a (out2_0 ⟨z1, z2⟩ ⟨by rw [← (I3 _ (isp_p z2).2).1]; exact w1, w2⟩) a1 a2 a3 rfl
  · obtain ⟨a1, a2, a3⟩ := I.st 1
    exact kk.b (out2_1 z) (by decide) a1 a2 (by rw [a3]; rfl) rfl
  · obtain ⟨a1, a2, a3⟩ := I.ds M2 P2 F2
    exact kk.b (out2_2 ⟨z1, z2⟩ (fun v => w ⟨by rw [(I3 _ (isp_p z2).2).1]; exact v.1, v.2⟩)) (by decide) a1 a2 (by rw [a3]; rfl) rfl
theorem m_exponent {a b c : Int32} (hd : 50 ≤ d) (hs : Sg h.1 y) (I : MI h S) (kk : KM h 0 (f_exponent a b c S) K) : Ca d m_X7_exponent [.ref 77, .int a, .int b, .int c] h K E := by
  obtain ⟨m, om, I1, I2, I3⟩ := id I
  refine t_X7_exponent (p := pN a) (q := pN b) (by omega) hs I1 I2 isp_p isp_p (fun k e n z1 z2 z3 w1 w2 => ⟨fun h2 m2 ov2 _ M2 P2 F2 => ?_, fun h2 m2 ov2 nt _ _ _ => absurd trivial nt⟩) (fun z => ?_) (fun z1 z2 z3 w => ?_)
  · obtain ⟨a1, a2, a3⟩ := I.la (isp_p z1).2 M2 P2 F2
    have hk : c.toInt.toNat = k := by omega
    have hl := (List.getElem?_eq_some_iff.mp w2).1
    have o := @out2_0 (isp a ∧ isp b ∧ 0 ≤ c.toInt) (S.1 (pN b) = 1 ∧ c.toInt < (pl (S.2.1 (pN b))).length) 0 S (sO S (pN a) ((pl (S.2.1 (pN b)))[c.toInt.toNat]?.getD (.leaf, 0)).1) ⟨z1, z2, by omega⟩ ⟨by rw [← (I3 _ (isp_p z2).2).1]; exact w1, by omega⟩
    rw [hk, w2] at o
    refine kk.a (Eq.trans ?_ o) a1 a2 a3 rfl
    unfold f_exponent
    rw [hk, w2]
  · obtain ⟨a1, a2, a3⟩ := I.st 1
    exact kk.b (out2_1 z) (by decide) a1 a2 (by rw [a3]; rfl) rfl
  · obtain ⟨a1, a2, a3⟩ := I.st 2
    exact kk.b (out2_2 ⟨z1, z2, z3⟩ (fun v => w ⟨by rw [(I3 _ (isp_p z2).2).1]; exact v.1, v.2⟩)) (by decide) a1 a2 (by rw [a3]; rfl) rfl
theorem m_step {a b c : Int32} (hd : 50 ≤ d) (hs : Sg h.1 y) (I : MI h S) (L : LBS S) (kk : KM h 0 (f_step a b c S) K) : Ca d m_X7_step [.ref 77, .int a, .int b, .int c] h K E := by
  obtain ⟨m, om, I1, I2, I3⟩ := id I
  refine t_X7_step (p := pN a) (q := pN b) (by omega) hs I1 I2 (L.h I) isp_p isp_p (fun nn z1 z2 z3 z4 z5 w1 w2 w3 => ⟨fun h2 m2 ov2 _ M2 P2 F2 => ?_, fun h2 m2 ov2 nt _ _ _ => absurd trivial nt⟩) (fun z => ?_) (fun z1 z2 z3 => ?_) (fun nn z1 z2 z3 z4 z5 w h2 m2 ov2 M2 P2 F2 => ?_)
  · obtain ⟨a1, a2, a3⟩ := I.la (isp_p z1).2 M2 P2 F2
    have e : nn = c.toInt.toNat := by omega
    subst e
    exact kk.a (out3_0 ⟨z1, z2⟩ ⟨by omega, by omega⟩ ⟨by rw [← (I3 _ (isp_p z2).2).1]; exact w1, w2, w3⟩) a1 a2 a3 rfl
  · obtain ⟨a1, a2, a3⟩ := I.st 1
    exact kk.b (out3_1 z) (by decide) a1 a2 (by rw [a3]; rfl) rfl
  · obtain ⟨a1, a2, a3⟩ := I.st 2
    exact kk.b (out3_2 ⟨z1, z2⟩ z3) (by decide) a1 a2 (by rw [a3]; rfl) rfl
  · obtain ⟨a1, a2, a3⟩ := I.ds M2 P2 F2
    have e : nn = c.toInt.toNat := by omega
    subst e
    exact kk.b (out3_3 ⟨z1, z2⟩ ⟨by omega, by omega⟩ (fun v => w ⟨by rw [(I3 _ (isp_p z2).2).1]; exact v.1, v.2⟩)) (by decide) a1 a2 (by rw [a3]; rfl) rfl
theorem m_natural {a b c e : Int32} (hd : 50 ≤ d) (hs : Sg h.1 y) (I : MI h S) (L : LBS S) (kk : KM h 0 (f_natural a b c e S) K) : Ca d m_X7_natural [.ref 77, .int a, .int b, .int c, .int e] h K E := by
  obtain ⟨d, rfl⟩ : ∃ e, d = e + 1 := ⟨d - 1, by omega⟩
  obtain ⟨m, om, I1, I2, I3⟩ := id I
  refine w_X7_natural (by omega) hs ⟨fun z => ?_, fun z => ?_⟩
  · obtain ⟨z1, z2, z3⟩ := id z
    have hbi : ¬ bi (isp a ∧ isp b ∧ isp c) = 0 := bi_ne.mpr z
    refine t_X7_setsNatural (p := pN a) (q := pN b) (r := pN c) (by omega) hs I1 I2 (L.h I) (isp_p z1).1 (isp_p z1).2 (isp_p z2).1 (isp_p z2).2 (isp_p z3).1 (isp_p z3).2 ⟨fun h2 m2 ov2 ok M2 P2 F2 => ⟨1, rfl, ?_, fun v => absurd v n1_0, fun _ => ?_⟩, fun h2 m2 ov2 nok M2 P2 F2 => ⟨0, rfl, F2.sg hs, fun _ => ?_, fun v => absurd rfl v⟩⟩
    · rw [F2.1]; exact hs
    · refine w_X7_natural_30 (by omega) (by rw [F2.1]; exact hs) ⟨fun _ => ⟨fun _ h3 e3 => ?_, fun v => absurd n1_0 v⟩, fun v => absurd hbi v⟩
      obtain ⟨a1, a2, a3⟩ := I.la (h2 := x_setI h2 77 0 0) (isp_p z1).2 (M2.st 0) (P2.st 0) (F2.st 0)
      rw [← e3] at a1 a2 a3
      exact kk.a (out2_0 z ⟨by rw [← (I3 _ (isp_p z2).2).1]; exact ok.1, by rw [← (I3 _ (isp_p z3).2).1]; exact ok.2.1, ok.2.2⟩) a1 a2 a3 rfl
    · refine w_X7_natural_29 (by omega) (F2.sg hs) (w_X7_natural_30 (by omega) (F2.sg hs) ⟨fun _ => ⟨fun v => absurd rfl v, fun _ h3 e3 => ?_⟩, fun v => absurd hbi v⟩)
      obtain ⟨a1, a2, a3⟩ := I.ds (h2 := x_setI h2 77 0 2) (M2.st 2) (P2.st 2) (F2.st 2)
      rw [← e3] at a1 a2 a3
      exact kk.b (out2_2 z (fun v => nok ⟨by rw [(I3 _ (isp_p z2).2).1]; exact v.1, by rw [(I3 _ (isp_p z3).2).1]; exact v.2.1, v.2.2⟩)) (by decide) a1 a2 (by rw [a3]; rfl) rfl
  · refine w_X7_natural_29 (by omega) hs (w_X7_natural_30 (by omega) hs ⟨fun v => absurd (bi_f z) v, fun _ h3 e3 => ?_⟩)
    obtain ⟨a1, a2, a3⟩ := I.st 1
    rw [← e3] at a1 a2 a3
    exact kk.b (out2_1 z) (by decide) a1 a2 (by rw [a3]; rfl) rfl
theorem m_descent {a b c : Int32} (hd : 50 ≤ d) (hs : Sg h.1 y) (I : MI h S) (L : LBD S) (kk : KM h 1 (f_descent a b c S) K) : Ca d m_X7_descent [.ref 77, .int a, .int b, .int c] h K E := by
  obtain ⟨d, rfl⟩ : ∃ e, d = e + 1 := ⟨d - 1, by omega⟩
  obtain ⟨m, om, I1, I2, I3⟩ := id I
  have rb : (1 ≤ ((b : Int32).toInt64) ∧ ((b : Int32).toInt64) ≤ 99) ↔ (1 ≤ b.toInt ∧ b.toInt ≤ 99) := i_rng rfl rfl
  have rc : (0 ≤ ((c : Int32).toInt64) ∧ ((c : Int32).toInt64) ≤ 2000) ↔ (0 ≤ c.toInt ∧ c.toInt ≤ 2000) := i_rng rfl rfl
  -- another status told
  have bad : ∀ (st : Nat) (s0 : Int32) (u1 u2 u3 u4 u5 : Option Value) (h1 : XH), s0.toInt = st → ¬ s0 = 0 → ¬ st = 0 → f_descent a b c S = (st, 0, S) → (∃ m2 ov2, Mo h1 m2 ov2 ∧ Pl h1 m2 ov2 S.2.1 ∧ Fds h h1) → b_X7_descent_80 d 77 u1 u2 u3 u4 u5 s0 77 h1 K E := by
    intro st s0 u1 u2 u3 u4 u5 h1 e0 n0 nst eo ⟨m2, ov2, M2, P2, F2⟩
    refine w_X7_descent_80 (by omega) (F2.sg hs) (fun h3 e3 => ⟨fun v => absurd v n0, fun _ => ?_⟩)
    obtain ⟨a1, a2, a3⟩ := I.ds (h2 := x_setI h1 77 0 s0) (M2.st s0) (P2.st s0) (F2.st s0)
    rw [← e3] at a1 a2 a3
    exact kk.b eo nst a1 a2 (by rw [a3]; exact e0) ⟨_, rfl, fun w => w.elim⟩
  have g0 : ∃ m2 ov2, Mo h m2 ov2 ∧ Pl h m2 ov2 S.2.1 ∧ Fds h h := ⟨m, om, I1, I2, Fds.rf _⟩
  have no1 : ∀ s0, ¬ isp a → b_X7_descent_35 d 77 a b c (bi (isp a)) none s0 h K E := fun s0 z => w_X7_descent_35 (by omega) hs ⟨fun v => absurd (bi_f z) v, fun _ => bad 1 1 _ _ _ _ _ h rfl n1_0 (by decide) (out3_1 z) g0⟩
  have no2 : isp a → ¬ ((1 ≤ b.toInt ∧ b.toInt ≤ 99) ∧ 0 ≤ c.toInt ∧ c.toInt ≤ 2000) → b_X7_descent_34 d 77 a b c (bi (isp a)) none h K E := fun z w => w_X7_descent_34 (by omega) hs (w_X7_descent_35 (by omega) hs ⟨fun _ => ⟨fun v => absurd rfl v, fun _ => bad 2 2 _ _ _ _ _ h rfl (by decide) (by decide) (out3_2 z w) g0⟩, fun v => absurd (bi_ne.mpr z) v⟩)
  have no12 : ¬ ((1 ≤ b.toInt ∧ b.toInt ≤ 99) ∧ 0 ≤ c.toInt ∧ c.toInt ≤ 2000) → b_X7_descent_34 d 77 a b c (bi (isp a)) none h K E := fun w => by
    by_cases z : isp a
    · exact no2 z w
    · exact w_X7_descent_34 (by omega) hs (no1 0 z)
  refine w_X7_descent (by omega) hs ⟨fun w1 => ⟨fun w2 => ?_, fun w2 => no12 (fun v => w2 (rc.mpr v.2))⟩, fun w1 => no12 (fun v => w1 (rb.mpr v.1))⟩
  rw [rb] at w1
  rw [rc] at w2
  by_cases z : isp a
  · have no3 : ∀ (u1 u2 u3 u4 u5 : Option Value) (h1 : XH), ¬ (S.1 (pN a) = 1 ∧ ¬ dsF b.toInt.toNat c.toInt.toNat 0 (S.2.1 (pN a)) = none) → (∃ m2 ov2, Mo h1 m2 ov2 ∧ Pl h1 m2 ov2 S.2.1 ∧ Fds h h1) → b_X7_descent_75 d 77 u1 u2 u3 u4 u5 77 h1 K E := by
      intro u1 u2 u3 u4 u5 h1 w g
      have hs1 : Sg h1.1 y := by
        obtain ⟨_, _, _, _, F⟩ := g
        exact F.sg hs
      exact w_X7_descent_75 (by omega) hs1 (bad 3 3 _ _ _ _ _ h1 rfl (by decide) (by decide) (out3_3 z ⟨w1, w2⟩ w) g)
    obtain ⟨z1, z2⟩ := isp_p z
    have hR := dsF_R b.toInt.toNat c.toInt.toNat 0 (S.2.1 (pN a))
    refine w_X7_descent_35 (by omega) hs ⟨fun _ => ⟨fun _ => t_X7_isKind (by omega) hs z1 z2 (fun hk => ⟨1, rfl, hs, fun v => absurd v n1_0, fun _ => ?_⟩) (fun hk => ⟨0, rfl, hs, fun _ => no3 _ _ _ _ _ h (fun v => hk (by rw [(I3 _ z2).1]; exact v.1)) g0, fun v => absurd rfl v⟩), fun v => absurd n1_0 v⟩, fun v => absurd (bi_ne.mpr z) v⟩
    have hk2 := hk
    rw [(I3 _ z2).1] at hk2
    have hkd : ∀ p, p < 16 → h.2.1 78 p = S.1 p := fun p hp => (I3 p hp).1
    refine t_X7_descends (p0 := pN a) (nn := b.toInt.toNat) (most := c.toInt.toNat) (by omega) hs I1 I2 z1 z2 hk (by omega) (by omega) (by omega) (by omega) (by omega) hR (fun f hf hg m2 ov2 q1 q2 => ?_) (fun h2 m2 ov2 r M2 P2 F2 r0 r1 => ⟨r, rfl, F2.sg hs, fun v => ?_, fun v => ?_⟩)
    · refine L (pN a) b.toInt.toNat f z2 hk2 (by omega) (by omega) (by omega) hg m2 ov2 q1 (fun i hi => ?_)
      rcases q2 i hi with q | q | q | ⟨p, hp, hkp, q⟩
      · exact Or.inl q
      · exact Or.inr (Or.inl q)
      · exact Or.inr (Or.inr (Or.inl q))
      · exact Or.inr (Or.inr (Or.inr ⟨p, hp, by rw [← hkd p hp]; exact hkp, q⟩))
    · refine w_X7_descent_80 (by omega) (F2.sg hs) (fun h3 e3 => ⟨fun _ => ?_, fun v2 => absurd rfl v2⟩)
      obtain ⟨a1, a2, a3⟩ := I.ds (h2 := x_setI h2 77 0 0) (M2.st 0) (P2.st 0) (F2.st 0)
      rw [← e3] at a1 a2 a3
      have e27 : h3.2.1 77 27 = h2.2.1 77 27 := by rw [e3]; exact sI_ne _ _ (by omega)
      cases hd9 : dsF b.toInt.toNat c.toInt.toNat 0 (S.2.1 (pN a)) with
      | none => exact absurd (r0 hd9) v
      | some xs =>
        obtain ⟨x, s⟩ := xs
        obtain ⟨-, q1, q2⟩ := r1 x s hd9
        have eo : f_descent a b c S = (0, dsV (some (x, s)), S) := by
          unfold f_descent
          rw [hd9]
          exact out3_0 z ⟨w1, w2⟩ ⟨hk2, fun w => by cases w⟩
        refine kk.a eo a1 a2 a3 ⟨_, rfl, fun _ => ?_⟩
        rw [e27]
        by_cases xl : x = .leaf
        · rw [q1 xl]; exact (ouif_t xl).symm
        · rw [q2 xl]; exact (ouif_f xl).symm
    · refine no3 _ _ _ _ _ h2 (fun w => v ?_) ⟨m2, ov2, M2, P2, F2⟩
      cases hd9 : dsF b.toInt.toNat c.toInt.toNat 0 (S.2.1 (pN a)) with
      | none => exact absurd hd9 w.2
      | some xs =>
        obtain ⟨x, s⟩ := xs
        rw [(r1 x s hd9).1]
        exact n1_0
  · exact no1 1 z
end
