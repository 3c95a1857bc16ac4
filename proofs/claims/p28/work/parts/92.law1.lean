/-! ===== layer 4: the law's state and what it asks ===== -/
theorem Ca.ty2 {d j : Nat} {as : List Value} {h : XH} {K : XK} {E : XE} (H : Ca d j as h (fun v h2 => x_ty h h2 → K v h2) E) : Ca d j as h K E := by
  obtain ⟨o, h2, F, p, e⟩ := H
  refine ⟨o, h2, F, ?_, e⟩
  have t := xrun_ty F d j as h o h2 e
  cases o with
  | inl v => exact p t
  | inr x => exact p
theorem Ty_le {h : XH} {y : Nat → Nat} {c : Nat} {S : XS} (I : CI h y c S) : Ty y ≤ 589832 := by
  obtain ⟨ov, I1, -⟩ := I
  have := I1.2.2.1.2.2.2.2
  unfold Yl at this
  unfold Ty
  omega
/-- the law's state: the script lies there, the places hold S; at most C ordinals, X exceptions so far -/
def LJ (L : Nat) (xs : Nat → Int32) (C X : Nat) (h : XH) (S : XS) : Prop := ∃ (y : Nat → Nat) (c : Nat), Sg h.1 y ∧ h.1[0]? = some (5, L, []) ∧ h.2.1 0 = xs ∧ CI h y c S ∧ VA S ∧ c ≤ C ∧ h.1.length ≤ 77 + Ty y + X ∧ h.2.2.2 ≤ 42681 + 2 * Ty y + 6 * X
theorem isp_of {a : Int32} (h : 0 ≤ a.toInt ∧ a.toInt ≤ 15) : isp a := (i_rng (x := 0) (z := 15) rfl rfl).mpr h
theorem i_eq {r s : Int32} {v : Int} (h : r.toInt = v) (h2 : s.toInt = v) : r = s := Int32.toInt_inj.mp (h.trans h2.symm)
/-- one of the law's nine places -/
def is9 (a : Int32) : Prop := 0 ≤ a.toInt ∧ a.toInt < 9
theorem is9.p {a : Int32} (h : is9 a) : isp a := isp_of ⟨h.1, by have := h.2; omega⟩
theorem is9.n {a : Int32} (h : is9 a) : a.toInt = pN a ∧ pN a < 9 := by
  obtain ⟨h1, h2⟩ := h
  unfold pN
  omega
theorem is9.i {a b : Int32} (h : is9 a) (g : is9 b) (e : pN a = pN b) : a = b := i_eq (h.n.1.trans (by rw [e])) g.n.1
section
variable {d L C X C2 X2 : Nat} {xs : Nat → Int32} {h : XH} {S : XS} {E : XE}
theorem LJ.sg (J : LJ L xs C X h S) : ∃ y, Sg h.1 y := by
  obtain ⟨y, c, hs, -⟩ := J
  exact ⟨y, hs⟩
theorem LJ.le (J : LJ L xs C X h S) (hC : C ≤ C2) (hX : X ≤ X2) : LJ L xs C2 X2 h S := by
  obtain ⟨y, c, hs, hT, hx, I, V, hc, z1, z2⟩ := J
  exact ⟨y, c, hs, hT, hx, I, V, by omega, by omega, by omega⟩
theorem LJ.va (J : LJ L xs C X h S) : VA S := by
  obtain ⟨y, c, hs, hT, hx, I, V, hc, z1, z2⟩ := J
  exact V
theorem LJ.gd (J : LJ L xs C X h S) {p : Nat} (hp : p < 16) (hk : S.1 p = 1) : gd (S.2.1 p) := by
  obtain ⟨y, c, hs, hT, hx, ⟨ov, I1, I2⟩, V, hc, z1, z2⟩ := J
  obtain ⟨j, j1, -, j3⟩ := (I2 p hp).2.1 hk
  rw [← j3]
  exact I1.good j1
theorem LJ.fin (J : LJ L xs C X h S) (hX : X ≤ 10000) : h.1.length ≤ 600075 ∧ h.2.2.2 ≤ 7301550 := by
  obtain ⟨y, c, hs, hT, hx, I, V, hc, z1, z2⟩ := J
  have := Ty_le I
  omega
theorem LJ.ask {j M : Nat} {as : List Value} {ec : Nat → Nat} {o : XC} {P : Int32 → XH → Prop} (J : LJ L xs C X h S) (hC : C + 10020 < 16384) (V2 : VA o.2.2) (H : ∀ (y : Nat → Nat) (c : Nat) (K : XK), Sg h.1 y → CI h y c S → c + 10020 < 16384 → KA M ec c h y o K → Ca d j as h K E) (k : ∀ (r : Int32) (h2 : XH), LJ L xs (C + M) (X + 1) h2 o.2.2 → r.toInt = av ec o → P r h2) : Ca d j as h (fun rv h1 => ∃ x2, rv = some (.int x2) ∧ ∃ y3 : Nat → Nat, Sg h1.1 y3 ∧ P x2 h1) E := by
  obtain ⟨y, c, hs, hT, hx, I, V, hc, z1, z2⟩ := J
  refine Ca.ty2 (H y c _ hs I (by omega) (fun r h2 y2 c2 g1 g2 I2 F2 hr => fun t2 => ?_))
  have f1 := F2.2.2.1
  have f2 := F2.2.2.2
  exact ⟨r, rfl, y2, F2.1, k r h2 ⟨y2, c2, F2.1, t2 0 L hT, (F2.2.1 0 (Or.inl rfl) (by omega)).1.trans hx, I2, V2, by omega, by omega, by omega⟩ hr⟩
theorem LJ.q1 {j : Nat} {as : List Value} {ec : Nat → Nat} {o : XC} {v : Int} {P : Int32 → XH → Prop} (J : LJ L xs C X h S) (e : o = (0, v, S)) (H : ∀ (y : Nat → Nat) (c : Nat) (K : XK), Sg h.1 y → CI h y c S → KC 0 1 ec c h y o K E → Ca d j as h K E) (k : ∀ (r : Int32) (h2 : XH), LJ L xs C X h2 S → r.toInt = v → P r h2) : Ca d j as h (fun rv h1 => ∃ x2, rv = some (.int x2) ∧ ∃ y3 : Nat → Nat, Sg h1.1 y3 ∧ P x2 h1) E := by
  obtain ⟨y, c, hs, hT, hx, I, V, hc, z1, z2⟩ := J
  refine Ca.ty2 (H y c _ hs I ⟨fun h0 rv h2 y2 c2 g1 g2 I2 F2 hr => fun t2 => ?_, fun hn => absurd (by rw [e]) hn⟩)
  rw [e] at I2 hr
  obtain ⟨r, rfl, hr⟩ := hr
  have f1 := F2.2.2.1
  have f2 := F2.2.2.2
  exact ⟨r, rfl, y2, F2.1, k r h2 ⟨y2, c2, F2.1, t2 0 L hT, (F2.2.1 0 (Or.inl rfl) (by omega)).1.trans hx, I2, V, by omega, by omega, by omega⟩ (hr trivial)⟩
theorem LJ.q2 {j : Nat} {as : List Value} {ec : Nat → Nat} {o : XC} {v : Int} {P : Int64 → XH → Prop} (J : LJ L xs C X h S) (e : o = (0, v, S)) (H : ∀ (y : Nat → Nat) (c : Nat) (K : XK), Sg h.1 y → CI h y c S → KC 0 2 ec c h y o K E → Ca d j as h K E) (k : ∀ (r : Int64) (h2 : XH), LJ L xs C X h2 S → r.toInt = v → P r h2) : Ca d j as h (fun rv h1 => ∃ x2, rv = some (.long x2) ∧ ∃ y3 : Nat → Nat, Sg h1.1 y3 ∧ P x2 h1) E := by
  obtain ⟨y, c, hs, hT, hx, I, V, hc, z1, z2⟩ := J
  refine Ca.ty2 (H y c _ hs I ⟨fun h0 rv h2 y2 c2 g1 g2 I2 F2 hr => fun t2 => ?_, fun hn => absurd (by rw [e]) hn⟩)
  rw [e] at I2 hr
  obtain ⟨r, rfl, hr⟩ := hr
  have f1 := F2.2.2.1
  have f2 := F2.2.2.2
  exact ⟨r, rfl, y2, F2.1, k r h2 ⟨y2, c2, F2.1, t2 0 L hT, (F2.2.1 0 (Or.inl rfl) (by omega)).1.trans hx, I2, V, by omega, by omega, by omega⟩ (hr trivial)⟩
/-! what is looked at -/
variable {P : Int32 → XH → Prop} {P2 : Int64 → XH → Prop} {a b e : Int32}
theorem q_kind (hd : 70 ≤ d) (J : LJ L xs C X h S) (ha : isp a) (k : ∀ h2, LJ L xs C X h2 S → P (S.1 (pN a)) h2) : Ca d m_X6_kind [.ref 1, .int a] h (fun rv h1 => ∃ x2, rv = some (.int x2) ∧ ∃ y3 : Nat → Nat, Sg h1.1 y3 ∧ P x2 h1) E :=
  J.q1 (o := f_kind a S) (ec := ecI) (out2_0 ha trivial) (fun y c K hs I kk => c_kind (by omega) hs I kk) (fun r h2 J2 hr => by
    rw [i_eq hr rfl]
    exact k h2 J2)
theorem q_powers (hd : 70 ≤ d) (J : LJ L xs C X h S) (ha : isp a) (hk : S.1 (pN a) = 1) (k : ∀ (r : Int32) (h2 : XH), LJ L xs C X h2 S → r.toInt = ((pl (S.2.1 (pN a))).length : Nat) → P r h2) : Ca d m_X6_powers [.ref 1, .int a] h (fun rv h1 => ∃ x2, rv = some (.int x2) ∧ ∃ y3 : Nat → Nat, Sg h1.1 y3 ∧ P x2 h1) E :=
  J.q1 (o := f_powers a S) (ec := ecS) (out2_0 ha hk) (fun y c K hs I kk => c_powers (by omega) hs I kk) k
theorem q_times (hd : 70 ≤ d) (J : LJ L xs C X h S) (ha : isp a) (hk : S.1 (pN a) = 1) {m n : Nat} {x : O} (hb : b.toInt = m) (hm : (pl (S.2.1 (pN a)))[m]? = some (x, n)) (k : ∀ (r : Int64) (h2 : XH), LJ L xs C X h2 S → r.toInt = (n : Nat) → P2 r h2) : Ca d m_X6_times [.ref 1, .int a, .int b] h (fun rv h1 => ∃ x2, rv = some (.long x2) ∧ ∃ y3 : Nat → Nat, Sg h1.1 y3 ∧ P2 x2 h1) E := by
  have hl := (List.getElem?_eq_some_iff.mp hm).1
  refine J.q2 (o := f_times a b S) (ec := ecS) (out2_0 ⟨ha, by omega⟩ ⟨hk, by omega⟩) (fun y c K hs I kk => c_times (by omega) hs I kk) (fun r h2 J2 hr => k r h2 J2 ?_)
  rw [hr, show b.toInt.toNat = m by omega, hm]
  rfl
theorem q_parts (hd : 70 ≤ d) (J : LJ L xs C X h S) (ha : isp a) (hk : S.1 (pN a) = 2) (k : ∀ (r : Int64) (h2 : XH), LJ L xs C X h2 S → r.toInt = S.2.2.1 (pN a) → P2 r h2) : Ca d m_X6_parts [.ref 1, .int a] h (fun rv h1 => ∃ x2, rv = some (.long x2) ∧ ∃ y3 : Nat → Nat, Sg h1.1 y3 ∧ P2 x2 h1) E :=
  J.q2 (o := f_parts a S) (ec := ecS) (out2_0 ha hk) (fun y c K hs I kk => c_parts (by omega) hs I kk) k
theorem q_birthday (hd : 70 ≤ d) (J : LJ L xs C X h S) (ha : isp a) (hk : S.1 (pN a) = 2) (k : ∀ (r : Int32) (h2 : XH), LJ L xs C X h2 S → r.toInt = ((tw 300 (S.2.2.1 (pN a)) (wA 0)).2.2.2 : Nat) → P r h2) : Ca d m_X6_birthday [.ref 1, .int a] h (fun rv h1 => ∃ x2, rv = some (.int x2) ∧ ∃ y3 : Nat → Nat, Sg h1.1 y3 ∧ P x2 h1) E :=
  J.q1 (o := f_birthday a S) (ec := ecS) (out2_0 ha hk) (fun y c K hs I kk => c_birthday (by omega) hs I J.va.1 kk) k
theorem q_signOf (hd : 70 ≤ d) (J : LJ L xs C X h S) (ha : isp a) (hk : S.1 (pN a) = 2) {m : Nat} (hb : b.toInt = m) (k : ∀ (r : Int32) (h2 : XH), LJ L xs C X h2 S → r.toInt = csg (S.2.2.1 (pN a)) (tw (min m 300) (S.2.2.1 (pN a)) (wA 0)).1 → P r h2) : Ca d m_X6_signOf [.ref 1, .int a, .int b] h (fun rv h1 => ∃ x2, rv = some (.int x2) ∧ ∃ y3 : Nat → Nat, Sg h1.1 y3 ∧ P x2 h1) E := by
  refine J.q1 (o := f_signOf a b S) (ec := ecS) (out2_0 ⟨ha, by omega⟩ hk) (fun y c K hs I kk => c_signOf (by omega) hs I J.va.1 kk) (fun r h2 J2 hr => k r h2 J2 ?_)
  rw [hr, show b.toInt.toNat = m by omega]
theorem q_terms (hd : 70 ≤ d) (J : LJ L xs C X h S) (ha : isp a) (hk : S.1 (pN a) = 3) (k : ∀ (r : Int32) (h2 : XH), LJ L xs C X h2 S → r.toInt = ((S.2.2.2 (pN a)).length : Nat) → P r h2) : Ca d m_X6_terms [.ref 1, .int a] h (fun rv h1 => ∃ x2, rv = some (.int x2) ∧ ∃ y3 : Nat → Nat, Sg h1.1 y3 ∧ P x2 h1) E :=
  J.q1 (o := f_terms a S) (ec := ecS) (out2_0 ha hk) (fun y c K hs I kk => c_terms (by omega) hs I kk) k
theorem q_tends (hd : 70 ≤ d) (J : LJ L xs C X h S) (ha : isp a) (hk : S.1 (pN a) = 3) (k : ∀ (r : Int32) (h2 : XH), LJ L xs C X h2 S → r.toInt = gtn (S.2.2.2 (pN a)) → P r h2) : Ca d m_X6_tends [.ref 1, .int a] h (fun rv h1 => ∃ x2, rv = some (.int x2) ∧ ∃ y3 : Nat → Nat, Sg h1.1 y3 ∧ P x2 h1) E :=
  J.q1 (o := f_tends a S) (ec := ecS) (out2_0 ha hk) (fun y c K hs I kk => c_tends (by omega) hs I J.va.2.1 kk) k
theorem q_part (hd : 70 ≤ d) (J : LJ L xs C X h S) (ha : isp a) (hk : S.1 (pN a) = 3) {m i : Nat} {g : GE} {n : Int} (hb : b.toInt = m) (hm : (S.2.2.2 (pN a))[m]? = some (g, n)) (he : e.toInt = i) (hi : i ≤ 4) (k : ∀ (r : Int64) (h2 : XH), LJ L xs C X h2 S → r.toInt = (if i = 0 then n else gex i g) → P2 r h2) : Ca d m_X6_part [.ref 1, .int a, .int b, .int e] h (fun rv h1 => ∃ x2, rv = some (.long x2) ∧ ∃ y3 : Nat → Nat, Sg h1.1 y3 ∧ P2 x2 h1) E := by
  have hl := (List.getElem?_eq_some_iff.mp hm).1
  refine J.q2 (o := f_part a b e S) (ec := ecI) (out3_0 ⟨ha, by omega⟩ ⟨by omega, by omega⟩ ⟨hk, by omega⟩) (fun y c K hs I kk => c_part (by omega) hs I J.va.2.1 kk) (fun r h2 J2 hr => k r h2 J2 ?_)
  rw [hr, show b.toInt.toNat = m by omega, hm, show e.toInt.toNat = i by omega]
  by_cases z : i = 0
  · rw [if_pos z, if_pos (by omega)]; rfl
  · rw [if_neg z, if_neg (by omega)]; rfl
/-! what is asked -/
theorem q_fin (hd : 70 ≤ d) (J : LJ L xs C X h S) (hC : C + 10020 < 16384) (k : ∀ (r : Int32) (h2 : XH), LJ L xs (C + 9) (X + 1) h2 (f_finite a b S).2.2 → r.toInt = av ecI (f_finite a b S) → P r h2) : Ca d m_L_ask [.ref 1, .int 0, .int a, .int b, .int e] h (fun rv h1 => ∃ x2, rv = some (.int x2) ∧ ∃ y3 : Nat → Nat, Sg h1.1 y3 ∧ P x2 h1) E :=
  J.ask hC (chg_VA J.va (chg_of J.va ⟨2, a, b, 0, 0, 0, 0, by decide, rfl⟩)) (fun y c K hs I hc kk => as_0 (by omega) hs I J.va hc kk) k
theorem q_num (hd : 70 ≤ d) (J : LJ L xs C X h S) (hC : C + 10020 < 16384) (k : ∀ (r : Int32) (h2 : XH), LJ L xs (C + 0) (X + 1) h2 (f_number a b e S).2.2 → r.toInt = av ecI (f_number a b e S) → P r h2) : Ca d m_L_ask [.ref 1, .int 1, .int a, .int b, .int e] h (fun rv h1 => ∃ x2, rv = some (.int x2) ∧ ∃ y3 : Nat → Nat, Sg h1.1 y3 ∧ P x2 h1) E :=
  J.ask hC (chg_VA J.va (chg_of J.va ⟨4, a, b, e, 0, 0, 0, by decide, rfl⟩)) (fun y c K hs I hc kk => as_1 (by omega) hs I J.va hc kk) k
theorem q_trm {e2 f g : Int32} (hd : 70 ≤ d) (J : LJ L xs C X h S) (hC : C + 10020 < 16384) (k : ∀ (r : Int32) (h2 : XH), LJ L xs (C + 0) (X + 1) h2 (f_term a b e e2 f g S).2.2 → r.toInt = av ecI (f_term a b e e2 f g S) → P r h2) : Ca d m_L_term [.ref 1, .int a, .int b, .int e, .int e2, .int f, .int g] h (fun rv h1 => ∃ x2, rv = some (.int x2) ∧ ∃ y3 : Nat → Nat, Sg h1.1 y3 ∧ P x2 h1) E :=
  J.ask hC (chg_VA J.va (chg_of J.va ⟨6, a, b, e, e2, f, g, by decide, rfl⟩)) (fun y c K hs I hc kk => as_term (by omega) hs I kk) k
theorem q_ome (hd : 70 ≤ d) (J : LJ L xs C X h S) (hC : C + 10020 < 16384) (k : ∀ (r : Int32) (h2 : XH), LJ L xs (C + 9) (X + 1) h2 (f_omega a b S).2.2 → r.toInt = av ecS (f_omega a b S) → P r h2) : Ca d m_L_ask [.ref 1, .int 3, .int a, .int b, .int e] h (fun rv h1 => ∃ x2, rv = some (.int x2) ∧ ∃ y3 : Nat → Nat, Sg h1.1 y3 ∧ P x2 h1) E :=
  J.ask hC (chg_VA J.va (chg_of J.va ⟨3, a, b, 0, 0, 0, 0, by decide, rfl⟩)) (fun y c K hs I hc kk => as_3 (by omega) hs I J.va hc kk) k
theorem q_nat0 (hd : 70 ≤ d) (J : LJ L xs C X h S) (hC : C + 10020 < 16384) (k : ∀ (r : Int32) (h2 : XH), LJ L xs (C + 9) (X + 1) h2 (f_natural a b e 0 S).2.2 → r.toInt = av ecS (f_natural a b e 0 S) → P r h2) : Ca d m_L_ask [.ref 1, .int 4, .int a, .int b, .int e] h (fun rv h1 => ∃ x2, rv = some (.int x2) ∧ ∃ y3 : Nat → Nat, Sg h1.1 y3 ∧ P x2 h1) E :=
  J.ask hC (chg_VA J.va (chg_of J.va ⟨10, a, b, e, 0, 0, 0, by decide, rfl⟩)) (fun y c K hs I hc kk => as_4 (by omega) hs I J.va hc kk) k
theorem q_nat1 (hd : 70 ≤ d) (J : LJ L xs C X h S) (hC : C + 10020 < 16384) (k : ∀ (r : Int32) (h2 : XH), LJ L xs (C + 9) (X + 1) h2 (f_natural a b e 1 S).2.2 → r.toInt = av ecS (f_natural a b e 1 S) → P r h2) : Ca d m_L_ask [.ref 1, .int 5, .int a, .int b, .int e] h (fun rv h1 => ∃ x2, rv = some (.int x2) ∧ ∃ y3 : Nat → Nat, Sg h1.1 y3 ∧ P x2 h1) E :=
  J.ask hC (chg_VA J.va (chg_of J.va ⟨10, a, b, e, 1, 0, 0, by decide, rfl⟩)) (fun y c K hs I hc kk => as_5 (by omega) hs I J.va hc kk) k
theorem q_der (hd : 70 ≤ d) (J : LJ L xs C X h S) (hC : C + 10020 < 16384) (k : ∀ (r : Int32) (h2 : XH), LJ L xs (C + 0) (X + 1) h2 (f_derive a b S).2.2 → r.toInt = av ecS (f_derive a b S) → P r h2) : Ca d m_L_ask [.ref 1, .int 6, .int a, .int b, .int e] h (fun rv h1 => ∃ x2, rv = some (.int x2) ∧ ∃ y3 : Nat → Nat, Sg h1.1 y3 ∧ P x2 h1) E :=
  J.ask hC (chg_VA J.va (chg_of J.va ⟨11, a, b, 0, 0, 0, 0, by decide, rfl⟩)) (fun y c K hs I hc kk => as_6 (by omega) hs I J.va hc kk) k
theorem q_stp (hd : 70 ≤ d) (J : LJ L xs C X h S) (hC : C + 10020 < 16384) (k : ∀ (r : Int32) (h2 : XH), LJ L xs (C + 5) (X + 1) h2 (f_step a b e S).2.2 → r.toInt = av ecI (f_step a b e S) → P r h2) : Ca d m_L_ask [.ref 1, .int 7, .int a, .int b, .int e] h (fun rv h1 => ∃ x2, rv = some (.int x2) ∧ ∃ y3 : Nat → Nat, Sg h1.1 y3 ∧ P x2 h1) E :=
  J.ask hC (chg_VA J.va (chg_of J.va ⟨13, a, b, e, 0, 0, 0, by decide, rfl⟩)) (fun y c K hs I hc kk => as_7 (by omega) hs I J.va hc kk) k
theorem q_exp (hd : 70 ≤ d) (J : LJ L xs C X h S) (hC : C + 10020 < 16384) (k : ∀ (r : Int32) (h2 : XH), LJ L xs (C + 0) (X + 1) h2 (f_exponent a b e S).2.2 → r.toInt = av ecS (f_exponent a b e S) → P r h2) : Ca d m_L_ask [.ref 1, .int 8, .int a, .int b, .int e] h (fun rv h1 => ∃ x2, rv = some (.int x2) ∧ ∃ y3 : Nat → Nat, Sg h1.1 y3 ∧ P x2 h1) E :=
  J.ask hC (chg_VA J.va (chg_of J.va ⟨17, a, b, e, 0, 0, 0, by decide, rfl⟩)) (fun y c K hs I hc kk => as_8 (by omega) hs I J.va hc kk) k
theorem q_sum (hd : 70 ≤ d) (J : LJ L xs C X h S) (hC : C + 10020 < 16384) (k : ∀ (r : Int32) (h2 : XH), LJ L xs (C + 9) (X + 1) h2 (f_sum a b e S).2.2 → r.toInt = av ecS (f_sum a b e S) → P r h2) : Ca d m_L_ask [.ref 1, .int 9, .int a, .int b, .int e] h (fun rv h1 => ∃ x2, rv = some (.int x2) ∧ ∃ y3 : Nat → Nat, Sg h1.1 y3 ∧ P x2 h1) E :=
  J.ask hC (chg_VA J.va (chg_of J.va ⟨7, a, b, e, 0, 0, 0, by decide, rfl⟩)) (fun y c K hs I hc kk => as_9 (by omega) hs I J.va hc kk) k
theorem q_pro (hd : 70 ≤ d) (J : LJ L xs C X h S) (hC : C + 10020 < 16384) (k : ∀ (r : Int32) (h2 : XH), LJ L xs (C + 9) (X + 1) h2 (f_product a b e S).2.2 → r.toInt = av ecS (f_product a b e S) → P r h2) : Ca d m_L_ask [.ref 1, .int 10, .int a, .int b, .int e] h (fun rv h1 => ∃ x2, rv = some (.int x2) ∧ ∃ y3 : Nat → Nat, Sg h1.1 y3 ∧ P x2 h1) E :=
  J.ask hC (chg_VA J.va (chg_of J.va ⟨8, a, b, e, 0, 0, 0, by decide, rfl⟩)) (fun y c K hs I hc kk => as_10 (by omega) hs I J.va hc kk) k
theorem q_dif (hd : 70 ≤ d) (J : LJ L xs C X h S) (hC : C + 10020 < 16384) (k : ∀ (r : Int32) (h2 : XH), LJ L xs (C + 9) (X + 1) h2 (f_difference a b e S).2.2 → r.toInt = av ecS (f_difference a b e S) → P r h2) : Ca d m_L_ask [.ref 1, .int 11, .int a, .int b, .int e] h (fun rv h1 => ∃ x2, rv = some (.int x2) ∧ ∃ y3 : Nat → Nat, Sg h1.1 y3 ∧ P x2 h1) E :=
  J.ask hC (chg_VA J.va (chg_of J.va ⟨9, a, b, e, 0, 0, 0, by decide, rfl⟩)) (fun y c K hs I hc kk => as_11 (by omega) hs I J.va hc kk) k
theorem q_cmp (hd : 70 ≤ d) (J : LJ L xs C X h S) (hC : C + 10020 < 16384) (k : ∀ (r : Int32) (h2 : XH), LJ L xs (C + 0) (X + 1) h2 (f_compare a b S).2.2 → r.toInt = av ecS (f_compare a b S) → P r h2) : Ca d m_L_ask [.ref 1, .int 12, .int a, .int b, .int e] h (fun rv h1 => ∃ x2, rv = some (.int x2) ∧ ∃ y3 : Nat → Nat, Sg h1.1 y3 ∧ P x2 h1) E :=
  J.ask hC (chg_VA J.va (chg_of J.va ⟨12, a, b, 0, 0, 0, 0, by decide, rfl⟩)) (fun y c K hs I hc kk => as_12 (by omega) hs I J.va hc kk) k
theorem q_dsc (hd : 70 ≤ d) (J : LJ L xs C X h S) (hC : C + 10020 < 16384) (k : ∀ (r : Int32) (h2 : XH), LJ L xs (C + 0) (X + 1) h2 (f_descent a b e S).2.2 → r.toInt = av ecI (f_descent a b e S) → P r h2) : Ca d m_L_ask [.ref 1, .int 13, .int a, .int b, .int e] h (fun rv h1 => ∃ x2, rv = some (.int x2) ∧ ∃ y3 : Nat → Nat, Sg h1.1 y3 ∧ P x2 h1) E :=
  J.ask hC (chg_VA J.va (chg_of J.va ⟨14, a, b, e, 0, 0, 0, by decide, rfl⟩)) (fun y c K hs I hc kk => as_13 (by omega) hs I J.va hc kk) k
theorem q_cut (hd : 70 ≤ d) (J : LJ L xs C X h S) (hC : C + 10020 < 16384) (k : ∀ (r : Int32) (h2 : XH), LJ L xs (C + 0) (X + 1) h2 (f_cut a b e S).2.2 → r.toInt = av ecI (f_cut a b e S) → P r h2) : Ca d m_L_ask [.ref 1, .int 14, .int a, .int b, .int e] h (fun rv h1 => ∃ x2, rv = some (.int x2) ∧ ∃ y3 : Nat → Nat, Sg h1.1 y3 ∧ P x2 h1) E :=
  J.ask hC (chg_VA J.va (chg_of J.va ⟨18, a, b, e, 0, 0, 0, by decide, rfl⟩)) (fun y c K hs I hc kk => as_14 (by omega) hs I J.va hc kk) k
end
/-! what is told -/
theorem o2S {c1 c2 : Prop} {v : Int} {S S2 : XS} (a : c1) : (c2 ∧ (out2 c1 c2 v S S2).2.2 = S2 ∧ av ecS (out2 c1 c2 v S S2) = v) ∨ (¬ c2 ∧ (out2 c1 c2 v S S2).2.2 = S ∧ av ecS (out2 c1 c2 v S S2) = -1013) := by
  by_cases b : c2
  · exact Or.inl ⟨b, by rw [out2_0 a b], by rw [out2_0 a b]; rfl⟩
  · exact Or.inr ⟨b, by rw [out2_2 a b], by rw [out2_2 a b]; rfl⟩
theorem o2I {c1 c2 : Prop} {v : Int} {S S2 : XS} (a : c1) (b : c2) : (out2 c1 c2 v S S2).2.2 = S2 ∧ av ecI (out2 c1 c2 v S S2) = v := ⟨by rw [out2_0 a b], by rw [out2_0 a b]; rfl⟩
theorem o3I {c1 c2 c3 : Prop} {v : Int} {S S2 : XS} (a : c1) (b : c2) : (c3 ∧ (out3 c1 c2 c3 v S S2).2.2 = S2 ∧ av ecI (out3 c1 c2 c3 v S S2) = v) ∨ (¬ c3 ∧ (out3 c1 c2 c3 v S S2).2.2 = S ∧ av ecI (out3 c1 c2 c3 v S S2) = -1013) := by
  by_cases c : c3
  · exact Or.inl ⟨c, by rw [out3_0 a b c], by rw [out3_0 a b c]; rfl⟩
  · exact Or.inr ⟨c, by rw [out3_3 a b c], by rw [out3_3 a b c]; rfl⟩
