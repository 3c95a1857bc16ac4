/-! ===== layer 2: what the class's places hold ===== -/
/-- the class's key of four exponents -/
def gck (e : GE) : Int := 550293209600 + (e.1 * 1073741824 + e.2.1 * 1048576 + e.2.2.1 * 1024 + e.2.2.2)
/-- the growth at q -/
def Gc (h : XH) (q : Nat) (L : GL) : Prop := (h.2.1 q 2).toInt = L.length ∧ L.length ≤ 400 ∧ ∀ (k : Nat) (e : GE) (n : Int), L[k]? = some (e, n) → (h.2.2.1 (q + 1) k).toInt = n ∧ (h.2.2.1 (q + 2) k).toInt = gck e
/-- the class's places hold S's -/
def PlC (h : XH) (c : Nat) (ov : Nat → O) (S : XS) : Prop := ∀ p, p < 16 → h.2.1 2 p = S.1 p ∧ (S.1 p = 1 → ∃ j : Nat, j < c ∧ (h.2.1 3 p).toInt = j ∧ ov j = S.2.1 p) ∧ (S.1 p = 2 → (h.2.2.1 4 p).toInt = S.2.2.1 p) ∧ (S.1 p = 3 → Gc h (29 + 3 * p) (S.2.2.2 p))
def CI (h : XH) (y : Nat → Nat) (c : Nat) (S : XS) : Prop := ∃ ov : Nat → O, St h y c c ov ∧ PlC h c ov S
/-- what the class's calls may change; n exceptions more -/
def FC (n : Nat) (h : XH) (y : Nat → Nat) (h2 : XH) (y2 : Nat → Nat) : Prop :=
  Sg h2.1 y2 ∧ (∀ r, (r = 0 ∨ 77 ≤ r) → r < 77 → h2.2.1 r = h.2.1 r ∧ h2.2.2.1 r = h.2.2.1 r) ∧
  h2.1.length + Ty y ≤ h.1.length + Ty y2 + n ∧ h2.2.2.2 + 2 * Ty y ≤ h.2.2.2 + 2 * Ty y2 + 6 * n
theorem FC.tr {n m : Nat} {h h2 h3 : XH} {y y2 y3 : Nat → Nat} (a : FC n h y h2 y2) (b : FC m h2 y2 h3 y3) : FC (n + m) h y h3 y3 := by
  obtain ⟨a1, a2, a4, a5⟩ := a
  obtain ⟨b1, b2, b4, b5⟩ := b
  refine ⟨b1, fun r h1 h2 => ?_, by omega, by omega⟩
  rw [(b2 r h1 h2).1, (b2 r h1 h2).2]
  exact a2 r h1 h2
theorem FC.rf {h : XH} {y : Nat → Nat} (hs : Sg h.1 y) : FC 0 h y h y := ⟨hs, fun _ _ _ => ⟨rfl, rfl⟩, Nat.le_refl _, Nat.le_refl _⟩
theorem FC.fs {n : Nat} {h h2 : XH} {y y2 : Nat → Nat} (F : Fs n h y h2 y2) : FC n h y h2 y2 := ⟨F.1, fun r a b => F.2.1 r (by omega) b, F.2.2.2⟩
/-- cells alone have changed, none of these -/
theorem FC.ce {h h2 : XH} {y : Nat → Nat} (hs : Sg h.1 y) (e : h2.1 = h.1) (e2 : h2.2.2.2 = h.2.2.2) (f : ∀ r, (r = 0 ∨ 77 ≤ r) → r < 77 → h2.2.1 r = h.2.1 r ∧ h2.2.2.1 r = h.2.2.1 r) : FC 0 h y h2 y := ⟨by rw [e]; exact hs, f, by rw [e]; exact Nat.le_refl _, by rw [e2]; exact Nat.le_refl _⟩
theorem PlC.fr {h h2 : XH} {c c2 : Nat} {ov ov2 : Nat → O} {S : XS} (P : PlC h c ov S) (f : ∀ r, (r = 2 ∨ r = 3 ∨ r = 4 ∨ 29 ≤ r) → r < 77 → h2.2.1 r = h.2.1 r ∧ h2.2.2.1 r = h.2.2.1 r) (hc : c ≤ c2) (ho : ∀ i, i < c → ov2 i = ov i) : PlC h2 c2 ov2 S := by
  intro p hp
  obtain ⟨p1, p2, p3, p4⟩ := P p hp
  refine ⟨by rw [(f 2 (by omega) (by omega)).1]; exact p1, fun z => ?_, fun z => by rw [(f 4 (by omega) (by omega)).2]; exact p3 z, fun z => ?_⟩
  · obtain ⟨j, j1, j2, j3⟩ := p2 z
    exact ⟨j, by omega, by rw [(f 3 (by omega) (by omega)).1]; exact j2, by rw [ho j j1]; exact j3⟩
  · obtain ⟨g1, g2, g3⟩ := p4 z
    refine ⟨by rw [(f (29 + 3 * p) (by omega) (by omega)).1]; exact g1, g2, fun k e n hk => ?_⟩
    rw [(f (29 + 3 * p + 1) (by omega) (by omega)).2, (f (29 + 3 * p + 2) (by omega) (by omega)).2]
    exact g3 k e n hk
/-- what comes behind the class's call -/
def KC (M t : Nat) (ec : Nat → Nat) (c : Nat) (h : XH) (y : Nat → Nat) (o : XC) (K : XK) (E : XE) : Prop :=
  (o.1 = 0 → ∀ (rv : Option Value) (h2 : XH) (y2 : Nat → Nat) (c2 : Nat), c ≤ c2 → c2 ≤ c + M → CI h2 y2 c2 o.2.2 → FC 0 h y h2 y2 → rvT t True o.2.1 rv → K rv h2) ∧
  (¬ o.1 = 0 → ∀ (h2 : XH) (y2 : Nat → Nat), CI h2 y2 c o.2.2 → FC 1 h y h2 y2 → E (ec o.1) h2)
/-- the exceptions' numbers: with IllegalStateException as the second one -/
def ecS (s : Nat) : Nat := if s = 2 then 3 else s
def ecI (s : Nat) : Nat := s
section
variable {d t c M : Nat} {h : XH} {y : Nat → Nat} {S : XS} {K : XK} {E : XE} {ec : Nat → Nat} {o : XC}
theorem KC.a {v : Int} {S2 : XS} (kk : KC M t ec c h y o K E) (e : o = (0, v, S2)) {rv : Option Value} {h2 : XH} {y2 : Nat → Nat} {c2 : Nat} (g1 : c ≤ c2) (g2 : c2 ≤ c + M) (a : CI h2 y2 c2 S2) (b : FC 0 h y h2 y2) (r : rvT t True v rv) : K rv h2 := by
  subst e
  exact kk.1 rfl rv h2 y2 c2 g1 g2 a b r
theorem KC.b {st v : Nat} (kk : KC M t ec c h y o K E) (e : o = (st, 0, S)) (hst : ¬ st = 0) (hv : ec st = v) {h2 : XH} {y2 : Nat → Nat} (a : CI h2 y2 c S) (b : FC 1 h y h2 y2) : E v h2 := by
  subst e
  have := kk.2 hst h2 y2 a b
  rw [show ec (st, (0 : Int), S).1 = v from hv] at this
  exact this
theorem CI.nw (I : CI h y c S) (hs : Sg h.1 y) {v : Nat} : CI (x_new h (4, v, []) 6) y c S ∧ FC 1 h y (x_new h (4, v, []) 6) y := by
  have hz := sg_size hs
  obtain ⟨ov, I1, I2⟩ := I
  refine ⟨⟨ov, I1.nw hs, I2.fr (fun r a b => ⟨nw_I (by omega), nw_J (by omega)⟩) (Nat.le_refl _) (fun _ _ => rfl)⟩, sg_nw hs, fun r a b => ⟨nw_I (by omega), nw_J (by omega)⟩, ?_, ?_⟩
  · show (h.1 ++ [_]).length + _ ≤ _
    rw [List.length_append]
    simp only [List.length_singleton]
    omega
  · show h.2.2.2 + 6 + 2 * Ty y ≤ h.2.2.2 + 2 * Ty y + 6 * 1
    omega
theorem KC.n {st v : Nat} (kk : KC M t ec c h y o K E) (I : CI h y c S) (hs : Sg h.1 y) (e : o = (st, 0, S)) (hst : ¬ st = 0) (hv : ec st = v) : E v (x_new h (4, v, []) 6) := kk.b e hst hv (I.nw hs).1 (I.nw hs).2
/-- the store has not come through -/
theorem KC.f {st : Nat} {ov : Nat → O} (kk : KC M t ec c h y o K E) (P : PlC h c ov S) (e : o = (st, 0, S)) (hst : ¬ st = 0) (hv : ec st = 3) : Kf h y c ov E := by
  intro h2 y2 F S2
  exact kk.b e hst hv ⟨ov, S2, P.fr (fun r a b => F.2.1 r (by omega) (by omega)) (Nat.le_refl _) (fun _ _ => rfl)⟩ (FC.fs F)
theorem t_X6_needPlace {a : Int32} (hd : 21 ≤ d) (hs : Sg h.1 y) (k1 : isp a → K none h) (k0 : ¬ isp a → E 1 (x_new h (4, 1, []) 6)) : Ca d m_X6_needPlace [.int a] h K E := by
  obtain ⟨d, rfl⟩ : ∃ e, d = e + 1 := ⟨d - 1, by omega⟩
  have r : isp a ↔ (0 ≤ a.toInt ∧ a.toInt ≤ 15) := i_rng rfl rfl
  have e16 : (16 : Int32).toInt = 16 := rfl
  refine w_X6_needPlace (by omega) hs ⟨fun z => k0 (fun w => ?_), fun z => ⟨fun w => k1 (r.mpr ?_), fun w => k0 (fun v => ?_)⟩⟩
  · rw [i_lt, i_0] at z
    have := r.mp w
    omega
  · rw [i_lt, i_0] at z
    rw [i_lt, e16] at w
    omega
  · rw [i_lt, e16] at w
    have := r.mp v
    omega
theorem t_X6_needThree {a b e : Int32} (hd : 22 ≤ d) (hs : Sg h.1 y) (k1 : isp a ∧ isp b ∧ isp e → K none h) (k0 : ¬ (isp a ∧ isp b ∧ isp e) → E 1 (x_new h (4, 1, []) 6)) : Ca d m_X6_needThree [.int a, .int b, .int e] h K E := by
  obtain ⟨d, rfl⟩ : ∃ e, d = e + 1 := ⟨d - 1, by omega⟩
  refine w_X6_needThree (by omega) hs (t_X6_needPlace (by omega) hs (fun z1 => ⟨rfl, hs, t_X6_needPlace (by omega) hs (fun z2 => ⟨rfl, hs, t_X6_needPlace (by omega) hs (fun z3 => ⟨rfl, hs, k1 ⟨z1, z2, z3⟩⟩) (fun w => k0 (fun v => w v.2.2))⟩) (fun w => k0 (fun v => w v.2.1))⟩) (fun w => k0 (fun v => w v.1)))
theorem t_X6_needRow {a : Int32} (hd : 21 ≤ d) (hs : Sg h.1 y) (k1 : 0 ≤ a.toInt → K none h) (k0 : ¬ 0 ≤ a.toInt → E 1 (x_new h (4, 1, []) 6)) : Ca d m_X6_needRow [.int a] h K E := by
  obtain ⟨d, rfl⟩ : ∃ e, d = e + 1 := ⟨d - 1, by omega⟩
  exact w_X6_needRow (by omega) hs ⟨fun z => k1 (by rw [i_le, i_0] at z; exact z), fun z => k0 (fun w => z (by rw [i_le, i_0]; exact w))⟩
theorem t_X6_needRange {a u v : Int32} (hd : 21 ≤ d) (hs : Sg h.1 y) (k1 : u.toInt ≤ a.toInt ∧ a.toInt ≤ v.toInt → K none h) (k0 : ¬ (u.toInt ≤ a.toInt ∧ a.toInt ≤ v.toInt) → E 2 (x_new h (4, 2, []) 6)) : Ca d m_X6_needRange [.int a, .int u, .int v] h K E := by
  obtain ⟨d, rfl⟩ : ∃ e, d = e + 1 := ⟨d - 1, by omega⟩
  refine w_X6_needRange (by omega) hs ⟨fun z => k0 (fun w => ?_), fun z => ⟨fun w => k1 ?_, fun w => k0 (fun q => ?_)⟩⟩
  · rw [i_lt] at z; omega
  · rw [i_lt] at z; rw [i_le] at w; omega
  · rw [i_le] at w; omega
theorem g_p {q n : Nat} {a : Int32} (z : isp a) (hn : 16 ≤ n) : g_I h q n a = h.2.1 q (pN a) := g_in (isp_p z).1 (by have := (isp_p z).2; omega)
theorem t_X6_ordinalAt {a : Int32} {ov : Nat → O} (hd : 21 ≤ d) (hs : Sg h.1 y) (P : PlC h c ov S) (z : isp a) (k1 : ∀ (r : Int32) (j : Nat), S.1 (pN a) = 1 → r.toInt = j → j < c → ov j = S.2.1 (pN a) → K (some (.int r)) h) (k0 : ¬ S.1 (pN a) = 1 → E 3 (x_new h (4, 3, []) 6)) : Ca d m_X6_ordinalAt [.ref 1, .int a] h K E := by
  obtain ⟨d, rfl⟩ : ∃ e, d = e + 1 := ⟨d - 1, by omega⟩
  obtain ⟨p1, p2, -, -⟩ := P _ (isp_p z).2
  refine w_X6_ordinalAt (by omega) hs ⟨fun w => ?_, fun w => k0 (fun v => w ?_)⟩
  · rw [g_p z (Nat.le_refl _), p1] at w
    obtain ⟨j, j1, j2, j3⟩ := p2 w
    rw [g_p z (Nat.le_refl _)]
    exact k1 _ j w j2 j1 j3
  · rw [g_p z (Nat.le_refl _), p1]; exact v
theorem t_X6_ordinalWithPower {a b : Int32} {ov : Nat → O} (hd : 22 ≤ d) (hs : Sg h.1 y) (S1 : St h y c c ov) (P : PlC h c ov S) (z : isp a) (k1 : ∀ (r : Int32) (j : Nat), S.1 (pN a) = 1 → b.toInt < (pl (S.2.1 (pN a))).length → r.toInt = j → j < c → ov j = S.2.1 (pN a) → K (some (.int r)) h) (k0 : ¬ (S.1 (pN a) = 1 ∧ b.toInt < (pl (S.2.1 (pN a))).length) → E 3 (x_new h (4, 3, []) 6)) : Ca d m_X6_ordinalWithPower [.ref 1, .int a, .int b] h K E := by
  obtain ⟨d, rfl⟩ : ∃ e, d = e + 1 := ⟨d - 1, by omega⟩
  refine w_X6_ordinalWithPower (by omega) hs (t_X6_ordinalAt (by omega) hs P z (fun r j h1 h2 h3 h4 => ⟨r, rfl, hs, fun w => k1 r j h1 ?_ h2 h3 h4, fun w => k0 (fun v => w ?_)⟩) (fun w => k0 (fun v => w v.1)))
  · rw [i_lt, S1.pows hs h2 h3, h4] at w; exact w
  · rw [i_lt, S1.pows hs h2 h3, h4]; exact v.2
/-- an ordinal is laid -/
theorem t_X6_keepOrdinal {a r : Int32} {c0 j : Nat} {x : O} {ov : Nat → O} {h0 : XH} {y0 : Nat → Nat} (hd : 21 ≤ d) (hs : Sg h.1 y) (S1 : St h y c c0 ov) (P : PlC h c ov S) (F : FC 0 h0 y0 h y) (z : isp a) (hr : r.toInt = j) (hj : j < c) (hx : ov j = x) (kk : ∀ h2, CI h2 y c (sO S (pN a) x) → FC 0 h0 y0 h2 y → K none h2) : Ca d m_X6_keepOrdinal [.ref 1, .int a, .int r] h K E := by
  obtain ⟨d, rfl⟩ : ∃ e, d = e + 1 := ⟨d - 1, by omega⟩
  obtain ⟨z1, z2⟩ := isp_p z
  have hh := sg_hnd hs
  refine w_X6_keepOrdinal (by omega) hs (fun h1 e1 h2 e2 h3 e3 => kk h3 ⟨ov, ?_, fun q hq => ?_⟩ (F.tr (FC.ce hs ?_ ?_ (fun r a b => ?_))))
  all_goals rw [pI_in z1 z2] at e2 e3
  · have S2 : St h1 y c c ov := by
      obtain ⟨s1, s2, s3, s4, s5, s6, s7, s8⟩ := id S1
      subst e1
      refine ⟨⟨by rw [sI_ne _ _ (by omega)]; exact s1.1, by rw [sI_eq]; exact s1.1, by omega, Nat.le_refl _, s1.2.2.2.2⟩, s2, s3, fun i hi => ?_, fun i hi => ?_, s6, s7, ?_⟩
      · rw [sI_nq _ _ (by omega)]; exact s4 i hi
      · rw [sI_nq _ _ (by omega)]; exact s5 i hi
      · rw [sI_nq _ _ (by omega), sI_nq _ _ (by omega)]; exact s8
    exact S2.fr (by rw [e3, sI_nq _ _ (by omega), e2, sI_nq _ _ (by omega)]) (by rw [e3, sI_nq _ _ (by omega), e2, sI_nq _ _ (by omega)]) (by rw [e3, sI_nq _ _ (by omega), e2, sI_nq _ _ (by omega)]) (by rw [e3, sI_nq _ _ (by omega), e2, sI_nq _ _ (by omega)]) (by rw [e3, sI_nq _ _ (by omega), e2, sI_nq _ _ (by omega)])
  · have n2 : ∀ r, r ≠ 2 → r ≠ 3 → r ≠ 6 → h3.2.1 r = h.2.1 r := fun r a b g => by rw [e3, sI_nq _ _ a, e2, sI_nq _ _ b, e1, sI_nq _ _ g]
    have nj : h3.2.2.1 = h.2.2.1 := by rw [e3]; show h2.2.2.1 = _; rw [e2]; show h1.2.2.1 = _; rw [e1]; rfl
    obtain ⟨p1, p2, p3, p4⟩ := P q hq
    have c2 : h3.2.1 2 q = if q = pN a then 1 else h.2.1 2 q := by
      rw [e3]
      by_cases w : q = pN a
      · rw [if_pos w, w, sI_eq]
      · rw [if_neg w, sI_ne _ _ w, e2, sI_nq _ _ (by omega), e1, sI_nq _ _ (by omega)]
    have c3 : h3.2.1 3 q = if q = pN a then r else h.2.1 3 q := by
      rw [e3, sI_nq _ _ (by omega), e2]
      by_cases w : q = pN a
      · rw [if_pos w, w, sI_eq]
      · rw [if_neg w, sI_ne _ _ w, e1, sI_nq _ _ (by omega)]
    by_cases w : q = pN a
    · rw [if_pos w] at c2 c3
      rw [w] at c2 c3 ⊢
      refine ⟨c2.trans (upw_e _ _ _).symm, fun _ => ⟨j, hj, by rw [c3]; exact hr, hx.trans (upw_e _ _ _).symm⟩, fun v => ?_, fun v => ?_⟩
      · rw [show (sO S (pN a) x).1 (pN a) = 1 from upw_e _ _ _] at v; exact absurd v (by decide)
      · rw [show (sO S (pN a) x).1 (pN a) = 1 from upw_e _ _ _] at v; exact absurd v (by decide)
    · rw [if_neg w] at c2 c3
      have u1 : (sO S (pN a) x).1 q = S.1 q := upw_n _ _ w
      have u2 : (sO S (pN a) x).2.1 q = S.2.1 q := upw_n _ _ w
      rw [u1, u2, c2, c3, nj]
      refine ⟨p1, p2, p3, fun v => ?_⟩
      obtain ⟨g1, g2, g3⟩ := p4 v
      refine ⟨by rw [n2 _ (by omega) (by omega) (by omega)]; exact g1, g2, fun k e n hk => ?_⟩
      rw [nj]
      exact g3 k e n hk
  · rw [e3]; show h2.1 = _; rw [e2]; show h1.1 = _; rw [e1]; rfl
  · rw [e3]; show h2.2.2.2 = _; rw [e2]; show h1.2.2.2 = _; rw [e1]; rfl
  · rw [e3, sI_nq _ _ (by omega), e2, sI_nq _ _ (by omega), e1, sI_nq _ _ (by omega)]
    exact ⟨rfl, rfl⟩
end
