/-! ===== layer 4: the law's deeds, the makers ===== -/
theorem i_mod {x k : Int32} {n : Nat} (hx : 0 ≤ x.toInt) (hk : k.toInt = n) (hn : 1 ≤ n) : 0 ≤ (x - x / k * k).toInt ∧ (x - x / k * k).toInt < n := by
  have hk1 : k ≠ -1 := fun w => by
    rw [w] at hk
    have : ((-1 : Int32)).toInt = -1 := rfl
    omega
  obtain ⟨a, ha⟩ : ∃ a : Nat, x.toInt = a := ⟨x.toInt.toNat, by omega⟩
  have q : (x / k).toInt = (a / n : Nat) := by
    rw [Int32.toInt_div_of_ne_right x k hk1, hk, ha, ← Int.ofNat_tdiv]
  have b := i_hi x
  have e := Nat.div_add_mod a n
  have f := Nat.mod_lt a (show 0 < n by omega)
  have g : ((a / n : Nat) : Int) * (n : Int) = ((n * (a / n) : Nat) : Int) := by
    rw [Nat.mul_comm]
    exact (Int.natCast_mul _ _).symm
  have m : (x / k * k).toInt = (n * (a / n) : Nat) := by
    rw [i_mul (by rw [q, hk, g]; omega) (by rw [q, hk, g]; omega), q, hk, g]
  rw [i_sub (by rw [m]; omega) (by rw [m]; omega), m, ha]
  omega
theorem i_shn {x k : Int32} {n : Nat} (hx : 0 ≤ x.toInt) (hk : (k.toBitVec.smod 32).toNat = n) : 0 ≤ (x >>> k).toInt := by
  rw [i_shr hk rfl]
  exact Int.ediv_nonneg hx (Int.natCast_nonneg _)
theorem sh4 : (((4 : Int32) &&& 31).toBitVec.smod 32).toNat = 4 := by decide
theorem sh8 : (((8 : Int32) &&& 31).toBitVec.smod 32).toNat = 8 := by decide
theorem sh12 : (((12 : Int32) &&& 31).toBitVec.smod 32).toNat = 12 := by decide
theorem sh15 : (((15 : Int32) &&& 31).toBitVec.smod 32).toNat = 15 := by decide
theorem sh17 : (((17 : Int32) &&& 31).toBitVec.smod 32).toNat = 17 := by decide
theorem i_md {x k m : Int32} {n q : Nat} (hx : 0 ≤ x.toInt) (hk : k.toInt = n) (hn : 1 ≤ n) (hm : m.toInt = q) (hq : n ≤ 100000 ∧ q ≤ 100000) : -(q : Int) ≤ ((x - x / k * k) - m).toInt ∧ ((x - x / k * k) - m).toInt < (n : Int) - q := by
  have h := i_mod hx hk hn
  generalize x - x / k * k = v at h ⊢
  rw [i_sub (by rw [hm]; omega) (by rw [hm]; omega), hm]
  omega
theorem i_ma {x k m : Int32} {n q : Nat} (hx : 0 ≤ x.toInt) (hk : k.toInt = n) (hn : 1 ≤ n) (hm : m.toInt = q) (hq : n ≤ 100000 ∧ q ≤ 100000) : (q : Int) ≤ ((x - x / k * k) + m).toInt ∧ ((x - x / k * k) + m).toInt < (n : Int) + q := by
  have h := i_mod hx hk hn
  generalize x - x / k * k = v at h ⊢
  rw [i_add (by rw [hm]; omega) (by rw [hm]; omega), hm]
  omega
theorem i_am {x k m : Int32} {n q : Nat} (hx : 0 ≤ x.toInt) (hk : k.toInt = n) (hn : 1 ≤ n) (hm : m.toInt = q) (hq : n ≤ 100000 ∧ q ≤ 100000) : (q : Int) ≤ (m + (x - x / k * k)).toInt ∧ (m + (x - x / k * k)).toInt < (n : Int) + q := by
  have h := i_mod hx hk hn
  generalize x - x / k * k = v at h ⊢
  rw [i_add (by rw [hm]; omega) (by rw [hm]; omega), hm]
  omega
theorem i_av {r s : Int32} {ec : Nat → Nat} {v : Int} {S2 : XS} (h : r.toInt = av ec (0, v, S2)) (h2 : s.toInt = v) : r = s := i_eq (h.trans (if_pos rfl)) h2
theorem i_avS {r : Int32} {S2 : XS} (h : r.toInt = av ecS (2, 0, S2)) : r = -1013 := i_eq (v := -1013) (h.trans (show av ecS (2, 0, S2) = -1013 from rfl)) rfl
theorem i_avI {r : Int32} {S2 : XS} (h : r.toInt = av ecI (3, 0, S2)) : r = -1013 := i_eq (v := -1013) (h.trans (show av ecI (3, 0, S2) = -1013 from rfl)) rfl
/-- the turn's end: all that leads there is true so far -/
def TE (d L : Nat) (xs : Nat → Int32) (C X : Nat) (l4 l5 l8 : Int32) (K : XK) (E : XE) : Prop := ∀ (l2 : Int32) (u6 u7 u9 u10 : Option Value) (u11 : Option Int32) (u12 u13 u14 : Option Value) (h : XH) (S : XS), LJ L xs C X h S → b_L_law_1266 d 0 1 l2 1 l4 l5 u6 u7 l8 u9 u10 u11 u12 u13 u14 h K E
section
variable {d L C X : Nat} {xs : Nat → Int32} {h : XH} {S : XS} {K : XK} {E : XE} {p a b l2 l4 l5 l6 l7 : Int32} {u3 u6 u7 u9 u10 u12 u13 u14 : Option Value} {u11 : Option Int32}
theorem cs_fin (hd : 71 ≤ d) (hC : C + 10030 < 16384) (T : TE d L xs (C + 10) (X + 6) l4 l5 p K E) (J : LJ L xs C X h S) (hp : is9 p) (h6 : 0 ≤ l6.toInt) : b_L_law_156 d 0 1 l2 u3 l4 l5 l6 u7 p u9 u10 u11 u12 u13 u14 h K E := by
  obtain ⟨y, hs⟩ := J.sg
  have hd0 : 70 ≤ d := by omega
  have hb := i_mod (k := 12) (n := 12) (i_shn h6 sh12) rfl (by omega)
  refine w_L_law_156 hd0 hs ?_
  generalize (l6 >>> ((12 : Int32) &&& 31)) - (l6 >>> ((12 : Int32) &&& 31)) / 12 * 12 = v at hb ⊢
  clear h6
  refine q_fin hd0 J (by omega) (fun r h2 J2 hr => ?_)
  obtain ⟨x, ef⟩ : ∃ x, f_finite p v S = (0, 0, sO S (pN p) x) := ⟨_, out2_0 hp.p ⟨by omega, by omega⟩⟩
  rw [ef] at J2 hr
  have r0 : r = 0 := i_av hr rfl
  refine ⟨fun z => absurd r0 z, fun _ => q_kind hd0 J2 hp.p (fun h3 J3 => ?_)⟩
  obtain ⟨y3, hs3⟩ := J3.sg
  exact ⟨fun z => absurd (upw_e _ _ _) z, fun _ => w_L_law_190 hd0 hs3 (T _ _ _ _ _ _ _ _ _ _ _ (J3.le (by omega) (by omega)))⟩
theorem mul_bd {b w : Int} (hb : -2000 ≤ b ∧ b ≤ 2000) (hw : 1 ≤ w ∧ w ≤ 131072) : -262144000 ≤ b * w ∧ b * w ≤ 262144000 := by
  have h0 : 0 ≤ w := by omega
  have h1 := Int.mul_le_mul_of_nonneg_right hb.2 h0
  have h2 := Int.mul_le_mul_of_nonneg_right hb.1 h0
  omega
theorem cs_num (hd : 71 ≤ d) (hC : C + 10030 < 16384) (T : TE d L xs (C + 10) (X + 6) l4 l5 p K E) (J : LJ L xs C X h S) (hp : is9 p) (h6 : 0 ≤ l6.toInt) : b_L_law_194 d 0 1 l2 u3 l4 l5 l6 l7 p a b 1 u12 u13 u14 h K E := by
  obtain ⟨y, hs⟩ := J.sg
  have hd0 : 70 ≤ d := by omega
  have hb := i_md (k := 4001) (n := 4001) (m := 2000) (q := 2000) (i_shn h6 sh12) rfl (by omega) rfl (by omega)
  have he := i_ma (k := 17) (n := 17) (m := 3) (q := 3) (i_shn h6 sh4) rfl (by omega) rfl (by omega)
  refine w_L_law_194 hd0 hs ⟨fun z => absurd rfl z, fun _ => ?_⟩
  generalize ((l6 >>> ((12 : Int32) &&& 31)) - (l6 >>> ((12 : Int32) &&& 31)) / 4001 * 4001) - 2000 = v at hb ⊢
  generalize ((l6 >>> ((4 : Int32) &&& 31)) - (l6 >>> ((4 : Int32) &&& 31)) / 17 * 17) + 3 = w at he ⊢
  clear h6
  refine q_num hd0 J (by omega) (fun r h2 J2 hr => ?_)
  obtain ⟨x, ef⟩ : ∃ x, f_number p v w S = (0, 0, sN S (pN p) x) := by
    refine ⟨_, out2_0 hp.p ⟨⟨by omega, by omega⟩, ?_⟩⟩
    have w1 := pw2_1 (20 - w.toInt.toNat)
    have w2 : pw2 (20 - w.toInt.toNat) ≤ pw2 17 := pw2_le (by omega)
    have w3 : pw2 17 = 131072 := rfl
    have m := mul_bd (b := v.toInt) ⟨by omega, by omega⟩ ⟨w1, by omega⟩
    unfold fitN
    omega
  rw [ef] at J2 hr
  have r0 : r = 0 := i_av hr rfl
  refine ⟨fun z => absurd r0 z, fun _ => q_kind hd0 J2 hp.p (fun h3 J3 => ?_)⟩
  obtain ⟨y3, hs3⟩ := J3.sg
  exact ⟨fun z => absurd (upw_e _ _ _) z, fun _ => w_L_law_247 hd0 hs3 (T _ _ _ _ _ _ _ _ _ _ _ (J3.le (by omega) (by omega)))⟩
theorem cs_trm (hd : 71 ≤ d) (hC : C + 10030 < 16384) (T : TE d L xs (C + 10) (X + 6) l4 l5 p K E) (J : LJ L xs C X h S) (hp : is9 p) (h6 : 0 ≤ l6.toInt) : b_L_law_251 d 0 1 l2 u3 l4 l5 l6 l7 p a b 2 u12 u13 u14 h K E := by
  obtain ⟨y, hs⟩ := J.sg
  have hd0 : 70 ≤ d := by omega
  have h1 := i_md (k := 7) (n := 7) (m := 3) (q := 3) (i_shn h6 sh12) rfl (by omega) rfl (by omega)
  have h2 := i_md (k := 3) (n := 3) (m := 1) (q := 1) (i_shn h6 sh4) rfl (by omega) rfl (by omega)
  have h3 := i_md (k := 5) (n := 5) (m := 2) (q := 2) (i_shn h6 sh8) rfl (by omega) rfl (by omega)
  have h4 := i_md (k := 3) (n := 3) (m := 1) (q := 1) (i_shn h6 sh15) rfl (by omega) rfl (by omega)
  have h5 := i_md (k := 3) (n := 3) (m := 1) (q := 1) (i_shn h6 sh17) rfl (by omega) rfl (by omega)
  refine w_L_law_251 hd0 hs ⟨fun z => absurd rfl z, fun _ => ?_⟩
  generalize ((l6 >>> ((12 : Int32) &&& 31)) - (l6 >>> ((12 : Int32) &&& 31)) / 7 * 7) - 3 = v1 at h1 ⊢
  generalize ((l6 >>> ((4 : Int32) &&& 31)) - (l6 >>> ((4 : Int32) &&& 31)) / 3 * 3) - 1 = v2 at h2 ⊢
  generalize ((l6 >>> ((8 : Int32) &&& 31)) - (l6 >>> ((8 : Int32) &&& 31)) / 5 * 5) - 2 = v3 at h3 ⊢
  generalize ((l6 >>> ((15 : Int32) &&& 31)) - (l6 >>> ((15 : Int32) &&& 31)) / 3 * 3) - 1 = v4 at h4 ⊢
  generalize ((l6 >>> ((17 : Int32) &&& 31)) - (l6 >>> ((17 : Int32) &&& 31)) / 3 * 3) - 1 = v5 at h5 ⊢
  clear h6
  refine q_trm hd0 J (by omega) (fun r h2x J2 hr => ?_)
  obtain ⟨x, ef⟩ : ∃ x, f_term p v1 v2 v3 v4 v5 S = (0, 0, sG S (pN p) x) :=
    ⟨_, out2_0 hp.p ⟨⟨by omega, by omega⟩, ⟨by omega, by omega⟩, ⟨by omega, by omega⟩, ⟨by omega, by omega⟩, by omega, by omega⟩⟩
  rw [ef] at J2 hr
  have r0 : r = 0 := i_av hr rfl
  refine ⟨fun z => absurd r0 z, fun _ => q_kind hd0 J2 hp.p (fun h3x J3 => ?_)⟩
  obtain ⟨y3, hs3⟩ := J3.sg
  exact ⟨fun z => absurd (upw_e _ _ _) z, fun _ => w_L_law_326 hd0 hs3 (T _ _ _ _ _ _ _ _ _ _ _ (J3.le (by omega) (by omega)))⟩
theorem cs_ome (hd : 71 ≤ d) (hC : C + 10030 < 16384) (T : TE d L xs (C + 10) (X + 6) l4 l5 p K E) (J : LJ L xs C X h S) (hp : is9 p) (ha : is9 a) (h7 : l7.toInt < 8) : b_L_law_330 d 0 1 l2 u3 l4 l5 l6 l7 p a b u11 u12 u13 u14 h K E := by
  obtain ⟨y, hs⟩ := J.sg
  have hd0 : 70 ≤ d := by omega
  have e8 : (8 : Int32).toInt = 8 := rfl
  refine w_L_law_330 hd0 hs ⟨fun z => absurd (i_le.mp z) (by omega), fun _ => ?_⟩
  refine q_ome hd0 J (by omega) (fun r h2 J2 hr => ?_)
  rcases (show ((_ ∧ _) ∧ (f_omega p a S).2.2 = sO S (pN p) (mk [(S.2.1 (pN a), 1)]) ∧ av ecS (f_omega p a S) = 0) ∨ (¬ (_ ∧ _) ∧ (f_omega p a S).2.2 = S ∧ av ecS (f_omega p a S) = -1013) from o2S ⟨hp.p, ha.p⟩) with ⟨-, e1, e2⟩ | ⟨-, e1, e2⟩
  · rw [e1] at J2
    rw [e2] at hr
    have r0 : r = 0 := i_eq hr rfl
    have k1 : (sO S (pN p) (mk [(S.2.1 (pN a), 1)])).1 (pN p) = 1 := upw_e _ _ _
    have v1 : (sO S (pN p) (mk [(S.2.1 (pN a), 1)])).2.1 (pN p) = mk [(S.2.1 (pN a), 1)] := upw_e _ _ _
    refine ⟨fun z => absurd r0 z, fun _ => q_kind hd0 J2 hp.p (fun h3 J3 => ⟨fun z => absurd k1 z, fun _ => ?_⟩)⟩
    refine q_powers hd0 J3 hp.p k1 (fun r2 h4 J4 hr2 => ?_)
    rw [v1, pl_mk] at hr2
    have r1 : r2 = 1 := i_eq hr2 rfl
    refine ⟨fun z => absurd r1 z, fun _ => ?_⟩
    refine q_times (m := 0) (n := 1) (x := S.2.1 (pN a)) hd0 J4 hp.p k1 rfl (by rw [v1, pl_mk]; rfl) (fun r3 h5 J5 hr3 => ?_)
    have r31 : r3 = 1 := Int64.toInt_inj.mp (hr3.trans rfl)
    obtain ⟨y5, hs5⟩ := J5.sg
    exact ⟨fun z => absurd r31 z, fun _ => w_L_law_407 hd0 hs5 (T _ _ _ _ _ _ _ _ _ _ _ (J5.le (by omega) (by omega)))⟩
  · rw [e1] at J2
    rw [e2] at hr
    have r0 : r = -1013 := i_eq hr rfl
    obtain ⟨y2, hs2⟩ := J2.sg
    have n0 : ¬ r = 0 := fun z => by rw [z] at r0; exact absurd r0 (by decide)
    exact ⟨fun _ => ⟨fun z => absurd r0 z, fun _ => w_L_law_407 hd0 hs2 (T _ _ _ _ _ _ _ _ _ _ _ (J2.le (by omega) (by omega)))⟩, fun z => absurd n0 z⟩
/-- sum, product, difference: refused, or the two are of one kind and so is what is laid -/
def ARE (S : XS) (p a b : Int32) (r : Int32) (S2 : XS) : Prop := r = -1013 ∨ (r = S.1 (pN a) ∧ ¬ S.1 (pN a) = 0 ∧ S.1 (pN a) = S.1 (pN b) ∧ S2.1 (pN p) = S.1 (pN a))
theorem sif {c1 c2 : Prop} [Decidable c1] [Decidable c2] {S : XS} {p : Nat} {x : O} {z : Int} {G : GL} {k : Int32} (h1 : c1 → k = 1) (h2 : c2 → k = 2) (h3 : ¬ c1 → ¬ c2 → k = 3) : (if c1 then sO S p x else if c2 then sN S p z else sG S p G).1 p = k := by
  by_cases a : c1
  · rw [if_pos a, h1 a]; exact upw_e _ _ _
  · by_cases b : c2
    · rw [if_neg a, if_pos b, h2 b]; exact upw_e _ _ _
    · rw [if_neg a, if_neg b, h3 a b]; exact upw_e _ _ _
theorem are_sum (V : VA S) (hp : is9 p) (ha : is9 a) (hb : is9 b) {r : Int32} (hr : r.toInt = av ecS (f_sum p a b S)) : ARE S p a b r (f_sum p a b S).2.2 := by
  have ha16 : pN a < 16 := by have := ha.n.2; omega
  by_cases c : (¬ S.1 (pN a) = 0 ∧ S.1 (pN a) = S.1 (pN b) ∧ (S.1 (pN a) = 1 → okm (addO (S.2.1 (pN a)) (S.2.1 (pN b)))) ∧ (S.1 (pN a) = 2 → fitN (S.2.2.1 (pN a) + S.2.2.1 (pN b))) ∧ (S.1 (pN a) = 3 → gfit (gnz (gsm (S.2.2.2 (pN a)) (S.2.2.2 (pN b)) 1))))
  · rw [f_sum, out2_0 ⟨hp.p, ha.p, hb.p⟩ c] at hr ⊢
    exact Or.inr ⟨i_av hr rfl, c.1, c.2.1, sif (fun z => z) (fun z => z) (k3_of V.2.2 ha16 c.1)⟩
  · rw [f_sum, out2_2 ⟨hp.p, ha.p, hb.p⟩ c] at hr
    exact Or.inl (i_avS hr)
theorem are_pro (V : VA S) (hp : is9 p) (ha : is9 a) (hb : is9 b) {r : Int32} (hr : r.toInt = av ecS (f_product p a b S)) : ARE S p a b r (f_product p a b S).2.2 := by
  have ha16 : pN a < 16 := by have := ha.n.2; omega
  by_cases c : (¬ S.1 (pN a) = 0 ∧ S.1 (pN a) = S.1 (pN b) ∧ (S.1 (pN a) = 1 → mulok (S.2.1 (pN a)) (S.2.1 (pN b))) ∧ (S.1 (pN a) = 2 → S.2.2.1 (pN a) * S.2.2.1 (pN b) % 1048576 = 0 ∧ fitN (S.2.2.1 (pN a) * S.2.2.1 (pN b) / 1048576)) ∧ (S.1 (pN a) = 3 → gfit (gnz (gmu (S.2.2.2 (pN b)) (S.2.2.2 (pN a)) []))))
  · rw [f_product, out2_0 ⟨hp.p, ha.p, hb.p⟩ c] at hr ⊢
    exact Or.inr ⟨i_av hr rfl, c.1, c.2.1, sif (fun z => z) (fun z => z) (k3_of V.2.2 ha16 c.1)⟩
  · rw [f_product, out2_2 ⟨hp.p, ha.p, hb.p⟩ c] at hr
    exact Or.inl (i_avS hr)
theorem are_dif (V : VA S) (hp : is9 p) (ha : is9 a) (hb : is9 b) {r : Int32} (hr : r.toInt = av ecS (f_difference p a b S)) : ARE S p a b r (f_difference p a b S).2.2 := by
  have ha16 : pN a < 16 := by have := ha.n.2; omega
  by_cases c : (¬ S.1 (pN a) = 0 ∧ S.1 (pN a) = S.1 (pN b) ∧ ¬ S.1 (pN a) = 1 ∧ (S.1 (pN a) = 2 → fitN (S.2.2.1 (pN a) - S.2.2.1 (pN b))) ∧ (S.1 (pN a) = 3 → gfit (gnz (gsm (S.2.2.2 (pN a)) (S.2.2.2 (pN b)) (-1)))))
  · rw [f_difference, out2_0 ⟨hp.p, ha.p, hb.p⟩ c] at hr ⊢
    refine Or.inr ⟨i_av hr rfl, c.1, c.2.1, ?_⟩
    show (if S.1 (pN a) = 2 then _ else _ : XS).1 (pN p) = _
    by_cases k2 : S.1 (pN a) = 2
    · rw [if_pos k2, k2]; exact upw_e _ _ _
    · rw [if_neg k2, k3_of V.2.2 ha16 c.1 c.2.2.1 k2]; exact upw_e _ _ _
  · rw [f_difference, out2_2 ⟨hp.p, ha.p, hb.p⟩ c] at hr
    exact Or.inl (i_avS hr)
theorem cs_484 {s0 l12 : Int32} (hd : 71 ≤ d) (T : TE d L xs (C + 10) (X + 6) l4 l5 p K E) (J : LJ L xs C X h S) (hp : is9 p) (hl : ¬ S.1 (pN a) = 0 → S.1 (pN a) = S.1 (pN b) → l12 = 1) (A : ∀ P : Int32 → XH → Prop, (∀ (r : Int32) (h2 : XH) (S2 : XS), LJ L xs (C + 9) (X + 1) h2 S2 → ARE S p a b r S2 → P r h2) → Ca d m_L_ask [.ref 1, .int s0, .int p, .int a, .int b] h (fun rv h1 => ∃ x2, rv = some (.int x2) ∧ ∃ y3 : Nat → Nat, Sg h1.1 y3 ∧ P x2 h1) E) : b_L_law_484 d 0 1 l2 u3 l4 l5 u6 u7 p a b u11 l12 (S.1 (pN a)) u14 s0 1 h K E := by
  obtain ⟨y, hs⟩ := J.sg
  have hd0 : 70 ≤ d := by omega
  refine w_L_law_484 hd0 hs (A _ (fun r h2 S2 J2 are => ?_))
  obtain ⟨y2, hs2⟩ := J2.sg
  refine ⟨fun _ => w_L_law_526 hd0 hs2 (w_L_law_531 hd0 hs2 (T _ _ _ _ _ _ _ _ _ _ _ (J2.le (by omega) (by omega)))), fun nr => ?_⟩
  rcases are with z | ⟨z1, z2, z3, z4⟩
  · exact absurd z nr
  · have l1 := hl z2 z3
    refine ⟨fun z => absurd (l1.symm.trans z) (by decide), fun _ => ⟨fun z => absurd z1 z, fun _ => ?_⟩⟩
    refine q_kind hd0 J2 hp.p (fun h3 J3 => ⟨fun z => absurd z4 z, fun _ => ?_⟩)
    obtain ⟨y3, hs3⟩ := J3.sg
    exact w_L_law_526 hd0 hs3 (w_L_law_531 hd0 hs3 (T _ _ _ _ _ _ _ _ _ _ _ (J3.le (by omega) (by omega))))
theorem cs_447 {s0 : Int32} (hd : 71 ≤ d) (hC : C + 10030 < 16384) (T : TE d L xs (C + 10) (X + 6) l4 l5 p K E) (J : LJ L xs C X h S) (hp : is9 p) (ha : is9 a) (hb : is9 b) (hl : ¬ S.1 (pN a) = 0 → S.1 (pN a) = S.1 (pN b) → s0 = 1) : b_L_law_447 d 0 1 l2 u3 l4 l5 u6 l7 p a b u11 u12 u13 u14 s0 h K E := by
  obtain ⟨y, hs⟩ := J.sg
  have hd0 : 70 ≤ d := by omega
  have V := J.va
  refine w_L_law_447 hd0 hs (q_kind hd0 J ha.p (fun h2 J2 => ⟨fun _ => ⟨fun _ => ?_, fun _ => ?_⟩, fun _ => ?_⟩))
  · exact cs_484 hd T J2 hp hl (fun P k => q_dif hd0 J2 (by omega) (fun r h3 J3 hr => k r h3 _ J3 (are_dif V hp ha hb hr)))
  · exact cs_484 hd T J2 hp hl (fun P k => q_pro hd0 J2 (by omega) (fun r h3 J3 hr => k r h3 _ J3 (are_pro V hp ha hb hr)))
  · exact cs_484 hd T J2 hp hl (fun P k => q_sum hd0 J2 (by omega) (fun r h3 J3 hr => k r h3 _ J3 (are_sum V hp ha hb hr)))
theorem cs_sum (hd : 71 ≤ d) (hC : C + 10030 < 16384) (T : TE d L xs (C + 10) (X + 6) l4 l5 p K E) (J : LJ L xs C X h S) (hp : is9 p) (ha : is9 a) (hb : is9 b) (h7 : l7.toInt < 17) : b_L_law_411 d 0 1 l2 u3 l4 l5 l6 l7 p a b u11 u12 u13 u14 h K E := by
  obtain ⟨y, hs⟩ := J.sg
  have hd0 : 70 ≤ d := by omega
  have e17 : (17 : Int32).toInt = 17 := rfl
  have V := J.va
  have ha16 : pN a < 16 := by have := ha.n.2; omega
  refine w_L_law_411 hd0 hs ⟨fun z => absurd (i_le.mp z) (by omega), fun _ => ?_⟩
  refine q_kind hd0 J ha.p (fun h2 J2 => q_kind hd0 J2 hb.p (fun h3 J3 => ?_))
  obtain ⟨y3, hs3⟩ := J3.sg
  refine ⟨fun z => w_L_law_446 hd0 hs3 (cs_447 hd hC T J3 hp ha hb (fun _ w => absurd w z)), fun _ => q_kind hd0 J3 ha.p (fun h4 J4 => ?_)⟩
  obtain ⟨y4, hs4⟩ := J4.sg
  refine ⟨fun z => w_L_law_446 hd0 hs4 (cs_447 hd hC T J4 hp ha hb (fun w _ => ?_)), fun _ => cs_447 hd hC T J4 hp ha hb (fun _ _ => rfl)⟩
  exfalso
  rcases V.2.2 _ ha16 with v | v | v | v
  · exact w v
  · rw [v] at z; exact absurd z (by decide)
  · rw [v] at z; exact absurd z (by decide)
  · rw [v] at z; exact absurd z (by decide)
end
