/-! ===== layer 2: rows that grow ===== -/
def Ty (y : Nat → Nat) : Nat := y 4 + y 5 + y 6 + y 7
/-- rows of the store have grown, nothing else is changed; n exceptions more -/
def Gw (n : Nat) (h : XH) (y : Nat → Nat) (h2 : XH) (y2 : Nat → Nat) : Prop :=
  Sg h2.1 y2 ∧ (∀ r, r < h.1.length → h2.2.1 r = h.2.1 r ∧ h2.2.2.1 r = h.2.2.1 r) ∧ h.1.length ≤ h2.1.length ∧
  (∀ b, b < 4 → y (b + 4) ≤ y2 (b + 4) ∧ ∀ i, i < y (b + 4) → h2.2.1 (y2 b) i = h.2.1 (y b) i) ∧ (y2 8 = y 8 ∧ y2 9 = y 9) ∧
  h2.1.length + Ty y ≤ h.1.length + Ty y2 + n ∧ h2.2.2.2 + 2 * Ty y ≤ h.2.2.2 + 2 * Ty y2 + 6 * n
theorem sg_size {T : List XT} {y : Nat → Nat} (hs : Sg T y) : 77 ≤ T.length := (List.getElem?_eq_some_iff.mp (sg_76 hs)).1
theorem sg_yl {T : List XT} {y : Nat → Nat} (hs : Sg T y) {b : Nat} (hb : b < 4) : T[y b]? = some (1, y (b + 4), []) := by
  rcases (by omega : b = 0 ∨ b = 1 ∨ b = 2 ∨ b = 3) with z | z | z | z <;> subst z
  · exact sg_y0 hs
  · exact sg_y1 hs
  · exact sg_y2 hs
  · exact sg_y3 hs
theorem sg_yr {T : List XT} {y : Nat → Nat} (hs : Sg T y) {b : Nat} (hb : b < 4) : y b < T.length := (List.getElem?_eq_some_iff.mp (sg_yl hs hb)).1
theorem Gw.rf {h : XH} {y : Nat → Nat} (hs : Sg h.1 y) : Gw 0 h y h y := ⟨hs, fun _ _ => ⟨rfl, rfl⟩, Nat.le_refl _, fun _ _ => ⟨Nat.le_refl _, fun _ _ => rfl⟩, ⟨rfl, rfl⟩, Nat.le_refl _, Nat.le_refl _⟩
theorem Gw.tr {n m : Nat} {h h2 h3 : XH} {y y2 y3 : Nat → Nat} (a : Gw n h y h2 y2) (b : Gw m h2 y2 h3 y3) : Gw (n + m) h y h3 y3 := by
  obtain ⟨a1, a2, a3, a4, a5, a6, a7⟩ := a
  obtain ⟨b1, b2, b3, b4, b5, b6, b7⟩ := b
  refine ⟨b1, fun r hr => ?_, by omega, fun x hx => ⟨?_, fun i hi => ?_⟩, ⟨b5.1.trans a5.1, b5.2.trans a5.2⟩, by omega, by omega⟩
  · rw [(b2 r (by omega)).1, (b2 r (by omega)).2]
    exact a2 r hr
  · have := (a4 x hx).1
    have := (b4 x hx).1
    omega
  · have := (a4 x hx).1
    rw [(b4 x hx).2 i (by omega), (a4 x hx).2 i hi]
theorem grow {d : Nat} {h : XH} {y : Nat → Nat} {E : XE} {b o n : Nat} {k : Int32} {R : XH → (Nat → Nat) → Prop} (hd : 20 ≤ d) (hs : Sg h.1 y) (ho : Dq h.1 o) (ho6 : o = 11 ∨ o = 14) (hb : b < 4) (hk : k.toInt = n) (h1 : n ≤ 131072)
    (kk : ∀ h5 y6, Gw 0 h y h5 y6 → n ≤ y6 (b + 4) → (∀ z, z ≠ b → z ≠ b + 4 → y6 z = y z) → (y6 (b + 4) = y (b + 4) ∨ y6 (b + 4) = 2 * n) → R h5 y6) :
    Ca d m_X3_withRoom [.ref (y b), .int k] h (fun rv h3 => ∃ x4, rv = some (.ref x4) ∧ Sg h3.1 y ∧ Dq h3.1 o ∧ (∀ h5 : XH, h5 = (x_setT h3 6 (0, 2, [some (y 0), some (y 1), some (y 2), some (y 3), none, none, some 11, some 14, some 17].set b (some x4))) → ∃ y6 : Nat → Nat, Sg h5.1 y6 ∧ (Dq h5.1 o ∧ R h5 y6))) E := by
  have hl := sg_yl hs hb
  have hsz := sg_size hs
  have hln := sg_len hs
  have hlb : y (b + 4) < 2 ^ 30 := by
    rcases (by omega : b = 0 ∨ b = 1 ∨ b = 2 ∨ b = 3) with z | z | z | z <;> subst z
    · exact hln.1
    · exact hln.2.1
    · exact hln.2.2.1
    · exact hln.2.2.2
  have hof : (Int32.ofNat (y (b + 4))).toInt = (y (b + 4) : Nat) := Int32.toInt_ofNat_of_lt (by omega)
  refine Tr.mono (t_X3_withRoom (d := 0) hl (by omega)) (by omega) (fun ov h3 z => ?_)
  by_cases c1 : n ≤ y (b + 4)
  · rw [if_pos (Or.inl (i_le.mpr (by rw [hof, hk]; omega)))] at z
    obtain ⟨rfl, rfl⟩ := z
    refine ⟨y b, rfl, hs, ho, fun h5 e5 => ⟨y, ?_⟩⟩
    have e6 : h5 = h3 := by
      rw [e5]
      have : h3.1.set 6 (0, 2, [some (y 0), some (y 1), some (y 2), some (y 3), none, none, some 11, some 14, some 17].set b (some (y b))) = h3.1 := by
        have e7 : [some (y 0), some (y 1), some (y 2), some (y 3), none, none, some 11, some 14, some 17].set b (some (y b)) = [some (y 0), some (y 1), some (y 2), some (y 3), none, none, some 11, some 14, some 17] := by
          rcases (by omega : b = 0 ∨ b = 1 ∨ b = 2 ∨ b = 3) with z | z | z | z <;> subst z <;> rfl
        rw [e7]
        obtain ⟨g1, g2⟩ := List.getElem?_eq_some_iff.mp (sg_6 hs)
        rw [← g2]
        exact List.set_getElem_self g1
      show (h3.1.set 6 _, h3.2.1, h3.2.2.1, h3.2.2.2) = h3
      rw [this]
    subst e6
    exact ⟨hs, ho, kk _ _ (Gw.rf hs) c1 (fun _ _ _ => rfl) (Or.inl rfl)⟩
  · rw [if_neg (fun z => z.elim (fun z => c1 (by rw [i_le, hof, hk] at z; omega)) (fun z => z (i_le.mpr (by rw [hk]; show (n : Int) ≤ 1048576; omega)))), show k.toNatClampNeg = n from i_ix hk] at z
    obtain ⟨rfl, rfl⟩ := z
    have hap : ∀ {r : Nat} {t : XT}, h.1[r]? = some t → (h.1 ++ [((1, 2 * n, []) : XT)])[r]? = some t := fun {r t} z => by
      rw [List.getElem?_append_left (List.getElem?_eq_some_iff.mp z).1]
      exact z
    refine ⟨h.1.length, rfl, ?_, ⟨hap ho.1, hap ho.2.1, hap ho.2.2⟩, fun h5 e5 => ?_⟩
    · obtain ⟨s1, s2, s3, s4, s5⟩ := hs
      exact ⟨fun k t hk => hap (s1 k t hk), hap s2, ⟨hap s3.1, hap s3.2.1, hap s3.2.2.1, hap s3.2.2.2⟩, hap s4, s5⟩
    · have e1 : h5.1 = (h.1 ++ [((1, 2 * n, []) : XT)]).set 6 (0, 2, [some (y 0), some (y 1), some (y 2), some (y 3), none, none, some 11, some 14, some 17].set b (some h.1.length)) := by rw [e5]; rfl
      have e2 : ∀ r, r < h.1.length → h5.2.1 r = h.2.1 r := fun r hr => by
        rw [e5]
        show (if r = h.1.length then _ else (if r = h.1.length then _ else h.2.1 r)) = h.2.1 r
        rw [if_neg (by omega), if_neg (by omega)]
      have e3 : ∀ r, r < h.1.length → h5.2.2.1 r = h.2.2.1 r := fun r hr => by
        rw [e5]
        show (if r = h.1.length then _ else h.2.2.1 r) = h.2.2.1 r
        rw [if_neg (by omega)]
      have e4 : ∀ i, i < y (b + 4) → h5.2.1 h.1.length i = h.2.1 (y b) i := fun i hi => by
        rw [e5]
        show (if h.1.length = h.1.length then (fun j => if j < y (b + 4) then (if y b = h.1.length then _ else h.2.1 (y b)) j else _) else _) i = _
        have := sg_yr hs hb
        rw [if_pos rfl]
        show (if i < y (b + 4) then _ else _) = _
        rw [if_pos hi, if_neg (by omega)]
      have hset : ∀ {r : Nat} {t : XT}, r ≠ 6 → h.1[r]? = some t → h5.1[r]? = some t := fun {r t} hr z => by
        rw [e1, List.getElem?_set_ne (by omega)]
        exact hap z
      have hnew : h5.1[h.1.length]? = some (1, 2 * n, []) := by
        rw [e1, List.getElem?_set_ne (by omega), List.getElem?_append_right (Nat.le_refl _), Nat.sub_self]
        rfl
      have h56 : h5.1[6]? = some (0, 2, [some (y 0), some (y 1), some (y 2), some (y 3), none, none, some 11, some 14, some 17].set b (some h.1.length)) := by
        rw [e1, List.getElem?_set_self (by rw [List.length_append]; omega)]
      have hlen : h5.1.length = h.1.length + 1 := by rw [e1, List.length_set, List.length_append]; rfl
      have hslots : h5.2.2.2 = h.2.2.2 + 2 * n := by rw [e5]; rfl
      have hh := sg_hnd hs
      have hdis := sg_dis hs
      have hyr0 := sg_yr hs (show 0 < 4 by omega)
      have hyr1 := sg_yr hs (show 1 < 4 by omega)
      have hyr2 := sg_yr hs (show 2 < 4 by omega)
      have hyr3 := sg_yr hs (show 3 < 4 by omega)
      have hsg : Sg h5.1 (fun z => if z = b then h.1.length else if z = b + 4 then 2 * n else y z) := by
        refine ⟨fun k t hk => hset (fun z => by subst z; cases hk) (hs.1 k t hk), ?_, ?_, ?_, ?_, ?_, ?_, ?_⟩
        · rw [h56]
          rcases (by omega : b = 0 ∨ b = 1 ∨ b = 2 ∨ b = 3) with z | z | z | z <;> subst z <;> rfl
        · have q0 := hset (by omega) (sg_y0 hs)
          have q1 := hset (by omega) (sg_y1 hs)
          have q2 := hset (by omega) (sg_y2 hs)
          have q3 := hset (by omega) (sg_y3 hs)
          rcases (by omega : b = 0 ∨ b = 1 ∨ b = 2 ∨ b = 3) with z | z | z | z <;> subst z
          · exact ⟨hnew, q1, q2, q3⟩
          · exact ⟨q0, hnew, q2, q3⟩
          · exact ⟨q0, q1, hnew, q3⟩
          · exact ⟨q0, q1, q2, hnew⟩
        · have q := hset (by omega) (sg_19 hs)
          rcases (by omega : b = 0 ∨ b = 1 ∨ b = 2 ∨ b = 3) with z | z | z | z <;> subst z <;> exact q
        · have q := sg_89v hs
          rcases (by omega : b = 0 ∨ b = 1 ∨ b = 2 ∨ b = 3) with z | z | z | z <;> subst z <;> exact q
        · rcases (by omega : b = 0 ∨ b = 1 ∨ b = 2 ∨ b = 3) with z | z | z | z <;> subst z
          · exact ⟨Or.inr hsz, hh.2.1, hh.2.2.1, hh.2.2.2⟩
          · exact ⟨hh.1, Or.inr hsz, hh.2.2.1, hh.2.2.2⟩
          · exact ⟨hh.1, hh.2.1, Or.inr hsz, hh.2.2.2⟩
          · exact ⟨hh.1, hh.2.1, hh.2.2.1, Or.inr hsz⟩
        · obtain ⟨x1, x2, x3, x4, x5, x6⟩ := hdis
          rcases (by omega : b = 0 ∨ b = 1 ∨ b = 2 ∨ b = 3) with z | z | z | z <;> subst z
          · exact ⟨(by omega : h.1.length ≠ y 1), (by omega : h.1.length ≠ y 2), (by omega : h.1.length ≠ y 3), x4, x5, x6⟩
          · exact ⟨(by omega : y 0 ≠ h.1.length), x2, x3, (by omega : h.1.length ≠ y 2), (by omega : h.1.length ≠ y 3), x6⟩
          · exact ⟨x1, (by omega : y 0 ≠ h.1.length), x3, (by omega : y 1 ≠ h.1.length), x5, (by omega : h.1.length ≠ y 3)⟩
          · exact ⟨x1, x2, (by omega : y 0 ≠ h.1.length), x4, (by omega : y 1 ≠ h.1.length), (by omega : y 2 ≠ h.1.length)⟩
        · obtain ⟨x1, x2, x3, x4⟩ := hln
          rcases (by omega : b = 0 ∨ b = 1 ∨ b = 2 ∨ b = 3) with z | z | z | z <;> subst z
          · exact ⟨(by omega : 2 * n < 2 ^ 30), x2, x3, x4⟩
          · exact ⟨x1, (by omega : 2 * n < 2 ^ 30), x3, x4⟩
          · exact ⟨x1, x2, (by omega : 2 * n < 2 ^ 30), x4⟩
          · exact ⟨x1, x2, x3, (by omega : 2 * n < 2 ^ 30)⟩
      have hb4 : (if b + 4 = b then h.1.length else if b + 4 = b + 4 then 2 * n else y (b + 4)) = 2 * n := by rw [if_neg (by omega), if_pos rfl]
      refine ⟨_, hsg, ?_, kk h5 _ ⟨hsg, fun r hr => ⟨e2 r hr, e3 r hr⟩, by omega, ?_, ?_, ?_, ?_⟩ ?_ ?_ ?_⟩
      · rcases ho6 with z | z <;> subst z
        · exact sg_D11 hsg
        · exact sg_D14 hsg
      · intro b2 hb2
        have v2 := sg_yr hs hb2
        by_cases z : b2 = b
        · subst z
          refine ⟨by show y (b2 + 4) ≤ (if b2 + 4 = b2 then h.1.length else if b2 + 4 = b2 + 4 then 2 * n else y (b2 + 4)); rw [hb4]; omega, fun i hi => ?_⟩
          show h5.2.1 (if b2 = b2 then h.1.length else _) i = _
          rw [if_pos rfl]
          exact e4 i hi
        · refine ⟨by show y (b2 + 4) ≤ (if b2 + 4 = b then h.1.length else if b2 + 4 = b + 4 then 2 * n else y (b2 + 4)); rw [if_neg (by omega), if_neg (by omega)]; exact Nat.le_refl _, fun i hi => ?_⟩
          show h5.2.1 (if b2 = b then _ else if b2 = b + 4 then _ else y b2) i = _
          rw [if_neg z, if_neg (by omega), e2 _ v2]
      · constructor
        · show (if 8 = b then _ else if 8 = b + 4 then _ else y 8) = y 8
          rw [if_neg (by omega), if_neg (by omega)]
        · show (if 9 = b then _ else if 9 = b + 4 then _ else y 9) = y 9
          rw [if_neg (by omega), if_neg (by omega)]
      · unfold Ty
        rcases (by omega : b = 0 ∨ b = 1 ∨ b = 2 ∨ b = 3) with z | z | z | z <;> subst z
        · show h5.1.length + (y 4 + y 5 + y 6 + y 7) ≤ h.1.length + (2 * n + y 5 + y 6 + y 7) + 0
          have c2 : ¬ n ≤ y 4 := c1
          omega
        · show h5.1.length + (y 4 + y 5 + y 6 + y 7) ≤ h.1.length + (y 4 + 2 * n + y 6 + y 7) + 0
          have c2 : ¬ n ≤ y 5 := c1
          omega
        · show h5.1.length + (y 4 + y 5 + y 6 + y 7) ≤ h.1.length + (y 4 + y 5 + 2 * n + y 7) + 0
          have c2 : ¬ n ≤ y 6 := c1
          omega
        · show h5.1.length + (y 4 + y 5 + y 6 + y 7) ≤ h.1.length + (y 4 + y 5 + y 6 + 2 * n) + 0
          have c2 : ¬ n ≤ y 7 := c1
          omega
      · unfold Ty
        rcases (by omega : b = 0 ∨ b = 1 ∨ b = 2 ∨ b = 3) with z | z | z | z <;> subst z
        · show h5.2.2.2 + 2 * (y 4 + y 5 + y 6 + y 7) ≤ h.2.2.2 + 2 * (2 * n + y 5 + y 6 + y 7) + 6 * 0
          have c2 : ¬ n ≤ y 4 := c1
          omega
        · show h5.2.2.2 + 2 * (y 4 + y 5 + y 6 + y 7) ≤ h.2.2.2 + 2 * (y 4 + 2 * n + y 6 + y 7) + 6 * 0
          have c2 : ¬ n ≤ y 5 := c1
          omega
        · show h5.2.2.2 + 2 * (y 4 + y 5 + y 6 + y 7) ≤ h.2.2.2 + 2 * (y 4 + y 5 + 2 * n + y 7) + 6 * 0
          have c2 : ¬ n ≤ y 6 := c1
          omega
        · show h5.2.2.2 + 2 * (y 4 + y 5 + y 6 + y 7) ≤ h.2.2.2 + 2 * (y 4 + y 5 + y 6 + 2 * n) + 6 * 0
          have c2 : ¬ n ≤ y 7 := c1
          omega
      · show n ≤ (if b + 4 = b then h.1.length else if b + 4 = b + 4 then 2 * n else y (b + 4))
        rw [hb4]
        omega
      · intro z z1 z2
        show (if z = b then h.1.length else if z = b + 4 then 2 * n else y z) = y z
        rw [if_neg z1, if_neg z2]
      · exact Or.inr hb4
