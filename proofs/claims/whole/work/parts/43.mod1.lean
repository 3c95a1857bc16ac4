/-! ===== layer 2: the model's ordinals ===== -/
/-- the model's table: m ordinals, alike ones once -/
def Mo (h : XH) (m : Nat) (ov : Nat → O) : Prop :=
  ((h.2.1 77 7).toInt = m ∧ 1 ≤ m ∧ m ≤ 2000) ∧ ov 0 = .leaf ∧ (∀ i, i < m → (h.2.1 82 i).toInt = (pl (ov i)).length) ∧ (∀ i, i < m → (h.2.1 83 i).toInt = dep (ov i)) ∧
  (∀ i, i < m → gd (ov i)) ∧ (∀ i j, i < m → j < m → ov i = ov j → i = j) ∧
  (∀ i, i < m → ∀ (k : Nat) (e : O) (n : Nat), (pl (ov i))[k]? = some (e, n) → ∃ j, j < i ∧ ov j = e ∧ (h.2.1 80 (8 * i + k)).toInt = j ∧ (h.2.1 81 (8 * i + k)).toInt = n)
/-- what is being made: the powers L -/
def Dm (h : XH) (m : Nat) (ov : Nat → O) (L : List OP) : Prop :=
  (h.2.1 77 11).toInt = L.length ∧ L.length ≤ 80 ∧ ∀ (k : Nat) (e : O) (n : Nat), L[k]? = some (e, n) → ∃ j, j < m ∧ ov j = e ∧ (h.2.1 85 k).toInt = j ∧ (h.2.2.1 86 k).toInt = n
/-- only the table and what is being made have changed -/
def Fmk (h h2 : XH) : Prop := h2.1 = h.1 ∧ h2.2.2.2 = h.2.2.2 ∧ (∀ r, (r ≤ 76 ∨ r = 78 ∨ r = 79 ∨ r = 84 ∨ 87 ≤ r) → h2.2.1 r = h.2.1 r ∧ h2.2.2.1 r = h.2.2.1 r) ∧ (∀ s, s ≠ 7 → s ≠ 11 → h2.2.1 77 s = h.2.1 77 s) ∧ h2.2.2.1 77 = h.2.2.1 77
theorem Fmk.rf (h : XH) : Fmk h h := ⟨rfl, rfl, fun _ _ => ⟨rfl, rfl⟩, fun _ _ _ => rfl, rfl⟩
theorem Fmk.tr {h h2 h3 : XH} (a : Fmk h h2) (b : Fmk h2 h3) : Fmk h h3 := ⟨b.1.trans a.1, b.2.1.trans a.2.1, fun r hr => ⟨(b.2.2.1 r hr).1.trans (a.2.2.1 r hr).1, (b.2.2.1 r hr).2.trans (a.2.2.1 r hr).2⟩, fun s h1 h2 => (b.2.2.2.1 s h1 h2).trans (a.2.2.2.1 s h1 h2), b.2.2.2.2.trans a.2.2.2.2⟩
theorem Fmk.sg {h h2 : XH} {y : Nat → Nat} (a : Fmk h h2) (hs : Sg h.1 y) : Sg h2.1 y := by rw [a.1]; exact hs
theorem Mo.fr {h h2 : XH} {m : Nat} {ov : Nat → O} (M : Mo h m ov) (h0 : h2.2.1 77 7 = h.2.1 77 7) (h1 : ∀ r, 80 ≤ r → r ≤ 83 → h2.2.1 r = h.2.1 r) : Mo h2 m ov := by
  unfold Mo
  rw [h0, h1 80 (by omega) (by omega), h1 81 (by omega) (by omega), h1 82 (by omega) (by omega), h1 83 (by omega) (by omega)]
  exact M
theorem Dm.fr {h h2 : XH} {m : Nat} {ov : Nat → O} {L : List OP} (D : Dm h m ov L) (h0 : h2.2.1 77 11 = h.2.1 77 11) (h1 : h2.2.1 85 = h.2.1 85) (h3 : h2.2.2.1 86 = h.2.2.1 86) : Dm h2 m ov L := by
  unfold Dm
  rw [h0, h1, h3]
  exact D
section
variable {d : Nat} {h : XH} {y : Nat → Nat} {m : Nat} {ov : Nat → O} {K : XK} {E : XE}
theorem Mo.good (M : Mo h m ov) {i : Nat} (hi : i < m) : gd (ov i) := M.2.2.2.2.1 i hi
theorem Mo.len (M : Mo h m ov) {i : Nat} (hi : i < m) : (pl (ov i)).length ≤ 8 := (M.good hi).2.1
theorem Mo.inj (M : Mo h m ov) {i j : Nat} (hi : i < m) (hj : j < m) (e : ov i = ov j) : i = j := M.2.2.2.2.2.1 i j hi hj e
theorem Mo.ne (M : Mo h m ov) {i : Nat} (hi : i < m) : ov i = .leaf ↔ i = 0 := by
  constructor
  · intro z
    exact M.inj hi (by omega) (z.trans M.2.1.symm)
  · rintro rfl
    exact M.2.1
theorem e8m (a : Int32) {i : Nat} (ha : a.toInt = i) (hi : i < 2000) : (8 * a).toInt = (8 * i : Nat) := by
  have e8 : (8 : Int32).toInt = 8 := rfl
  rw [i_mul (by rw [e8, ha]; omega) (by rw [e8, ha]; omega), e8, ha]
  omega
theorem e8k (a b : Int32) {i k : Nat} (ha : a.toInt = i) (hi : i < 2000) (hb : b.toInt = k) (hk : k < 80) : (8 * a + b).toInt = (8 * i + k : Nat) := by
  have := e8m a ha hi
  rw [i_add (by omega) (by omega), this, hb]
  omega
theorem Mo.pw (M : Mo h m ov) {i k : Nat} {e : O} {n : Nat} (hi : i < m) (g : (pl (ov i))[k]? = some (e, n)) : ∃ j, j < i ∧ ov j = e ∧ (h.2.1 80 (8 * i + k)).toInt = j ∧ (h.2.1 81 (8 * i + k)).toInt = n := M.2.2.2.2.2.2 i hi k e n g
theorem t_X7_compared {a b : Int32} {i j : Nat} (hd : 21 ≤ d) (hs : Sg h.1 y) (M : Mo h m ov) (ha : a.toInt = i) (hb : b.toInt = j) (hi : i < m) (hj : j < m) (kk : ∀ r : Int32, r.toInt = oc (ov i) (ov j) → K (some (.int r)) h) : Ca d m_X7_compared [.ref 77, .int a, .int b] h K E := by
  obtain ⟨d, rfl⟩ : ∃ e, d = e + 1 := ⟨d - 1, by omega⟩
  have hm := M.1.2.2
  have loop : ∀ (q : Nat) (i1 j1 : Nat) (u1 : Option Value) (u2 : Option Int32) (l3 l4 : Int32) (u5 u6 u7 : Option Value), i1 ≤ q → l3.toInt = i1 → l4.toInt = j1 → i1 < m → j1 < m → oc (ov i) (ov j) = oc (ov i1) (ov j1) → b_X7_compared_5 d 77 u1 u2 l3 l4 u5 u6 u7 h K E := by
    intro q
    induction q with
    | zero =>
      intro i1 j1 u1 u2 l3 l4 u5 u6 u7 hq h3 h4 hi1 hj1 ho
      have hi0 : i1 = 0 := by omega
      refine w_X7_compared_5 (by omega) hs ⟨fun z => kk 0 ?_, fun z => ?_⟩
      · have : i1 = j1 := by rw [z, h4] at h3; omega
        rw [ho, this, oc_self]; rfl
      · have hj0 : ¬ j1 = 0 := fun w => z (Int32.toInt_inj.mp (by rw [h3, h4, hi0, w]))
        have l1 := (M.ne hi1).mpr hi0
        have s1 := M.2.2.1 i1 hi1
        have jl : ¬ ov j1 = .leaf := fun w => hj0 ((M.ne hj1).mp w)
        refine w_X7_compared_14 (by omega) hs ⟨i_Ix h3 (by omega), fun _ => ?_, fun w => absurd (i_le.mpr (by rw [i_ix h3, s1, l1]; exact Int.le_refl 0)) w⟩
        refine w_X7_compared_99 (by omega) hs ⟨i_Ix h3 (by omega), fun _ => ?_, fun w => absurd (Int32.toInt_inj.mp (by rw [i_ix h3, s1, l1]; rfl)) w⟩
        refine w_X7_compared_122 (by omega) hs ⟨i_Ix h3 (by omega), fun w => absurd (Int32.toInt_inj.mp (by rw [i_ix h3, s1, l1]; rfl)) w, fun _ => kk _ ?_⟩
        rw [ho, l1]
        cases hov : ov j1 with
        | leaf => exact absurd hov jl
        | inner => rfl
    | succ q ih =>
      intro i1 j1 u1 u2 l3 l4 u5 u6 u7 hq h3 h4 hi1 hj1 ho
      have s1 := M.2.2.1 i1 hi1
      have s2 := M.2.2.1 j1 hj1
      have li := M.len hi1
      have lj := M.len hj1
      refine w_X7_compared_5 (by omega) hs ⟨fun z => kk 0 ?_, fun z => ?_⟩
      · have : i1 = j1 := by rw [z, h4] at h3; omega
        rw [ho, this, oc_self]; rfl
      · have hne : i1 ≠ j1 := fun w => z (Int32.toInt_inj.mp (by rw [h3, h4, w]))
        have inner : ∀ (p t : Nat) (l5 : Int32), p + t = 8 → l5.toInt = t → t ≤ (pl (ov i1)).length → t ≤ (pl (ov j1)).length → (pl (ov i1)).take t = (pl (ov j1)).take t → oc (ov i1) (ov j1) = ocL ((pl (ov i1)).drop t) ((pl (ov j1)).drop t) → b_X7_compared_14 d 77 u1 u2 l3 l4 l5 u6 u7 h K E := by
          intro p
          induction p with
          | zero =>
            intro t l5 hp h5 ht1 ht2 htk hod
            have e1 : (pl (ov i1)).length = t := by omega
            have e2 : (pl (ov j1)).length = t := by omega
            rw [List.take_of_length_le (by omega), List.take_of_length_le (by omega)] at htk
            exact absurd (M.inj hi1 hj1 (pl_inj htk)) hne
          | succ p ihp =>
            intro t l5 hp h5 ht1 ht2 htk hod
            have i3 : h.2.1 82 (ix l3) = h.2.1 82 i1 := by rw [i_ix h3]
            have i4 : h.2.1 82 (ix l4) = h.2.1 82 j1 := by rw [i_ix h4]
            -- one of both ends
            have fin : ∀ u, (t = (pl (ov i1)).length ∨ t = (pl (ov j1)).length) → b_X7_compared_122 d 77 u1 u2 l3 u l5 u6 u7 h K E := by
              intro u hor
              refine w_X7_compared_122 (by omega) hs ⟨i_Ix h3 (by omega), fun w => kk _ ?_, fun w => kk _ ?_⟩
              · rw [i3] at w
                have w2 : ¬ t = (pl (ov i1)).length := fun v => w (Int32.toInt_inj.mp (by rw [s1, h5, v]))
                obtain ⟨e, n, g⟩ := getc (A := pl (ov i1)) (m := t) (by omega)
                rw [ho, hod, dropc g, show (pl (ov j1)).drop t = [] from List.drop_eq_nil_of_le (by omega)]
                rfl
              · rw [i3] at w
                have w2 : t = (pl (ov i1)).length := by
                  have := congrArg Int32.toInt (Classical.not_not.mp w)
                  rw [s1, h5] at this
                  omega
                have w3 : ¬ t = (pl (ov j1)).length := fun v => by
                  rw [List.take_of_length_le (by omega), List.take_of_length_le (by omega)] at htk
                  exact hne (M.inj hi1 hj1 (pl_inj htk))
                obtain ⟨e, n, g⟩ := getc (A := pl (ov j1)) (m := t) (by omega)
                rw [ho, hod, dropc g, List.drop_eq_nil_of_le (by omega)]
                rfl
            by_cases c1 : t = (pl (ov i1)).length
            · refine w_X7_compared_14 (by omega) hs ⟨i_Ix h3 (by omega), fun _ => ?_, fun w => absurd (i_le.mpr (by rw [i3, s1, h5]; omega)) w⟩
              exact w_X7_compared_99 (by omega) hs ⟨i_Ix h3 (by omega), fun _ => fin _ (Or.inl c1), fun w => absurd (Int32.toInt_inj.mp (by rw [i3, s1, h5, c1])) w⟩
            · by_cases c2 : t = (pl (ov j1)).length
              · refine w_X7_compared_14 (by omega) hs ⟨i_Ix h3 (by omega), fun w => absurd (i_le.mp w) (by rw [i3, s1, h5]; omega), fun _ => ⟨i_Ix h4 (by omega), fun _ => ?_, fun w => absurd (i_le.mpr (by rw [i4, s2, h5]; omega)) w⟩⟩
                exact w_X7_compared_99 (by omega) hs ⟨i_Ix h3 (by omega), fun w => absurd (congrArg Int32.toInt w) (by rw [i3, s1, h5]; omega), fun _ => ⟨i_Ix h4 (by omega), fun w => absurd (Int32.toInt_inj.mp (by rw [i4, s2, h5, c2])) w, fun _ => fin _ (Or.inr c2)⟩⟩
              · obtain ⟨e1, n1, g1⟩ := getc (A := pl (ov i1)) (m := t) (by omega)
                obtain ⟨e2, n2, g2⟩ := getc (A := pl (ov j1)) (m := t) (by omega)
                obtain ⟨x1, x2, x3, x4, x5⟩ := M.pw hi1 g1
                obtain ⟨z1, z2, z3, z4, z5⟩ := M.pw hj1 g2
                have k3 := e8k l3 l5 h3 (by omega) h5 (by omega)
                have k4 := e8k l4 l5 h4 (by omega) h5 (by omega)
                have a3 : h.2.1 80 (ix (8 * l3 + l5)) = h.2.1 80 (8 * i1 + t) := by rw [i_ix k3]
                have a4 : h.2.1 80 (ix (8 * l4 + l5)) = h.2.1 80 (8 * j1 + t) := by rw [i_ix k4]
                have b3 : h.2.1 81 (ix (8 * l3 + l5)) = h.2.1 81 (8 * i1 + t) := by rw [i_ix k3]
                have b4 : h.2.1 81 (ix (8 * l4 + l5)) = h.2.1 81 (8 * j1 + t) := by rw [i_ix k4]
                have I3 : Ix (8 * l3 + l5) 16000 := i_Ix k3 (by omega)
                have I4 : Ix (8 * l4 + l5) 16000 := i_Ix k4 (by omega)
                have hexp : h.2.1 80 (8 * i1 + t) = h.2.1 80 (8 * j1 + t) ↔ e1 = e2 := by
                  constructor
                  · intro w
                    have := congrArg Int32.toInt w
                    rw [x4, z4] at this
                    rw [← x3, ← z3, show x1 = z1 by omega]
                  · intro w
                    have := M.inj (show x1 < m by omega) (show z1 < m by omega) (by rw [x3, z3, w])
                    exact Int32.toInt_inj.mp (by rw [x4, z4, this])
                have htm : h.2.1 81 (8 * i1 + t) = h.2.1 81 (8 * j1 + t) ↔ n1 = n2 := by
                  constructor
                  · intro w
                    have := congrArg Int32.toInt w
                    rw [x5, z5] at this
                    omega
                  · intro w
                    exact Int32.toInt_inj.mp (by rw [x5, z5, w])
                rw [dropc g1, dropc g2] at hod
                have hod2 : oc (ov i1) (ov j1) = if oc e1 e2 = 0 then (if n1 < n2 then -1 else if n2 < n1 then 1 else ocL ((pl (ov i1)).drop (t + 1)) ((pl (ov j1)).drop (t + 1))) else oc e1 e2 := hod
                have diff : ¬ (e1 = e2 ∧ n1 = n2) → b_X7_compared_99 d 77 u1 u2 l3 l4 l5 u6 u7 h K E := by
                  intro hdf
                  refine w_X7_compared_99 (by omega) hs ⟨i_Ix h3 (by omega), fun w => absurd (congrArg Int32.toInt w) (by rw [i3, s1, h5]; omega), fun _ => ⟨i_Ix h4 (by omega), fun _ => ⟨I3, I4, fun w => ?_, fun w => ⟨I3, I4, fun v => kk _ ?_, fun v => kk _ ?_⟩⟩, fun w => absurd (congrArg Int32.toInt (Classical.not_not.mp w)) (by rw [i4, s2, h5]; omega)⟩⟩
                  · rw [a3, a4, hexp] at w
                    rw [a3, a4]
                    refine ih x1 z1 _ _ _ _ _ _ _ (by omega) x4 z4 (by omega) (by omega) ?_
                    rw [ho, hod2, if_neg (fun v => w (oc_eq _ _ v)), x3, z3]
                  · rw [a3, a4, hexp] at w
                    have w2 := Classical.not_not.mp w
                    rw [b3, b4, i_le, x5, z5] at v
                    rw [ho, hod2, if_pos (by rw [w2, oc_self]), if_pos (by have hq : ¬ n1 = n2 := fun q => hdf ⟨w2, q⟩; omega)]
                    rfl
                  · rw [a3, a4, hexp] at w
                    have w2 := Classical.not_not.mp w
                    rw [b3, b4, i_le, x5, z5] at v
                    rw [ho, hod2, if_pos (by rw [w2, oc_self]), if_neg (by omega), if_pos (by omega)]
                    rfl
                refine w_X7_compared_14 (by omega) hs ⟨i_Ix h3 (by omega), fun w => absurd (i_le.mp w) (by rw [i3, s1, h5]; omega), fun _ => ⟨i_Ix h4 (by omega), fun w => absurd (i_le.mp w) (by rw [i4, s2, h5]; omega), fun _ => ⟨I3, I4, fun w => diff (fun v => ?_), fun w => ⟨I3, I4, fun v => diff (fun q => ?_), fun v => ?_⟩⟩⟩⟩
                · rw [a3, a4, hexp] at w; exact w v.1
                · rw [b3, b4, htm] at v; exact v q.2
                · rw [a3, a4, hexp] at w
                  rw [b3, b4, htm] at v
                  have w2 := Classical.not_not.mp w
                  have v2 := Classical.not_not.mp v
                  subst w2 v2
                  rw [if_pos (oc_self _), if_neg (by omega), if_neg (by omega)] at hod2
                  refine ihp (t + 1) (l5 + 1) (by omega) ?_ (by omega) (by omega) ?_ hod2
                  · rw [i_add (by rw [i_1]; omega) (by rw [i_1]; omega), h5, i_1]; rfl
                  · rw [takec g1, takec g2, htk]
        exact inner 8 0 0 rfl rfl (Nat.zero_le _) (Nat.zero_le _) rfl (ocL_pl _ _)
  exact w_X7_compared (by omega) hs (loop i i j _ _ a b none none none (Nat.le_refl _) ha hb hi hj rfl)
theorem t_X7_adds {a : Int32} {b : Int64} {j n : Nat} {x : O} {L : List OP} (hd : 21 ≤ d) (hs : Sg h.1 y) (D : Dm h m ov L) (hl : L.length < 80) (ha : a.toInt = j) (hj : j < m) (hx : ov j = x) (hb : b.toInt = n) (kk : ∀ h2, Dm h2 m ov (L ++ [(x, n)]) → Fmk h h2 → (∀ r, 80 ≤ r → r ≤ 83 → h2.2.1 r = h.2.1 r) → h2.2.1 77 7 = h.2.1 77 7 → K none h2) : Ca d m_X7_adds [.ref 77, .int a, .long b] h K E := by
  obtain ⟨d, rfl⟩ : ∃ e, d = e + 1 := ⟨d - 1, by omega⟩
  obtain ⟨D1, D2, D3⟩ := D
  refine w_X7_adds (by omega) hs ⟨i_Ix D1 hl, fun h1 e1 => ?_⟩
  rw [i_ix D1] at e1
  have c1 : h1.2.1 77 = h.2.1 77 := by rw [e1]; exact sI_nq _ _ (by omega)
  rw [c1]
  refine ⟨i_Ix D1 hl, fun h2 e2 h3 e3 => ?_⟩
  rw [i_ix D1] at e2
  have c2 : h2.2.1 = h1.2.1 := by rw [e2]; rfl
  rw [c2, c1] at e3
  have i77 : ∀ s, s ≠ 11 → h3.2.1 77 s = h.2.1 77 s := fun s hs => by rw [e3, sI_ne _ _ hs, c2, c1]
  have iot : ∀ r, r ≠ 77 → r ≠ 85 → h3.2.1 r = h.2.1 r := fun r a b => by rw [e3, sI_nq _ _ a, c2, e1, sI_nq _ _ b]
  have jot : ∀ r, r ≠ 86 → h3.2.2.1 r = h.2.2.1 r := fun r a => by rw [e3]; show h2.2.2.1 r = _; rw [e2, sJ_nq _ _ a, e1]; rfl
  have i85 : ∀ s, h3.2.1 85 s = if s = L.length then a else h.2.1 85 s := fun s => by
    rw [e3, sI_nq _ _ (by omega), c2, e1]
    by_cases z : s = L.length
    · rw [z, sI_eq, if_pos rfl]
    · rw [sI_ne _ _ z, if_neg z]
  have j86 : ∀ s, h3.2.2.1 86 s = if s = L.length then b else h.2.2.1 86 s := fun s => by
    rw [e3]
    show h2.2.2.1 86 s = _
    rw [e2]
    by_cases z : s = L.length
    · rw [z, sJ_eq, if_pos rfl]
    · rw [sJ_ne _ _ z, if_neg z, e1]; rfl
  refine kk h3 ⟨?_, ?_, fun k e9 n9 hk => ?_⟩ ⟨by rw [e3]; show h2.1 = _; rw [e2]; show h1.1 = _; rw [e1]; rfl, by rw [e3]; show h2.2.2.2 = _; rw [e2]; show h1.2.2.2 = _; rw [e1]; rfl, fun r hr => ⟨iot r (by omega) (by omega), jot r (by omega)⟩, fun s a b => i77 s b, jot 77 (by omega)⟩ (fun r a b => iot r (by omega) (by omega)) (i77 7 (by omega))
  · rw [e3, sI_eq, i_add (by rw [i_1]; omega) (by rw [i_1]; omega), D1, i_1, List.length_append]; rfl
  · rw [List.length_append]; exact hl
  · rw [i85, j86]
    by_cases z : k < L.length
    · rw [List.getElem?_append_left z] at hk
      rw [if_neg (by omega), if_neg (by omega)]
      exact D3 k e9 n9 hk
    · have hkl := (List.getElem?_eq_some_iff.mp hk).1
      rw [List.length_append] at hkl
      simp only [List.length_singleton] at hkl
      have z2 : k = L.length := by omega
      rw [List.getElem?_append_right (by omega), z2, Nat.sub_self] at hk
      cases hk
      rw [if_pos z2, if_pos z2]
      exact ⟨j, hj, hx, ha, hb⟩
end
