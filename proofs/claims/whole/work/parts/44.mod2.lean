/-! ===== layer 2: the model's makes ===== -/
/-- what comes where the model makes x, if ok: at most n more in the table -/
def Km (n : Nat) (h : XH) (m : Nat) (ov : Nat → O) (ok : Prop) (x : O) (K : XK) : Prop :=
  ∀ (r : Int32) (h2 : XH) (m2 : Nat) (ov2 : Nat → O), (∀ i, i < m → ov2 i = ov i) → m ≤ m2 → m2 ≤ m + n → Fmk h h2 → Mo h2 m2 ov2 → ((ok ∧ ∃ r2 : Nat, r.toInt = r2 ∧ r2 < m2 ∧ ov2 r2 = x) ∨ (¬ ok ∧ r.toInt = -1)) → K (some (.int r)) h2
theorem dep_app : ∀ a b : List OP, dep (mk (a ++ b)) = max (dep (mk a)) (dep (mk b)) := by
  intro a b
  induction a with
  | nil => show dep (mk b) = max 0 _; omega
  | cons p a ih =>
    obtain ⟨e, n⟩ := p
    show max (dep e + 1) (dep (mk (a ++ b))) = max (max (dep e + 1) (dep (mk a))) _
    rw [ih]
    omega
section
variable {d : Nat} {h : XH} {y : Nat → Nat} {m : Nat} {ov : Nat → O} {K : XK} {E : XE}
theorem t_X7_isMade {a : Int32} {i : Nat} {L : List OP} (hd : 21 ≤ d) (hs : Sg h.1 y) (M : Mo h m ov) (D : Dm h m ov L) (ha : a.toInt = i) (hi : i < m) (kk : ∀ r : Int32, (¬ r = 0 ↔ pl (ov i) = L) → K (some (.int r)) h) : Ca d m_X7_isMade [.ref 77, .int a] h K E := by
  obtain ⟨d, rfl⟩ : ∃ e, d = e + 1 := ⟨d - 1, by omega⟩
  have hm := M.1.2.2
  have s1 := M.2.2.1 i hi
  have li := M.len hi
  obtain ⟨D1, D2, D3⟩ := D
  have ends : ∀ (l3 : Int32), ¬ pl (ov i) = L → b_X7_isMade_21 d 77 a 0 l3 h K E := fun l3 hn => w_X7_isMade_21 (by omega) hs ⟨fun _ => ⟨Or.inl rfl, kk 0 ⟨fun z => absurd rfl z, fun z => absurd z hn⟩⟩, fun _ => ⟨fun _ => ⟨Or.inl rfl, kk 0 ⟨fun z => absurd rfl z, fun z => absurd z hn⟩⟩, fun z => absurd rfl z⟩⟩
  have loop : ∀ (q t : Nat) (l3 : Int32), (pl (ov i)).length = L.length → q + t = L.length → l3.toInt = t → (pl (ov i)).take t = L.take t → b_X7_isMade_21 d 77 a 1 l3 h K E := by
    intro q
    induction q with
    | zero =>
      intro t l3 hl hq h3 htk
      rw [List.take_of_length_le (by omega), List.take_of_length_le (by omega)] at htk
      exact w_X7_isMade_21 (by omega) hs ⟨fun _ => ⟨Or.inr rfl, kk 1 ⟨fun _ => htk, fun _ => by decide⟩⟩, fun z => absurd (i_le.mpr (by rw [D1, h3]; omega)) z⟩
    | succ q ih =>
      intro t l3 hl hq h3 htk
      obtain ⟨e1, n1, g1⟩ := getc (A := pl (ov i)) (m := t) (by omega)
      obtain ⟨e2, n2, g2⟩ := getc (A := L) (m := t) (by omega)
      obtain ⟨x1, x2, x3, x4, x5⟩ := M.pw hi g1
      obtain ⟨z1, z2, z3, z4, z5⟩ := D3 t e2 n2 g2
      have k3 := e8k a l3 ha (by omega) h3 (by omega)
      have a3 : h.2.1 80 (ix (8 * a + l3)) = h.2.1 80 (8 * i + t) := by rw [i_ix k3]
      have b3 : h.2.1 81 (ix (8 * a + l3)) = h.2.1 81 (8 * i + t) := by rw [i_ix k3]
      have I3 : Ix (8 * a + l3) 16000 := i_Ix k3 (by omega)
      have Il : Ix l3 80 := i_Ix h3 (by omega)
      have dif : ¬ (e1 = e2 ∧ n1 = n2) → ¬ pl (ov i) = L := fun w v => by
        rw [v, g2] at g1
        cases g1
        exact w ⟨rfl, rfl⟩
      have nx : (l3 + 1).toInt = (t + 1 : Nat) := by rw [i_add (by rw [i_1]; omega) (by rw [i_1]; omega), h3, i_1]; rfl
      refine w_X7_isMade_21 (by omega) hs ⟨fun w => absurd (i_le.mp w) (by rw [D1, h3]; omega), fun _ => ⟨fun w => absurd w (by decide), fun _ => ⟨I3, Il, fun w => ?_, fun w => ⟨I3, Il, fun v => ?_, fun v => ?_⟩⟩⟩⟩
      · refine w_X7_isMade_79 (by omega) hs (w_X7_isMade_80 (by omega) hs (ends _ (dif (fun v => w ?_))))
        rw [a3, i_ix h3]
        have := M.inj (show x1 < m by omega) z2 (by rw [x3, z3, v.1])
        exact Int32.toInt_inj.mp (by rw [x4, z4, this])
      · refine w_X7_isMade_79 (by omega) hs (w_X7_isMade_80 (by omega) hs (ends _ (dif (fun q => v ?_))))
        rw [b3, i_ix h3]
        exact Int64.toInt_inj.mp (by rw [i_2j, x5, z5, q.2])
      · refine w_X7_isMade_80 (by omega) hs (ih (t + 1) _ hl (by omega) nx ?_)
        rw [a3, i_ix h3] at w
        rw [b3, i_ix h3] at v
        have w2 := congrArg Int32.toInt (Classical.not_not.mp w)
        have v2 := congrArg Int64.toInt (Classical.not_not.mp v)
        rw [x4, z4] at w2
        rw [i_2j, x5, z5] at v2
        have e3 : e1 = e2 := by rw [← x3, ← z3, show x1 = z1 by omega]
        have e4 : n1 = n2 := by omega
        rw [takec g1, takec g2, htk, e3, e4]
  refine w_X7_isMade (by omega) hs ⟨i_Ix ha (by omega), fun w => ?_, fun w => ?_⟩
  · refine w_X7_isMade_18 (by omega) hs (ends _ (fun v => w ?_))
    rw [i_ix ha]
    exact Int32.toInt_inj.mp (by rw [s1, D1, v])
  · have := congrArg Int32.toInt (Classical.not_not.mp w)
    rw [i_ix ha, s1, D1] at this
    exact w_X7_isMade_18 (by omega) hs (loop _ 0 0 (by omega) (Nat.add_zero _) rfl rfl)
theorem t_X7_makes {L : List OP} (hd : 23 ≤ d) (hs : Sg h.1 y) (M : Mo h m ov) (D : Dm h m ov L) (hn : nf (mk L)) (hm2 : m < 2000) (kk : Km 1 h m ov (okm (mk L)) (mk L) K) : Ca d m_X7_makes [.ref 77] h K E := by
  obtain ⟨d, rfl⟩ : ∃ e, d = e + 1 := ⟨d - 1, by omega⟩
  obtain ⟨D1, D2, D3⟩ := id D
  have hm := M.1.1
  have nok : ¬ okm (mk L) → K (some (.int (-1))) h := fun z => kk (-1) h m ov (fun _ _ => rfl) (Nat.le_refl _) (by omega) (Fmk.rf h) M (Or.inr ⟨z, rfl⟩)
  -- laying a new one
  have lay : ∀ (q t : Nat) (l1 l3 : Int32) (u2 : Option Int32) (h1 : XH), okm (mk L) → (∀ i, i < m → ¬ ov i = mk L) → l1.toInt = dep (mk L) → q + t = L.length → l3.toInt = t → h1.1 = h.1 → h1.2.2.2 = h.2.2.2 → h1.2.2.1 = h.2.2.1 → (∀ r, r ≠ 80 → r ≠ 81 → h1.2.1 r = h.2.1 r) → (∀ s, s < 8 * m → h1.2.1 80 s = h.2.1 80 s ∧ h1.2.1 81 s = h.2.1 81 s) → (∀ t2 e n, t2 < t → L[t2]? = some (e, n) → ∃ j, j < m ∧ ov j = e ∧ (h1.2.1 80 (8 * m + t2)).toInt = j ∧ (h1.2.1 81 (8 * m + t2)).toInt = n) → b_X7_makes_128 d 77 l1 u2 l3 h1 K E := by
    intro q
    induction q with
    | zero =>
      intro t l1 l3 u2 h1 ok hnew hl1 hq h3 e1 e2 e3 f1 f2 f3
      have hlen : L.length ≤ 8 := by have := ok.1; rw [pl_mk] at this; exact this
      have hs1 : Sg h1.1 y := by rw [e1]; exact hs
      have i77 : h1.2.1 77 = h.2.1 77 := f1 77 (by omega) (by omega)
      have I7 : Ix (h.2.1 77 7) 2000 := i_Ix hm hm2
      refine w_X7_makes_128 (by omega) hs1 ⟨fun _ => ?_, fun z => absurd (i_le.mpr (by rw [i77, D1, h3]; omega)) z⟩
      rw [i77, i_ix hm]
      refine ⟨I7, fun h2 g2 => ?_⟩
      have i2 : h2.2.1 77 = h.2.1 77 := by rw [g2, sI_nq _ _ (by omega)]; exact i77
      rw [i2, i_ix hm]
      refine ⟨I7, fun h4 g4 h5 g5 => ?_⟩
      have i4 : h4.2.1 77 = h.2.1 77 := by rw [g4, sI_nq _ _ (by omega)]; exact i2
      rw [i4] at g5
      have J5 : h5.2.2.1 = h.2.2.1 := by rw [g5]; show h4.2.2.1 = _; rw [g4]; show h2.2.2.1 = _; rw [g2]; exact e3
      have I5 : ∀ r, r ≠ 77 → r ≠ 82 → r ≠ 83 → h5.2.1 r = h1.2.1 r := fun r a b c => by rw [g5, sI_nq _ _ a, g4, sI_nq _ _ c, g2, sI_nq _ _ b]
      have I77 : ∀ s, s ≠ 7 → h5.2.1 77 s = h.2.1 77 s := fun s a => by rw [g5, sI_ne _ _ a, i4]
      have c5 : h5.2.1 77 7 = h.2.1 77 7 + 1 := by rw [g5, sI_eq]
      have v5 : (h.2.1 77 7 + 1).toInt = (m + 1 : Nat) := by rw [i_add (by rw [i_1]; omega) (by rw [i_1]; omega), hm, i_1]; rfl
      have I82 : ∀ s, h5.2.1 82 s = if s = m then h.2.1 77 11 else h.2.1 82 s := fun s => by
        rw [g5, sI_nq _ _ (by omega), g4, sI_nq _ _ (by omega), g2]
        by_cases z : s = m
        · rw [z, sI_eq, if_pos rfl]
        · rw [sI_ne _ _ z, if_neg z, f1 82 (by omega) (by omega)]
      have I83 : ∀ s, h5.2.1 83 s = if s = m then l1 else h.2.1 83 s := fun s => by
        rw [g5, sI_nq _ _ (by omega), g4]
        by_cases z : s = m
        · rw [z, sI_eq, if_pos rfl]
        · rw [sI_ne _ _ z, if_neg z, g2, sI_nq _ _ (by omega), f1 83 (by omega) (by omega)]
      have M5 : Mo h5 (m + 1) (up ov m (mk L)) := by
        obtain ⟨m1, m2, m3, m4, m5, m6, m7⟩ := M
        refine ⟨⟨by rw [c5]; exact v5, by omega, by omega⟩, by rw [up_lt (by omega)]; exact m2, fun i hi => ?_, fun i hi => ?_, fun i hi => ?_, fun i j hi hj hij => ?_, fun i hi k e n hk => ?_⟩
        · rw [I82]
          by_cases z : i = m
          · rw [if_pos z, z, up_eq, pl_mk]; exact D1
          · rw [if_neg z, up_lt (by omega)]; exact m3 i (by omega)
        · rw [I83]
          by_cases z : i = m
          · rw [if_pos z, z, up_eq]; exact hl1
          · rw [if_neg z, up_lt (by omega)]; exact m4 i (by omega)
        · by_cases z : i = m
          · rw [z, up_eq]; exact ⟨hn, ok⟩
          · rw [up_lt (by omega)]; exact m5 i (by omega)
        · by_cases z : i = m
          · by_cases w : j = m
            · omega
            · rw [z, up_eq, up_lt (by omega)] at hij
              exact absurd hij.symm (hnew j (by omega))
          · by_cases w : j = m
            · rw [w, up_eq, up_lt (by omega)] at hij
              exact absurd hij (hnew i (by omega))
            · rw [up_lt (by omega), up_lt (by omega)] at hij
              exact m6 i j (by omega) (by omega) hij
        · rw [I5 80 (by omega) (by omega) (by omega), I5 81 (by omega) (by omega) (by omega)]
          by_cases z : i = m
          · rw [z, up_eq, pl_mk] at hk
            obtain ⟨j, j1, j2, j3, j4⟩ := f3 k e n (by have := (List.getElem?_eq_some_iff.mp hk).1; omega) hk
            rw [z]
            exact ⟨j, j1, by rw [up_lt j1]; exact j2, j3, j4⟩
          · rw [up_lt (by omega)] at hk
            have h8 := (m5 i (by omega)).2.1
            have hkl := (List.getElem?_eq_some_iff.mp hk).1
            obtain ⟨j, j1, j2, j3, j4⟩ := m7 i (by omega) k e n hk
            have f2' := f2 (8 * i + k) (by omega)
            rw [f2'.1, f2'.2]
            exact ⟨j, j1, by rw [up_lt (by omega)]; exact j2, j3, j4⟩
      refine kk _ h5 (m + 1) _ (fun i hi => up_lt hi) (by omega) (Nat.le_refl _) ⟨?_, ?_, fun r hr => ⟨?_, by rw [J5]⟩, fun s a b => I77 s a, by rw [J5]⟩ M5 (Or.inl ⟨ok, m, ?_, by omega, up_eq _ _ _⟩)
      · rw [g5]; show h4.1 = _; rw [g4]; show h2.1 = _; rw [g2]; exact e1
      · rw [g5]; show h4.2.2.2 = _; rw [g4]; show h2.2.2.2 = _; rw [g2]; exact e2
      · rw [I5 r (by omega) (by omega) (by omega), f1 r (by omega) (by omega)]
      · rw [c5, i_sub (by rw [i_1]; omega) (by rw [i_1]; omega), v5, i_1]; omega
    | succ q ih =>
      intro t l1 l3 u2 h1 ok hnew hl1 hq h3 e1 e2 e3 f1 f2 f3
      have hlen : L.length ≤ 8 := by have := ok.1; rw [pl_mk] at this; exact this
      have htm : ∀ p ∈ L, p.2 ≤ 1000000 := by have := ok.2.1; rw [pl_mk] at this; exact this
      have hs1 : Sg h1.1 y := by rw [e1]; exact hs
      have i77 : h1.2.1 77 = h.2.1 77 := f1 77 (by omega) (by omega)
      obtain ⟨e, n, g⟩ := getc (A := L) (m := t) (by omega)
      obtain ⟨j, j1, j2, j3, j4⟩ := D3 t e n g
      have k3 := e8k (h.2.1 77 7) l3 hm hm2 h3 (by omega)
      have I3 : Ix (8 * h.2.1 77 7 + l3) 16000 := i_Ix k3 (by omega)
      have Il : Ix l3 80 := i_Ix h3 (by omega)
      refine w_X7_makes_128 (by omega) hs1 ⟨fun z => absurd (i_le.mp z) (by rw [i77, D1, h3]; omega), fun _ => ?_⟩
      rw [i77, i_ix k3, i_ix h3]
      refine ⟨Il, I3, fun h4 g4 => ?_⟩
      have i4 : h4.2.1 77 = h.2.1 77 := by rw [g4, sI_nq _ _ (by omega)]; exact i77
      rw [i4, i_ix k3]
      refine ⟨Il, I3, fun h5 g5 => ?_⟩
      have J4 : h4.2.2.1 = h.2.2.1 := by rw [g4]; exact e3
      rw [J4] at g5
      have I80 : ∀ s, h5.2.1 80 s = if s = 8 * m + t then h1.2.1 85 t else h1.2.1 80 s := fun s => by
        rw [g5, sI_nq _ _ (by omega), g4]
        by_cases z : s = 8 * m + t
        · rw [z, sI_eq, if_pos rfl]
        · rw [sI_ne _ _ z, if_neg z]
      have I81 : ∀ s, h5.2.1 81 s = if s = 8 * m + t then (h.2.2.1 86 t).toInt32 else h1.2.1 81 s := fun s => by
        rw [g5]
        by_cases z : s = 8 * m + t
        · rw [z, sI_eq, if_pos rfl]
        · rw [sI_ne _ _ z, if_neg z, g4, sI_nq _ _ (by omega)]
      refine ih (t + 1) l1 (l3 + 1) u2 h5 ok hnew hl1 (by omega) ?_ ?_ ?_ ?_ (fun r a b => ?_) (fun s hs' => ?_) (fun t2 e9 n9 ht hg9 => ?_)
      · rw [i_add (by rw [i_1]; omega) (by rw [i_1]; omega), h3, i_1]; rfl
      · rw [g5]; show h4.1 = _; rw [g4]; exact e1
      · rw [g5]; show h4.2.2.2 = _; rw [g4]; exact e2
      · rw [g5]; exact J4
      · rw [g5, sI_nq _ _ b, g4, sI_nq _ _ a]; exact f1 r a b
      · rw [I80, I81, if_neg (by omega), if_neg (by omega)]; exact f2 s hs'
      · rw [I80, I81]
        by_cases z : t2 = t
        · rw [if_pos (by rw [z]), if_pos (by rw [z]), f1 85 (by omega) (by omega)]
          rw [z, g] at hg9
          cases hg9
          exact ⟨j, j1, j2, j3, l_toI j4 (htm _ (List.mem_of_getElem? g))⟩
        · rw [if_neg (by omega), if_neg (by omega)]
          exact f3 t2 e9 n9 (by omega) hg9
  -- looking for it
  have look : ∀ (q t : Nat) (l1 l3 : Int32) (u2 : Option Int32), okm (mk L) → l1.toInt = dep (mk L) → q + t = m → l3.toInt = t → (∀ i, i < t → ¬ ov i = mk L) → b_X7_makes_102 d 77 l1 u2 l3 h K E := by
    intro q
    induction q with
    | zero =>
      intro t l1 l3 u2 ok hl1 hq h3 hnew
      refine w_X7_makes_102 (by omega) hs ⟨fun _ => lay _ 0 l1 0 u2 h ok (fun i hi => hnew i (by omega)) hl1 (Nat.add_zero _) rfl rfl rfl rfl (fun _ _ _ => rfl) (fun _ _ => ⟨rfl, rfl⟩) (fun t2 _ _ ht => by omega), fun z => absurd (i_le.mpr (by rw [hm, h3]; omega)) z⟩
    | succ q ih =>
      intro t l1 l3 u2 ok hl1 hq h3 hnew
      refine w_X7_makes_102 (by omega) hs ⟨fun z => absurd (i_le.mp z) (by rw [hm, h3]; omega), fun _ => ?_⟩
      refine t_X7_isMade (i := t) (by omega) hs M D h3 (by omega) (fun r hr => ⟨r, rfl, hs, fun z => ih (t + 1) l1 (l3 + 1) u2 ok hl1 (by omega) ?_ (fun i hi => ?_), fun z => kk _ h m ov (fun _ _ => rfl) (Nat.le_refl _) (by omega) (Fmk.rf h) M (Or.inl ⟨ok, t, h3, by omega, ?_⟩)⟩)
      · rw [i_add (by rw [i_1]; omega) (by rw [i_1]; omega), h3, i_1]; rfl
      · by_cases w : i = t
        · rw [w]
          intro v
          exact hr.mpr (by rw [v, pl_mk]) z
        · exact hnew i (by omega)
      · exact pl_inj ((hr.mp z).trans (pl_mk L).symm)
  -- depth, fits
  have scan : ∀ (q t : Nat) (l1 l2 l3 : Int32), q + t = L.length → l3.toInt = t → l1.toInt = dep (mk (L.take t)) → dep (mk (L.take t)) ≤ 6 → (¬ l2 = 0 ↔ L.length ≤ 8 ∧ ∀ p ∈ L.take t, p.2 ≤ 1000000) → b_X7_makes_19 d 77 l1 l2 l3 h K E := by
    intro q
    induction q with
    | zero =>
      intro t l1 l2 l3 hq h3 h1 h6 hI
      rw [List.take_of_length_le (by omega)] at h1 hI
      have e5 : (5 : Int32).toInt = 5 := rfl
      refine w_X7_makes_19 (by omega) hs ⟨fun _ => ⟨fun z => nok (fun w => ?_), fun z => ⟨fun w => ?_, fun w => nok (fun v => ?_)⟩⟩, fun z => absurd (i_le.mpr (by rw [D1, h3]; omega)) z⟩
      · have w1 := w.1
        have w2 := w.2.1
        rw [pl_mk] at w1 w2
        exact hI.mpr ⟨w1, w2⟩ z
      · rw [i_le, h1, e5] at w
        have z2 := hI.mp z
        exact look m 0 l1 0 (some l2) ⟨by rw [pl_mk]; exact z2.1, by rw [pl_mk]; exact z2.2, by omega⟩ h1 (Nat.add_zero _) rfl (fun i hi => by omega)
      · rw [i_le, h1, e5] at w
        have := v.2.2
        omega
    | succ q ih =>
      intro t l1 l2 l3 hq h3 h1 h6 hI
      obtain ⟨e, n, g⟩ := getc (A := L) (m := t) (by omega)
      obtain ⟨j, j1, j2, j3, j4⟩ := D3 t e n g
      have Il : Ix l3 80 := i_Ix h3 (by omega)
      have hdp := M.2.2.2.1 j j1
      have hdp5 := (M.good j1).2.2.2
      rw [j2] at hdp hdp5
      have e85 : h.2.1 85 (ix l3) = h.2.1 85 t := by rw [i_ix h3]
      have Ij : Ix (h.2.1 85 (ix l3)) 2000 := by rw [e85]; exact i_Ix j3 (by omega)
      have e83 : (h.2.1 83 (ix (h.2.1 85 (ix l3)))).toInt = dep e := by rw [e85, i_ix j3]; exact hdp
      have hde : dep (mk (L.take (t + 1))) = max (dep (mk (L.take t))) (dep e + 1) := by
        rw [takec g, dep_app]
        show max _ (max (dep e + 1) 0) = _
        omega
      have hmem : ∀ p, p ∈ L.take (t + 1) ↔ p ∈ L.take t ∨ p = (e, n) := fun p => by rw [takec g, List.mem_append, List.mem_singleton]
      have nx : (l3 + 1).toInt = (t + 1 : Nat) := by rw [i_add (by rw [i_1]; omega) (by rw [i_1]; omega), h3, i_1]; rfl
      have go : ∀ (u1 : Option Value) (s0 : Int32), s0.toInt = dep (mk (L.take (t + 1))) → b_X7_makes_59 d 77 u1 l2 l3 s0 h K E := by
        intro u1 s0 hs0
        have w2 : (1000000 : Int64).toInt = 1000000 := rfl
        refine w_X7_makes_59 (by omega) hs ⟨fun z => ?_, fun z => ⟨Il, fun w => ?_, fun w => ?_⟩⟩
        · exact w_X7_makes_81 (by omega) hs (w_X7_makes_82 (by omega) hs (ih (t + 1) _ _ _ (by omega) nx hs0 (by omega) ⟨fun w => absurd rfl w, fun w => absurd z (hI.mpr ⟨w.1, fun p hp => w.2 p ((hmem p).mpr (Or.inl hp))⟩)⟩))
        · rw [j_lt, i_ix h3, j4, w2] at w
          refine w_X7_makes_81 (by omega) hs (w_X7_makes_82 (by omega) hs (ih (t + 1) _ _ _ (by omega) nx hs0 (by omega) ⟨fun w => absurd rfl w, fun v => ?_⟩))
          have v2 : n ≤ 1000000 := v.2 (e, n) ((hmem _).mpr (Or.inr rfl))
          omega
        · rw [j_lt, i_ix h3, j4, w2] at w
          refine w_X7_makes_82 (by omega) hs (ih (t + 1) _ _ _ (by omega) nx hs0 (by omega) ⟨fun _ => ⟨(hI.mp z).1, fun p hp => ?_⟩, fun _ => by decide⟩)
          rcases (hmem p).mp hp with v | v
          · exact (hI.mp z).2 p v
          · subst v
            show n ≤ 1000000
            omega
      refine w_X7_makes_19 (by omega) hs ⟨fun z => absurd (i_le.mp z) (by rw [D1, h3]; omega), fun _ => ⟨Il, Ij, fun z => go _ _ ?_, fun z => ⟨Il, Ij, go _ _ ?_⟩⟩⟩
      · rw [i_lt, e83] at z; omega
      · rw [i_lt, e83] at z
        rw [i_add (by rw [i_1]; omega) (by rw [i_1]; omega), e83, i_1]; omega
  have e8 : (8 : Int32).toInt = 8 := rfl
  have st : ∀ s : Int32, (¬ s = 0 ↔ L.length ≤ 8) → b_X7_makes_16 d 77 0 none none s h K E := fun s hI => w_X7_makes_16 (by omega) hs (scan _ 0 0 s 0 (Nat.add_zero _) rfl rfl (Nat.zero_le _) ⟨fun z => ⟨hI.mp z, fun p hp => absurd hp List.not_mem_nil⟩, fun z => hI.mpr z.1⟩)
  refine w_X7_makes (by omega) hs ⟨fun z => st 0 ⟨fun w => absurd rfl w, fun w => ?_⟩, fun z => st 1 ⟨fun _ => ?_, fun _ => by decide⟩⟩
  · rw [i_lt, D1, e8] at z; omega
  · rw [i_lt, D1, e8] at z; omega
end
