/-! ===== layer 2: the model's natural sum, one less, finite ones ===== -/
section
variable {d : Nat} {h : XH} {y : Nat → Nat} {m : Nat} {ov : Nat → O} {K : XK} {E : XE}
theorem t_X7_summedNaturally {a b : Int32} {i j : Nat} (hd : 25 ≤ d) (hs : Sg h.1 y) (M : Mo h m ov) (ha : a.toInt = i) (hb : b.toInt = j) (hi : i < m) (hj : j < m) (hm2 : m < 2000) (kk : Km 1 h m ov (okm (naO (ov i) (ov j))) (naO (ov i) (ov j)) K) : Ca d m_X7_summedNaturally [.ref 77, .int a, .int b] h K E := by
  obtain ⟨d, rfl⟩ : ∃ e, d = e + 1 := ⟨d - 1, by omega⟩
  have hgi := M.good hi
  have hgj := M.good hj
  have li := M.len hi
  have lj := M.len hj
  have k8a := e8m a ha (by omega)
  have k8b := e8m b hb (by omega)
  have loop : ∀ (q s t : Nat) (l3 l4 : Int32) (u5 : Option Value) (h2 : XH) (L : List OP), (pl (ov i)).length + (pl (ov j)).length ≤ q + s + t → s ≤ (pl (ov i)).length → t ≤ (pl (ov j)).length → l3.toInt = (8 * i + s : Nat) → l4.toInt = (8 * j + t : Nat) → Mo h2 m ov → Dm h2 m ov L → Fmk h h2 → L.length ≤ s + t → L ++ naL ((pl (ov i)).drop s) ((pl (ov j)).drop t) = naL (pl (ov i)) (pl (ov j)) → b_X7_summedNaturally_16 d 77 a b l3 l4 u5 h2 K E := by
    intro q
    induction q with
    | zero =>
      intro s t l3 l4 u5 h2 L hq hsl htl h3 h4 M2 D2 F2 hl hL
      have s2 := M2.2.2.1 i hi
      have t2 := M2.2.2.1 j hj
      have hs2 := F2.sg hs
      have ea : (8 * a + h2.2.1 82 (ix a)).toInt = (8 * i + (pl (ov i)).length : Nat) := by rw [i_ix ha, i_add (by rw [k8a, s2]; omega) (by rw [k8a, s2]; omega), k8a, s2]; omega
      have eb : (8 * b + h2.2.1 82 (ix b)).toInt = (8 * j + (pl (ov j)).length : Nat) := by rw [i_ix hb, i_add (by rw [k8b, t2]; omega) (by rw [k8b, t2]; omega), k8b, t2]; omega
      have hL2 : L = naL (pl (ov i)) (pl (ov j)) := by
        rw [← hL, List.drop_eq_nil_of_le (by omega), na_nil, List.drop_eq_nil_of_le (by omega), List.append_nil]
      refine w_X7_summedNaturally_16 (by omega) hs2 ⟨i_Ix ha (by omega), fun w => absurd (i_lt.mp w) (by rw [ea, h3]; omega), fun _ => ⟨i_Ix hb (by omega), fun _ => ?_, fun w => absurd (i_le.mpr (by rw [eb, h4]; omega)) w⟩⟩
      exact t_makes (n := 1) (by omega) hs2 M2 D2 F2 (by rw [hL2]; exact nf_naO hgi.1 hgj.1) hm2 (by rw [hL2]; rfl) (by rw [hL2]; exact Iff.rfl) (Nat.le_refl _) kk
    | succ q ih =>
      intro s t l3 l4 u5 h2 L hq hsl htl h3 h4 M2 D2 F2 hl hL
      have s2 := M2.2.2.1 i hi
      have t2 := M2.2.2.1 j hj
      have hs2 := F2.sg hs
      have ea : (8 * a + h2.2.1 82 (ix a)).toInt = (8 * i + (pl (ov i)).length : Nat) := by rw [i_ix ha, i_add (by rw [k8a, s2]; omega) (by rw [k8a, s2]; omega), k8a, s2]; omega
      have eb : (8 * b + h2.2.1 82 (ix b)).toInt = (8 * j + (pl (ov j)).length : Nat) := by rw [i_ix hb, i_add (by rw [k8b, t2]; omega) (by rw [k8b, t2]; omega), k8b, t2]; omega
      have x3 : h2.2.1 80 (ix l3) = h2.2.1 80 (8 * i + s) := by rw [i_ix h3]
      have x4 : h2.2.1 80 (ix l4) = h2.2.1 80 (8 * j + t) := by rw [i_ix h4]
      have z3 : h2.2.1 81 (ix l3) = h2.2.1 81 (8 * i + s) := by rw [i_ix h3]
      have z4 : h2.2.1 81 (ix l4) = h2.2.1 81 (8 * j + t) := by rw [i_ix h4]
      have e0 : (0 : Int32).toInt = 0 := rfl
      have n3 : (l3 + 1).toInt = (8 * i + (s + 1) : Nat) := by rw [i_add (by rw [i_1]; omega) (by rw [i_1]; omega), h3, i_1]; omega
      have n4 : (l4 + 1).toInt = (8 * j + (t + 1) : Nat) := by rw [i_add (by rw [i_1]; omega) (by rw [i_1]; omega), h4, i_1]; omega
      have m3 : (l3 + 0).toInt = (8 * i + s : Nat) := by rw [i_add (by rw [e0]; omega) (by rw [e0]; omega), h3, e0]; omega
      have m4 : (l4 + 0).toInt = (8 * j + t : Nat) := by rw [i_add (by rw [e0]; omega) (by rw [e0]; omega), h4, e0]; omega
      -- a turn
      have turn : ∀ s0 : Int32, (s0.toInt = 1 → ∃ e n, (pl (ov i))[s]? = some (e, n) ∧ naL ((pl (ov i)).drop s) ((pl (ov j)).drop t) = (e, n) :: naL ((pl (ov i)).drop (s + 1)) ((pl (ov j)).drop t)) → (s0.toInt = -1 → ∃ e n, (pl (ov j))[t]? = some (e, n) ∧ naL ((pl (ov i)).drop s) ((pl (ov j)).drop t) = (e, n) :: naL ((pl (ov i)).drop s) ((pl (ov j)).drop (t + 1))) → (s0.toInt = 0 → ∃ e n n2, (pl (ov i))[s]? = some (e, n) ∧ (pl (ov j))[t]? = some (e, n2) ∧ naL ((pl (ov i)).drop s) ((pl (ov j)).drop t) = (e, n2 + n) :: naL ((pl (ov i)).drop (s + 1)) ((pl (ov j)).drop (t + 1))) → (s0.toInt = -1 ∨ s0.toInt = 0 ∨ s0.toInt = 1) → b_X7_summedNaturally_103 d 77 a b l3 l4 u5 s0 h2 K E := by
        intro s0 c1 c2 c3 c4
        refine w_X7_summedNaturally_103 (by omega) hs2 ⟨fun w => ⟨fun v => ?_, fun v => ?_⟩, fun w => ?_⟩
        · rw [i_le, i_0] at w v
          obtain ⟨e, n, n2, g1, g2, g3⟩ := c3 (by omega)
          have hsl2 := (List.getElem?_eq_some_iff.mp g1).1
          have htl2 := (List.getElem?_eq_some_iff.mp g2).1
          obtain ⟨p1, p2, p3, p4, p5⟩ := M2.pw hi g1
          obtain ⟨r1, r2, r3, r4, r5⟩ := M2.pw hj g2
          have hn := gd_tm hgi g1
          have hn2 := gd_tm hgj g2
          refine ⟨i_Ix h3 (by omega), i_Ix h3 (by omega), i_Ix h4 (by omega), ?_⟩
          rw [x3, z3, z4]
          refine t_X7_adds (n := n2 + n) (by omega) hs2 D2 (by omega) p4 (by omega) p3 (by rw [j_add (by rw [i_2j, i_2j, p5, r5]; omega) (by rw [i_2j, i_2j, p5, r5]; omega), i_2j, i_2j, p5, r5]; omega) (fun h3' D3 F3 a3 b3 => ⟨rfl, F3.sg hs2, ?_⟩)
          refine w_X7_summedNaturally_183 (by omega) (F3.sg hs2) ⟨fun q9 => absurd (i_lt.mp q9) (by rw [i_0]; omega), fun _ => ?_⟩
          refine w_X7_summedNaturally_194 (by omega) (F3.sg hs2) ⟨fun q9 => absurd (i_lt.mp q9) (by rw [i_0]; omega), fun _ => ?_⟩
          refine w_X7_summedNaturally_208 (by omega) (F3.sg hs2) (ih (s + 1) (t + 1) _ _ _ h3' _ (by omega) (by omega) (by omega) n3 n4 (M2.add a3 b3) D3 (F2.tr F3) (by rw [List.length_append]; simp only [List.length_singleton]; omega) ?_)
          rw [← hL, g3, List.append_assoc]; rfl
        · rw [i_le, i_0] at w v
          obtain ⟨e, n, g1, g3⟩ := c2 (by omega)
          have htl2 := (List.getElem?_eq_some_iff.mp g1).1
          obtain ⟨r1, r2, r3, r4, r5⟩ := M2.pw hj g1
          refine ⟨i_Ix h4 (by omega), i_Ix h4 (by omega), ?_⟩
          rw [x4, z4]
          refine t_X7_adds (n := n) (by omega) hs2 D2 (by omega) r4 (by omega) r3 (by rw [i_2j]; exact r5) (fun h3' D3 F3 a3 b3 => ⟨rfl, F3.sg hs2, ?_⟩)
          refine w_X7_summedNaturally_183 (by omega) (F3.sg hs2) ⟨fun _ => ?_, fun q9 => absurd (i_lt.mpr (by rw [i_0]; omega)) q9⟩
          refine w_X7_summedNaturally_194 (by omega) (F3.sg hs2) ⟨fun q9 => absurd (i_lt.mp q9) (by rw [i_0]; omega), fun _ => ?_⟩
          refine w_X7_summedNaturally_208 (by omega) (F3.sg hs2) (ih s (t + 1) _ _ _ h3' _ (by omega) hsl (by omega) m3 n4 (M2.add a3 b3) D3 (F2.tr F3) (by rw [List.length_append]; simp only [List.length_singleton]; omega) ?_)
          rw [← hL, g3, List.append_assoc]; rfl
        · rw [i_le, i_0] at w
          obtain ⟨e, n, g1, g3⟩ := c1 (by omega)
          have hsl2 := (List.getElem?_eq_some_iff.mp g1).1
          obtain ⟨r1, r2, r3, r4, r5⟩ := M2.pw hi g1
          refine ⟨i_Ix h3 (by omega), i_Ix h3 (by omega), ?_⟩
          rw [x3, z3]
          refine t_X7_adds (n := n) (by omega) hs2 D2 (by omega) r4 (by omega) r3 (by rw [i_2j]; exact r5) (fun h3' D3 F3 a3 b3 => ⟨rfl, F3.sg hs2, ?_⟩)
          refine w_X7_summedNaturally_183 (by omega) (F3.sg hs2) ⟨fun q9 => absurd (i_lt.mp q9) (by rw [i_0]; omega), fun _ => ?_⟩
          refine w_X7_summedNaturally_194 (by omega) (F3.sg hs2) ⟨fun _ => ?_, fun q9 => absurd (i_lt.mpr (by rw [i_0]; omega)) q9⟩
          refine w_X7_summedNaturally_208 (by omega) (F3.sg hs2) (ih (s + 1) t _ _ _ h3' _ (by omega) (by omega) htl n3 m4 (M2.add a3 b3) D3 (F2.tr F3) (by rw [List.length_append]; simp only [List.length_singleton]; omega) ?_)
          rw [← hL, g3, List.append_assoc]; rfl
      -- what the turn is
      have mid : (s < (pl (ov i)).length ∨ t < (pl (ov j)).length) → b_X7_summedNaturally_47 d 77 a b l3 l4 u5 h2 K E := by
        intro hor
        refine w_X7_summedNaturally_47 (by omega) hs2 ⟨i_Ix ha (by omega), fun w => ⟨i_Ix hb (by omega), fun v => ⟨?_, ?_, ?_⟩, fun v => turn 1 (fun _ => ?_) (fun q9 => absurd q9 (by decide)) (fun q9 => absurd q9 (by decide)) (Or.inr (Or.inr rfl))⟩, fun w => turn (-1) (fun q9 => absurd q9 (by decide)) (fun _ => ?_) (fun q9 => absurd q9 (by decide)) (Or.inl rfl)⟩
        · have hsl2 : s ≠ (pl (ov i)).length := fun q9 => w (Int32.toInt_inj.mp (by rw [ea, h3, q9]))
          exact i_Ix h3 (by omega)
        · have htl2 : t ≠ (pl (ov j)).length := fun q9 => v (Int32.toInt_inj.mp (by rw [eb, h4, q9]))
          exact i_Ix h4 (by omega)
        · have hsl2 : s ≠ (pl (ov i)).length := fun q9 => w (Int32.toInt_inj.mp (by rw [ea, h3, q9]))
          have htl2 : t ≠ (pl (ov j)).length := fun q9 => v (Int32.toInt_inj.mp (by rw [eb, h4, q9]))
          obtain ⟨e, n, g1⟩ := getc (A := pl (ov i)) (m := s) (by omega)
          obtain ⟨f, mm, g2⟩ := getc (A := pl (ov j)) (m := t) (by omega)
          obtain ⟨p1, p2, p3, p4, p5⟩ := M2.pw hi g1
          obtain ⟨r1, r2, r3, r4, r5⟩ := M2.pw hj g2
          have nc := na_cons (e := e) (f := f) (n := n) (m := mm) (A := (pl (ov i)).drop (s + 1)) (B := (pl (ov j)).drop (t + 1))
          rw [x3, x4]
          refine t_X7_compared (i := p1) (j := r1) (by omega) hs2 M2 p4 r4 (by omega) (by omega) (fun r hr => ⟨r, rfl, hs2, turn r (fun q9 => ⟨e, n, g1, ?_⟩) (fun q9 => ⟨f, mm, g2, ?_⟩) (fun q9 => ?_) (by rw [hr]; exact oc_val _ _)⟩)
          · rw [p3, r3] at hr
            rw [dropc g1, dropc g2, nc, if_pos (by omega), ← dropc g2]
          · rw [p3, r3] at hr
            rw [dropc g1, dropc g2, nc, if_neg (by omega), if_neg (by omega), ← dropc g1]
          · rw [p3, r3] at hr
            have ee := oc_eq e f (by omega)
            subst ee
            exact ⟨e, n, mm, g1, g2, by rw [dropc g1, dropc g2, nc, if_neg (by omega), if_pos (by omega)]⟩
        · have htl2 : t = (pl (ov j)).length := by
            have := congrArg Int32.toInt (Classical.not_not.mp v)
            rw [eb, h4] at this
            omega
          obtain ⟨e, n, g1⟩ := getc (A := pl (ov i)) (m := s) (by omega)
          refine ⟨e, n, g1, ?_⟩
          rw [show (pl (ov j)).drop t = [] from List.drop_eq_nil_of_le (by omega), na_nl, na_nl, dropc g1]
        · have hsl2 : s = (pl (ov i)).length := by
            have := congrArg Int32.toInt (Classical.not_not.mp w)
            rw [ea, h3] at this
            omega
          obtain ⟨e, n, g1⟩ := getc (A := pl (ov j)) (m := t) (by omega)
          refine ⟨e, n, g1, ?_⟩
          rw [show (pl (ov i)).drop s = [] from List.drop_eq_nil_of_le (by omega), na_nil, na_nil, dropc g1]
      by_cases hsl2 : s < (pl (ov i)).length
      · exact w_X7_summedNaturally_16 (by omega) hs2 ⟨i_Ix ha (by omega), fun _ => mid (Or.inl hsl2), fun w => absurd (i_lt.mpr (by rw [ea, h3]; omega)) w⟩
      · refine w_X7_summedNaturally_16 (by omega) hs2 ⟨i_Ix ha (by omega), fun w => absurd (i_lt.mp w) (by rw [ea, h3]; omega), fun _ => ⟨i_Ix hb (by omega), fun w => ?_, fun w => mid (Or.inr ?_)⟩⟩
        · rw [i_le, eb, h4] at w
          have hL2 : L = naL (pl (ov i)) (pl (ov j)) := by
            rw [← hL, show (pl (ov i)).drop s = [] from List.drop_eq_nil_of_le (by omega), na_nil, List.drop_eq_nil_of_le (by omega), List.append_nil]
          exact t_makes (n := 1) (by omega) hs2 M2 D2 F2 (by rw [hL2]; exact nf_naO hgi.1 hgj.1) hm2 (by rw [hL2]; rfl) (by rw [hL2]; exact Iff.rfl) (Nat.le_refl _) kk
        · rw [i_le, eb, h4] at w
          omega
  refine w_X7_summedNaturally (by omega) hs (fun h1 e1 => ?_)
  obtain ⟨D1, F1⟩ := Dm.zero h m ov
  have M1 := M.zero
  rw [← e1] at D1 F1 M1
  exact loop ((pl (ov i)).length + (pl (ov j)).length) 0 0 _ _ none h1 [] (by omega) (Nat.zero_le _) (Nat.zero_le _) (by rw [k8a]; rfl) (by rw [k8b]; rfl) M1 D1 F1 (Nat.zero_le _) rfl
theorem t_X7_last {a : Int32} {i : Nat} (hd : 21 ≤ d) (hs : Sg h.1 y) (M : Mo h m ov) (ha : a.toInt = i) (hi : i < m) (h0 : ¬ ov i = .leaf) (kk : ∀ r : Int32, r.toInt = (8 * i + ((pl (ov i)).length - 1) : Nat) → K (some (.int r)) h) : Ca d m_X7_last [.ref 77, .int a] h K E := by
  obtain ⟨d, rfl⟩ : ∃ e, d = e + 1 := ⟨d - 1, by omega⟩
  have hm := M.1.2.2
  have s1 := M.2.2.1 i hi
  have li := M.len hi
  have k8a := e8m a ha (by omega)
  obtain ⟨e0, n0, r0, hp⟩ := pl_cons h0
  have h1 : 1 ≤ (pl (ov i)).length := by rw [hp, List.length_cons]; omega
  refine w_X7_last (by omega) hs ⟨i_Ix ha (by omega), kk _ ?_⟩
  have ea : (8 * a + h.2.1 82 (ix a)).toInt = (8 * i + (pl (ov i)).length : Nat) := by rw [i_ix ha, i_add (by rw [k8a, s1]; omega) (by rw [k8a, s1]; omega), k8a, s1]; omega
  rw [i_sub (by rw [ea, i_1]; omega) (by rw [ea, i_1]; omega), ea, i_1]
  omega
theorem t_X7_lessOne {a : Int32} {i : Nat} (hd : 23 ≤ d) (hs : Sg h.1 y) (M : Mo h m ov) (ha : a.toInt = i) (hi : i < m) (h0 : ¬ ov i = .leaf) (kk : ∀ h2, Mo h2 m ov → Dm h2 m ov (lsL (pl (ov i)) 1) → Fmk h h2 → K none h2) : Ca d m_X7_lessOne [.ref 77, .int a] h K E := by
  obtain ⟨d, rfl⟩ : ∃ e, d = e + 1 := ⟨d - 1, by omega⟩
  have hm := M.1.2.2
  have hgi := M.good hi
  have li := M.len hi
  have k8a := e8m a ha (by omega)
  obtain ⟨e0, n0, r0, hp⟩ := pl_cons h0
  have hl1 : 1 ≤ (pl (ov i)).length := by rw [hp, List.length_cons]; omega
  obtain ⟨eL, nL, gL⟩ := getc (A := pl (ov i)) (m := (pl (ov i)).length - 1) (by omega)
  have pos : ∀ (t : Nat) (e : O) (n : Nat), (pl (ov i))[t]? = some (e, n) → 1 ≤ n := fun t e n g => by
    have := nf_srt _ hgi.1
    rw [← List.take_append_drop t (pl (ov i)), dropc g] at this
    exact (srt_app.mp this).2.1.1
  have loop : ∀ (q t : Nat) (l2 : Int32) (u3 u4 : Option Value) (h2 : XH) (L : List OP), q + t = (pl (ov i)).length → l2.toInt = (8 * i + t : Nat) → Mo h2 m ov → Dm h2 m ov L → Fmk h h2 → L = (if t < (pl (ov i)).length then (pl (ov i)).take t else lsL (pl (ov i)) 1) → L.length ≤ t → b_X7_lessOne_10 d 77 a l2 u3 u4 h2 K E := by
    intro q
    induction q with
    | zero =>
      intro t l2 u3 u4 h2 L hq h2' M2 D2 F2 hL hl
      have s2 := M2.2.2.1 i hi
      have ea : (8 * a + h2.2.1 82 (ix a)).toInt = (8 * i + (pl (ov i)).length : Nat) := by rw [i_ix ha, i_add (by rw [k8a, s2]; omega) (by rw [k8a, s2]; omega), k8a, s2]; omega
      rw [if_neg (by omega)] at hL
      exact w_X7_lessOne_10 (by omega) (F2.sg hs) ⟨i_Ix ha (by omega), fun _ => kk h2 M2 (by rw [← hL]; exact D2) F2, fun w => absurd (i_le.mpr (by rw [ea, h2']; omega)) w⟩
    | succ q ih =>
      intro t l2 u3 u4 h2 L hq h2' M2 D2 F2 hL hl
      have s2 := M2.2.2.1 i hi
      have hs2 := F2.sg hs
      have ea : (8 * a + h2.2.1 82 (ix a)).toInt = (8 * i + (pl (ov i)).length : Nat) := by rw [i_ix ha, i_add (by rw [k8a, s2]; omega) (by rw [k8a, s2]; omega), k8a, s2]; omega
      obtain ⟨e, n, g⟩ := getc (A := pl (ov i)) (m := t) (by omega)
      obtain ⟨x1, x2, x3, x4, x5⟩ := M2.pw hi g
      have hn := pos t e n g
      rw [if_pos (by omega)] at hL
      have I2 : Ix l2 16000 := i_Ix h2' (by omega)
      have z80 : h2.2.1 80 (ix l2) = h2.2.1 80 (8 * i + t) := by rw [i_ix h2']
      have z81 : h2.2.1 81 (ix l2) = h2.2.1 81 (8 * i + t) := by rw [i_ix h2']
      have nx : (l2 + 1).toInt = (8 * i + (t + 1) : Nat) := by rw [i_add (by rw [i_1]; omega) (by rw [i_1]; omega), h2', i_1]; omega
      refine w_X7_lessOne_10 (by omega) hs2 ⟨i_Ix ha (by omega), fun w => absurd (i_le.mp w) (by rw [ea, h2']; omega), fun _ => ?_⟩
      refine t_X7_last (i := i) (by omega) hs2 M2 ha hi h0 (fun r hr => ⟨r, rfl, hs2, fun w => ⟨I2, ?_⟩, fun w => ⟨I2, ?_⟩⟩)
      · have hlt : t ≠ (pl (ov i)).length - 1 := fun v => w (Int32.toInt_inj.mp (by rw [h2', hr, v]))
        rw [z81]
        refine w_X7_lessOne_53 (by omega) hs2 ⟨fun v => ?_, fun _ => ⟨I2, ?_⟩⟩
        · rw [j_le, i_2j, x5] at v
          have : (0 : Int64).toInt = 0 := rfl
          omega
        · rw [z80]
          refine t_X7_adds (n := n) (by omega) hs2 D2 (by omega) x4 (by omega) x3 (by rw [i_2j]; exact x5) (fun h3 D3 F3 a3 b3 => ⟨rfl, F3.sg hs2, w_X7_lessOne_71 (by omega) (F3.sg hs2) (ih (t + 1) _ _ _ h3 _ (by omega) nx (M2.add a3 b3) D3 (F2.tr F3) ?_ (by rw [List.length_append]; simp only [List.length_singleton]; omega))⟩)
          rw [if_pos (by omega), hL, takec g]
      · have hlt : t = (pl (ov i)).length - 1 := by
          have := congrArg Int32.toInt (Classical.not_not.mp w)
          rw [h2', hr] at this
          omega
        rw [z81]
        have nm : ((h2.2.1 81 (8 * i + t) - 1).toInt64).toInt = (n - 1 : Nat) := by
          have := i_hi (h2.2.1 81 (8 * i + t))
          rw [i_2j, i_sub (by rw [i_1]; omega) (by rw [i_1]; omega), x5, i_1]; omega
        have els : lsL (pl (ov i)) 1 = (pl (ov i)).take t ++ (if 1 < n then [(e, n - 1)] else []) := by
          rw [lsL_eq (show (pl (ov i))[(pl (ov i)).length - 1]? = some (e, n) by rw [← hlt]; exact g), ← hlt]
        have j0 : (0 : Int64).toInt = 0 := rfl
        refine w_X7_lessOne_53 (by omega) hs2 ⟨fun v => ?_, fun v => ⟨I2, ?_⟩⟩
        · rw [j_le, nm, j0] at v
          refine w_X7_lessOne_71 (by omega) hs2 (ih (t + 1) _ _ _ h2 L (by omega) nx M2 D2 F2 ?_ (by omega))
          rw [if_neg (by omega), els, if_neg (by omega), List.append_nil]
          exact hL
        · rw [j_le, nm, j0] at v
          rw [z80]
          refine t_X7_adds (n := n - 1) (by omega) hs2 D2 (by omega) x4 (by omega) x3 nm (fun h3 D3 F3 a3 b3 => ⟨rfl, F3.sg hs2, w_X7_lessOne_71 (by omega) (F3.sg hs2) (ih (t + 1) _ _ _ h3 _ (by omega) nx (M2.add a3 b3) D3 (F2.tr F3) ?_ (by rw [List.length_append]; simp only [List.length_singleton]; omega))⟩)
          rw [if_neg (by omega), els, if_pos (by omega), hL]
  refine w_X7_lessOne (by omega) hs (fun h1 e1 => ?_)
  obtain ⟨D1, F1⟩ := Dm.zero h m ov
  have M1 := M.zero
  rw [← e1] at D1 F1 M1
  exact loop _ 0 _ none none h1 [] (Nat.add_zero _) (by rw [k8a]; rfl) M1 D1 F1 (by rw [if_pos (by omega)]; rfl) (Nat.le_refl _)
theorem t_X7_finiteOne {a : Int32} {n : Nat} (hd : 25 ≤ d) (hs : Sg h.1 y) (M : Mo h m ov) (ha : a.toInt = n) (hn : n ≤ 1000000) (hm2 : m < 2000) (kk : Km 1 h m ov True (mk (if 0 < n then [(.leaf, n)] else [])) K) : Ca d m_X7_finiteOne [.ref 77, .int a] h K E := by
  obtain ⟨d, rfl⟩ : ∃ e, d = e + 1 := ⟨d - 1, by omega⟩
  have hm := M.1.2.1
  refine w_X7_finiteOne (by omega) hs (fun h1 e1 => ?_)
  obtain ⟨D1, F1⟩ := Dm.zero h m ov
  have M1 := M.zero
  rw [← e1] at D1 F1 M1
  have hs1 := F1.sg hs
  refine ⟨fun z => ?_, fun z => ?_⟩
  · rw [i_le, ha, i_0] at z
    rw [if_neg (by omega)] at kk
    exact w_X7_finiteOne_16 (by omega) hs1 (t_makes (n := 1) (by omega) hs1 M1 D1 F1 trivial hm2 rfl ⟨fun _ => trivial, fun _ => ⟨Nat.zero_le _, (fun p hp => absurd hp List.not_mem_nil), Nat.zero_le _⟩⟩ (Nat.le_refl _) kk)
  · rw [i_le, ha, i_0] at z
    rw [if_pos (by omega)] at kk
    refine t_X7_adds (n := n) (x := .leaf) (j := 0) (by omega) hs1 D1 (by simp) rfl (by omega) M.2.1 (by rw [i_2j]; exact ha) (fun h3 D3 F3 a3 b3 => ⟨rfl, F3.sg hs1, w_X7_finiteOne_16 (by omega) (F3.sg hs1) (t_makes (n := 1) (by omega) (F3.sg hs1) (M1.add a3 b3) D3 (F1.tr F3) ⟨by omega, top_nil _, trivial, trivial⟩ hm2 rfl ⟨fun _ => trivial, fun _ => ⟨(show 1 ≤ 8 by omega), fun p hp => ?_, (show max (0 + 1) 0 ≤ 5 by omega)⟩⟩ (Nat.le_refl _) kk)⟩)
    have : p = (.leaf, n) := List.mem_singleton.mp hp
    rw [this]
    exact hn
end
