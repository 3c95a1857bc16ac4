/-! ===== layer 2: the model's growths: all joined, multiplied, derived, laid ===== -/
theorem lvl_i : lvl.toInt = 12928480800 := rfl
theorem i20 {a : Int32} {p : Nat} (ha : a.toInt = p) (hp : p < 16) : (20 * a).toInt = (20 * p : Nat) := by
  have e20 : (20 : Int32).toInt = 20 := rfl
  rw [i_mul (by rw [e20, ha]; omega) (by rw [e20, ha]; omega), e20, ha]
  omega
theorem i20k {a b : Int32} {p k : Nat} (ha : a.toInt = p) (hp : p < 16) (hb : b.toInt = k) (hk : k ≤ 1000) : (20 * a + b).toInt = (20 * p + k : Nat) := by
  have := i20 ha hp
  rw [i_add (by omega) (by omega), this, hb]
  omega
theorem gmk_edl (w : Nat) (e : GE) : gmk (edl w e) = gmk e - ((if 2 ≤ w then 160801 else 0) + (if 3 ≤ w then 401 else 0) + (if 4 ≤ w then 1 else 0)) := by
  unfold gmk edl
  dsimp only
  split <;> split <;> split <;> omega
section
variable {d : Nat} {h : XH} {y : Nat → Nat} {S : XS} {K : XK} {E : XE}
theorem MI.fg {h2 : XH} (I : MI h S) (F : Fg h h2) : MI h2 S ∧ FM h h2 ∧ h2.2.1 77 0 = h.2.1 77 0 := by
  obtain ⟨m, om, I1, I2, I3⟩ := I
  obtain ⟨f1, f2, f3, f4, f5⟩ := id F
  refine ⟨⟨m, om, I1.fr (f4 7 (by omega)) (fun r a b => f3 r (by omega)), I2.fr (f3 78 (by omega)) (f3 79 (by omega)) (Nat.le_refl _) (fun _ _ => rfl), fun p hp => ?_⟩, ⟨f1, f2, fun r hr => ⟨f3 r (by omega), f5 r (by omega) (by omega)⟩⟩, f4 0 (by omega)⟩
  obtain ⟨p1, p2, p3⟩ := I3 p hp
  rw [f3 78 (by omega), f3 79 (by omega)]
  exact ⟨p1, p2, fun z => (p3 z).fg F⟩
/-- a growth laid -/
theorem MI.gr {h2 : XH} {p : Nat} {L : GL} (I : MI h S) (hp : p < 16) (e1 : h2.1 = h.1) (e2 : h2.2.2.2 = h.2.2.2) (fi : ∀ r, r ≠ 78 → r ≠ 79 → r ≠ 91 → h2.2.1 r = h.2.1 r) (fj : ∀ r, r ≠ 90 → h2.2.2.1 r = h.2.2.1 r) (f78 : ∀ q, h2.2.1 78 q = if q = p then 3 else h.2.1 78 q) (f79 : ∀ q, q ≠ p → h2.2.1 79 q = h.2.1 79 q) (fo : ∀ q, q ≠ p → ∀ k, k < 20 → h2.2.2.1 90 (20 * q + k) = h.2.2.1 90 (20 * q + k) ∧ h2.2.1 91 (20 * q + k) = h.2.1 91 (20 * q + k)) (G : Gm h2 p L) : MI h2 (sG S p L) ∧ FM h h2 ∧ h2.2.1 77 0 = h.2.1 77 0 := by
  obtain ⟨m, om, I1, I2, I3⟩ := I
  refine ⟨⟨m, om, I1.fr (by rw [fi 77 (by omega) (by omega) (by omega)]) (fun r a b => fi r (by omega) (by omega) (by omega)), fun q hq hk => ?_, fun q hq => ?_⟩, ⟨e1, e2, fun r hr => ⟨fi r (by omega) (by omega) (by omega), fj r (by omega)⟩⟩, by rw [fi 77 (by omega) (by omega) (by omega)]⟩
  · rw [f78] at hk
    by_cases z : q = p
    · rw [if_pos z] at hk; exact absurd hk (by decide)
    · rw [if_neg z] at hk
      rw [f79 q z]
      exact I2 q hq hk
  · show h2.2.1 78 q = upw S.1 p 3 q ∧ (upw S.1 p 3 q = 2 → (h2.2.1 79 q).toInt = S.2.2.1 q) ∧ (upw S.1 p 3 q = 3 → Gm h2 q (upw S.2.2.2 p L q))
    rw [f78]
    by_cases z : q = p
    · rw [if_pos z, z, upw_e, upw_e]
      exact ⟨rfl, fun w => absurd w (by decide), fun _ => G⟩
    · rw [if_neg z, upw_n _ _ z, upw_n _ _ z, f79 q z]
      obtain ⟨p1, p2, p3⟩ := I3 q hq
      refine ⟨p1, p2, fun w => ?_⟩
      obtain ⟨g1, g2, g3⟩ := p3 w
      refine ⟨by rw [f79 q z]; exact g1, g2, fun k e n hk => ?_⟩
      have hkl := (List.getElem?_eq_some_iff.mp hk).1
      rw [(fo q z k (by omega)).1, (fo q z k (by omega)).2]
      exact g3 k e n hk
theorem t_X7_laysGrowth {a : Int32} {p : Nat} {L : GL} (hd : 23 ≤ d) (hs : Sg h.1 y) (I : MI h S) (ha : a.toInt = p) (hp : p < 16) (M : Mm h L) (f : gfit L) (kk : ∀ h2, MI h2 (sG S p L) → FM h h2 → h2.2.1 77 0 = h.2.1 77 0 → K none h2) : Ca d m_X7_laysGrowth [.ref 77, .int a] h K E := by
  obtain ⟨d, rfl⟩ : ∃ e, d = e + 1 := ⟨d - 1, by omega⟩
  obtain ⟨M1, M2, M3⟩ := M
  have l20 := f.1
  refine w_X7_laysGrowth (by omega) hs (t_X7_lays (by omega) hs ha hp (fun h1 e1 => ?_))
  have hs1 : Sg h1.1 y := by rw [e1]; exact hs
  have a78 : ∀ q, h1.2.1 78 q = if q = p then 3 else h.2.1 78 q := fun q => by
    rw [e1, sI_nq _ _ (by omega)]
    by_cases z : q = p
    · rw [if_pos z, z, sI_eq]
    · rw [if_neg z, sI_ne _ _ z]
  have a79 : ∀ q, h1.2.1 79 q = if q = p then h.2.1 77 20 else h.2.1 79 q := fun q => by
    rw [e1]
    by_cases z : q = p
    · rw [if_pos z, z, sI_eq]
    · rw [if_neg z, sI_ne _ _ z, sI_nq _ _ (by omega)]
  have ai : ∀ r, r ≠ 78 → r ≠ 79 → h1.2.1 r = h.2.1 r := fun r b c => by rw [e1, sI_nq _ _ c, sI_nq _ _ b]
  have aj : h1.2.2.1 = h.2.2.1 := by rw [e1]; rfl
  refine ⟨rfl, hs1, ?_⟩
  have loop : ∀ (q s : Nat) (l2 : Int32) (h2 : XH), q + s = L.length → l2.toInt = s → h2.1 = h1.1 → h2.2.2.2 = h1.2.2.2 → (∀ r, r ≠ 91 → h2.2.1 r = h1.2.1 r) → (∀ r, r ≠ 90 → h2.2.2.1 r = h1.2.2.1 r) → (∀ i, i < 20 * p ∨ 20 * p + 20 ≤ i → h2.2.2.1 90 i = h1.2.2.1 90 i ∧ h2.2.1 91 i = h1.2.1 91 i) → (∀ (k : Nat) (e : GE) (n : Int), k < s → L[k]? = some (e, n) → (h2.2.2.1 90 (20 * p + k)).toInt = gmk e ∧ (h2.2.1 91 (20 * p + k)).toInt = n) → b_X7_laysGrowth_12 d 77 a l2 h2 K E := by
    intro q
    induction q with
    | zero =>
      intro s l2 h2 hq h2' f1 f2 f3 f4 f5 f6
      have hs2 : Sg h2.1 y := by rw [f1]; exact hs1
      have c20 : h2.2.1 77 20 = h.2.1 77 20 := by rw [f3 77 (by omega), ai 77 (by omega) (by omega)]
      refine w_X7_laysGrowth_12 (by omega) hs2 ⟨fun _ => ?_, fun z => absurd (i_le.mpr (by rw [c20]; omega)) z⟩
      obtain ⟨x1, x2, x3⟩ := I.gr (h2 := h2) (p := p) (L := L) hp (by rw [f1, e1]; rfl) (by rw [f2, e1]; rfl) (fun r b c g => by rw [f3 r g, ai r b c]) (fun r b => by rw [f4 r b, aj]) (fun q => by rw [f3 78 (by omega), a78]) (fun q z => by rw [f3 79 (by omega), a79, if_neg z]) (fun q z k hk => by rw [(f5 (20 * q + k) (by omega)).1, (f5 (20 * q + k) (by omega)).2, aj, ai 91 (by omega) (by omega)]; exact ⟨rfl, rfl⟩) ⟨by rw [f3 79 (by omega), a79, if_pos rfl]; exact M1, l20, fun k e n hk => f6 k e n (by have := (List.getElem?_eq_some_iff.mp hk).1; omega) hk⟩
      exact kk h2 x1 x2 x3
    | succ q ih =>
      intro s l2 h2 hq h2' f1 f2 f3 f4 f5 f6
      have hs2 : Sg h2.1 y := by rw [f1]; exact hs1
      have c20 : h2.2.1 77 20 = h.2.1 77 20 := by rw [f3 77 (by omega), ai 77 (by omega) (by omega)]
      have nx : (l2 + 1).toInt = (s + 1 : Nat) := by rw [i_add (by rw [i_1]; omega) (by rw [i_1]; omega), h2', i_1]; rfl
      have hx := i20k ha hp h2' (by omega)
      obtain ⟨e, t, g⟩ := gget (A := L) (m := s) (by omega)
      obtain ⟨v1, v2⟩ := M3 s e t g
      have ft := (f.2 _ (List.mem_of_getElem? g)).1
      dsimp only at ft
      refine w_X7_laysGrowth_12 (by omega) hs2 ⟨fun z => absurd (i_le.mp z) (by rw [c20]; omega), fun _ => ⟨i_Ix h2' (by omega), i_Ix hx (by omega), fun h3 e3 => ⟨i_Ix h2' (by omega), i_Ix hx (by omega), fun h4 e4 => ?_⟩⟩⟩
      rw [i_ix h2', i_ix hx] at e3 e4
      have c93 : h3.2.2.1 93 = h.2.2.1 93 := by rw [e3, sJ_nq _ _ (by omega), f4 93 (by omega), aj]
      rw [c93] at e4
      have d90 : ∀ i, h4.2.2.1 90 i = if i = 20 * p + s then h2.2.2.1 92 s else h2.2.2.1 90 i := fun i => by
        rw [e4]
        show h3.2.2.1 90 i = _
        rw [e3]
        by_cases w : i = 20 * p + s
        · rw [if_pos w, w, sJ_eq]
        · rw [if_neg w, sJ_ne _ _ w]
      have d91 : ∀ i, h4.2.1 91 i = if i = 20 * p + s then (h.2.2.1 93 s).toInt32 else h2.2.1 91 i := fun i => by
        rw [e4]
        by_cases w : i = 20 * p + s
        · rw [if_pos w, w, sI_eq]
        · rw [if_neg w, sI_ne _ _ w, e3]; rfl
      refine ih (s + 1) (l2 + 1) h4 (by omega) nx (by rw [e4]; show h3.1 = _; rw [e3]; exact f1) (by rw [e4]; show h3.2.2.2 = _; rw [e3]; exact f2) (fun r hr => by rw [e4, sI_nq _ _ hr, e3]; exact f3 r hr) (fun r hr => by rw [e4]; show h3.2.2.1 r = _; rw [e3, sJ_nq _ _ hr]; exact f4 r hr) (fun i hi => ?_) (fun k f n hk hf => ?_)
      · rw [d90, d91, if_neg (by omega), if_neg (by omega)]
        exact f5 i hi
      · rw [d90, d91]
        by_cases w : k = s
        · rw [w] at hf ⊢
          rw [g] at hf
          cases hf
          rw [if_pos rfl, if_pos rfl, f4 92 (by omega), aj, j_to32 (by rw [v2]; omega)]
          exact ⟨v1, v2⟩
        · rw [if_neg (by omega), if_neg (by omega)]
          exact f6 k f n (by omega) hf
  exact loop L.length 0 0 h1 (Nat.add_zero _) rfl rfl rfl (fun _ _ => rfl) (fun _ _ => rfl) (fun _ _ => ⟨rfl, rfl⟩) (fun k e n hk => absurd hk (by omega))
theorem t_X7_joinsAll {a s : Int32} {p : Nat} {A L : GL} {si bb : Int} (hd : 23 ≤ d) (hs : Sg h.1 y) (ha : a.toInt = p) (hp : p < 16) (hsi : s.toInt = si) (h1s : si = 1 ∨ si = -1) (G : Gm h p A) (oA : gok A) (M : Mm h L) (sL : gs L) (dL : gD L) (bL : gB bb L) (h0 : 0 ≤ bb) (hbb : bb + 2000000000 ≤ 4611686018427387904) (hl : L.length + A.length ≤ 400) (kk : ∀ h2, Mm h2 (gja si A L) → Fg h h2 → gs (gja si A L) → gD (gja si A L) → (gja si A L).length ≤ L.length + A.length → gB (bb + 2000000000) (gja si A L) → K none h2) : Ca d m_X7_joinsAll [.ref 77, .int a, .int s] h K E := by
  obtain ⟨d, rfl⟩ : ∃ e, d = e + 1 := ⟨d - 1, by omega⟩
  have l20 := oA.2.2.1
  have loop : ∀ (q k : Nat) (l3 : Int32) (L1 : GL) (h1 : XH), q + k = A.length → l3.toInt = (20 * p + k : Nat) → Fg h h1 → Mm h1 L1 → gs L1 → gD L1 → L1.length ≤ L.length + k → gB (bb + 100000000 * (k : Int)) L1 → gja si (A.drop k) L1 = gja si A L → b_X7_joinsAll_5 d 77 a s l3 h1 K E := by
    intro q
    induction q with
    | zero =>
      intro k l3 L1 h1 hq h3 F1 M1 s1 d1 n1 b1 e1
      have hs1 := F1.sg hs
      have g1 := (G.fg F1).1
      have hb := i20k ha hp g1 (by omega)
      rw [List.drop_eq_nil_of_le (by omega)] at e1
      have e2 : L1 = gja si A L := e1
      refine w_X7_joinsAll_5 (by omega) hs1 ⟨i_Ix ha hp, fun _ => ?_, fun z => absurd (i_le.mpr (by rw [i_ix ha]; omega)) z⟩
      rw [← e2] at kk
      exact kk h1 M1 F1 s1 d1 (by omega) (gB_le b1 (by omega))
    | succ q ih =>
      intro k l3 L1 h1 hq h3 F1 M1 s1 d1 n1 b1 e1
      have hs1 := F1.sg hs
      have gg := G.fg F1
      have hb := i20k ha hp gg.1 (by omega)
      obtain ⟨e, t, g⟩ := gget (A := A) (m := k) (by omega)
      have hm := List.mem_of_getElem? g
      obtain ⟨v1, v2⟩ := gg.2.2 k e t g
      have bt := oA.B _ hm
      have de := oA.D _ hm
      dsimp only at bt de
      rw [gdrop g] at e1
      have nx : (l3 + 1).toInt = (20 * p + (k + 1) : Nat) := by rw [i_add (by rw [i_1]; omega) (by rw [i_1]; omega), h3, i_1]; omega
      refine w_X7_joinsAll_5 (by omega) hs1 ⟨i_Ix ha hp, fun z => absurd (i_le.mp z) (by rw [i_ix ha]; omega), fun _ => ⟨i_Ix h3 (by omega), i_Ix h3 (by omega), ?_⟩⟩
      rw [i_ix h3]
      have st : -100000000 ≤ si * t ∧ si * t ≤ 100000000 := by rcases h1s with z | z <;> rw [z] <;> omega
      have vt : (s.toInt64 * (h1.2.1 91 (20 * p + k)).toInt64).toInt = si * t := by rw [j_mul (by rw [i_2j, i_2j, hsi, v2]; omega) (by rw [i_2j, i_2j, hsi, v2]; omega), i_2j, i_2j, hsi, v2]
      refine t_X7_joins (e := e) (n := si * t) (bb := bb + 100000000 * (k : Int)) (g := 100000000) (by omega) hs1 M1 s1 d1 (by omega) de v1 vt b1 st (by omega) (by omega) (fun h2 M2 F2 => ⟨rfl, F2.sg hs1, ih (k + 1) (l3 + 1) _ h2 (by omega) nx (F1.tr F2) M2 (gs_gin de s1 d1) (gD_gin de d1) ?_ (gB_le (gB_gin st (by omega) b1) (by omega)) e1⟩)
      have := len_gin e (si * t) L1
      omega
  refine w_X7_joinsAll (by omega) hs (loop A.length 0 _ L h (Nat.add_zero _) (i20 ha hp) (Fg.rf _) M sL dL (Nat.le_refl _) (gB_le bL (by omega)) rfl)
theorem Mm.z (h : XH) : Mm (x_setI h 77 20 0) [] := ⟨by rw [sI_eq]; rfl, by decide, fun k e n hk => by cases hk⟩
theorem t_X7_joinsBoth {a b s : Int32} {p r : Nat} {A B : GL} {si : Int} (hd : 25 ≤ d) (hs : Sg h.1 y) (ha : a.toInt = p) (hp : p < 16) (hb : b.toInt = r) (hr : r < 16) (hsi : s.toInt = si) (h1s : si = 1 ∨ si = -1) (GA : Gm h p A) (oA : gok A) (GB : Gm h r B) (oB : gok B) (k1 : gfit (gnz (gsm A B si)) → ∀ h2, Mm h2 (gnz (gsm A B si)) → Fg h h2 → K (some (.int 1)) h2) (k0 : ¬ gfit (gnz (gsm A B si)) → ∀ h2, Mm h2 (gnz (gsm A B si)) → Fg h h2 → K (some (.int 0)) h2) : Ca d m_X7_joinsBoth [.ref 77, .int a, .int b, .int s] h K E := by
  obtain ⟨d, rfl⟩ : ∃ e, d = e + 1 := ⟨d - 1, by omega⟩
  have lA := oA.2.2.1
  have lB := oB.2.2.1
  refine w_X7_joinsBoth (by omega) hs (fun h1 e1 => ?_)
  have F1 : Fg h h1 := Fg.ei e1
  have M1 := Mm.z h
  rw [← e1] at M1
  refine t_X7_joinsAll (bb := 0) (by omega) (F1.sg hs) ha hp i_1 (Or.inl rfl) (GA.fg F1) oA M1 trivial (fun p hp => absurd hp List.not_mem_nil) (fun p hp => absurd hp List.not_mem_nil) (by omega) (by omega) (by show 0 + A.length ≤ 400; omega) (fun h2 M2 F2 s2 d2 n2 b2 => ⟨rfl, F2.sg (F1.sg hs), ?_⟩)
  have n2' : (gja 1 A []).length ≤ 0 + A.length := n2
  refine t_X7_joinsAll (bb := 0 + 2000000000) (by omega) (F2.sg (F1.sg hs)) hb hr hsi h1s ((GB.fg F1).fg F2) oB M2 s2 d2 b2 (by omega) (by omega) (by omega) (fun h3 M3 F3 s3 d3 n3 b3 => ⟨rfl, F3.sg (F2.sg (F1.sg hs)), ?_⟩)
  exact t_X7_fits (by omega) (F3.sg (F2.sg (F1.sg hs))) M3 d3 (fun f h4 M4 F4 => ⟨1, rfl, F4.sg (F3.sg (F2.sg (F1.sg hs))), Or.inr rfl, k1 f h4 M4 (((F1.tr F2).tr F3).tr F4)⟩) (fun f h4 M4 F4 => ⟨0, rfl, F4.sg (F3.sg (F2.sg (F1.sg hs))), Or.inl rfl, k0 f h4 M4 (((F1.tr F2).tr F3).tr F4)⟩)
theorem t_X7_multiplies {a b : Int32} {p r : Nat} {A B : GL} (hd : 25 ≤ d) (hs : Sg h.1 y) (ha : a.toInt = p) (hp : p < 16) (hb : b.toInt = r) (hr : r < 16) (GA : Gm h p A) (oA : gok A) (GB : Gm h r B) (oB : gok B) (k1 : gfit (gnz (gmu B A [])) → ∀ h2, Mm h2 (gnz (gmu B A [])) → Fg h h2 → K (some (.int 1)) h2) (k0 : ¬ gfit (gnz (gmu B A [])) → ∀ h2, Mm h2 (gnz (gmu B A [])) → Fg h h2 → K (some (.int 0)) h2) : Ca d m_X7_multiplies [.ref 77, .int a, .int b] h K E := by
  obtain ⟨d, rfl⟩ : ∃ e, d = e + 1 := ⟨d - 1, by omega⟩
  have lA := oA.2.2.1
  have lB := oB.2.2.1
  have outer : ∀ (q k : Nat) (l3 : Int32) (u4 : Option Value) (L1 : GL) (h1 : XH), q + k = A.length → l3.toInt = (20 * p + k : Nat) → Fg h h1 → Mm h1 L1 → gs L1 → gD L1 → L1.length ≤ 20 * k → gB (200000000000000000 * (k : Int)) L1 → gmu B (A.drop k) L1 = gmu B A [] → b_X7_multiplies_10 d 77 a b l3 u4 h1 K E := by
    intro q
    induction q with
    | zero =>
      intro k l3 u4 L1 h1 hq h3 F1 M1 s1 d1 n1 b1 e1
      have hs1 := F1.sg hs
      have g1 := (GA.fg F1).1
      have hbb := i20k ha hp g1 (by omega)
      rw [List.drop_eq_nil_of_le (by omega)] at e1
      have e2 : L1 = gmu B A [] := e1
      refine w_X7_multiplies_10 (by omega) hs1 ⟨i_Ix ha hp, fun _ => ?_, fun z => absurd (i_le.mpr (by rw [i_ix ha]; omega)) z⟩
      rw [← e2] at k1 k0
      exact t_X7_fits (by omega) hs1 M1 d1 (fun f h4 M4 F4 => ⟨1, rfl, F4.sg hs1, Or.inr rfl, k1 f h4 M4 (F1.tr F4)⟩) (fun f h4 M4 F4 => ⟨0, rfl, F4.sg hs1, Or.inl rfl, k0 f h4 M4 (F1.tr F4)⟩)
    | succ q ih =>
      intro k l3 u4 L1 h1 hq h3 F1 M1 s1 d1 n1 b1 e1
      have hs1 := F1.sg hs
      have gg := GA.fg F1
      have hbb := i20k ha hp gg.1 (by omega)
      obtain ⟨e, t, g⟩ := gget (A := A) (m := k) (by omega)
      have hm := List.mem_of_getElem? g
      obtain ⟨v1, v2⟩ := gg.2.2 k e t g
      have bt := oA.B _ hm
      have e9 := (oA.2.2.2 _ hm).2
      have pb := gmk_b (oA.D _ hm)
      dsimp only at bt e9 pb
      rw [gdrop g] at e1
      have e1' : gmu B (A.drop (k + 1)) (gmi (e, t) B L1) = gmu B A [] := e1
      have nx : (l3 + 1).toInt = (20 * p + (k + 1) : Nat) := by rw [i_add (by rw [i_1]; omega) (by rw [i_1]; omega), h3, i_1]; omega
      have inner : ∀ (q2 m : Nat) (l4 : Int32) (L2 : GL) (h2 : XH), q2 + m = B.length → l4.toInt = (20 * r + m : Nat) → Fg h h2 → Mm h2 L2 → gs L2 → gD L2 → L2.length ≤ 20 * k + m → gB (200000000000000000 * (k : Int) + 10000000000000000 * (m : Int)) L2 → gmi (e, t) (B.drop m) L2 = gmi (e, t) B L1 → b_X7_multiplies_31 d 77 a b l3 l4 h2 K E := by
        intro q2
        induction q2 with
        | zero =>
          intro m l4 L2 h2 hq2 h4 F2 M2 s2 d2 n2 b2 e2
          have hs2 := F2.sg hs
          have g2 := (GB.fg F2).1
          have hb2 := i20k hb hr g2 (by omega)
          rw [List.drop_eq_nil_of_le (by omega)] at e2
          have e3 : L2 = gmi (e, t) B L1 := e2
          refine w_X7_multiplies_31 (by omega) hs2 ⟨i_Ix hb hr, fun _ => ?_, fun z => absurd (i_le.mpr (by rw [i_ix hb]; omega)) z⟩
          exact ih (k + 1) (l3 + 1) _ L2 h2 (by omega) nx F2 M2 s2 d2 (by omega) (gB_le b2 (by omega)) (by rw [e3]; exact e1')
        | succ q2 ih2 =>
          intro m l4 L2 h2 hq2 h4 F2 M2 s2 d2 n2 b2 e2
          have hs2 := F2.sg hs
          have gb := GB.fg F2
          have ga := GA.fg F2
          have hb2 := i20k hb hr gb.1 (by omega)
          obtain ⟨f, u, g2⟩ := gget (A := B) (m := m) (by omega)
          have hm2 := List.mem_of_getElem? g2
          obtain ⟨w1, w2⟩ := gb.2.2 m f u g2
          obtain ⟨v1, v2⟩ := ga.2.2 k e t g
          have bu := oB.B _ hm2
          have f9 := (oB.2.2.2 _ hm2).2
          have pb2 := gmk_b (oB.D _ hm2)
          dsimp only at bu f9 pb2
          rw [gdrop g2] at e2
          have e2' : gmi (e, t) (B.drop (m + 1)) (gin (ead e f) (t * u) L2) = gmi (e, t) B L1 := e2
          have hE := ead_E e9 f9
          have nx4 : (l4 + 1).toInt = (20 * r + (m + 1) : Nat) := by rw [i_add (by rw [i_1]; omega) (by rw [i_1]; omega), h4, i_1]; omega
          refine w_X7_multiplies_31 (by omega) hs2 ⟨i_Ix hb hr, fun z => absurd (i_le.mp z) (by rw [i_ix hb]; omega), fun _ => ⟨i_Ix h3 (by omega), i_Ix h4 (by omega), i_Ix h3 (by omega), i_Ix h4 (by omega), ?_⟩⟩
          rw [i_ix h3, i_ix h4]
          have st : -10000000000000000 ≤ t * u ∧ t * u ≤ 10000000000000000 := by
            have h1 : t.natAbs * u.natAbs ≤ 100000000 * 100000000 := Nat.mul_le_mul (by omega) (by omega)
            have h2 : (t * u).natAbs = t.natAbs * u.natAbs := Int.natAbs_mul _ _
            omega
          have vt : ((h2.2.1 91 (20 * p + k)).toInt64 * (h2.2.1 91 (20 * r + m)).toInt64).toInt = t * u := by rw [j_mul (by rw [i_2j, i_2j, v2, w2]; omega) (by rw [i_2j, i_2j, v2, w2]; omega), i_2j, i_2j, v2, w2]
          have vs : (h2.2.2.1 90 (20 * p + k) + h2.2.2.1 90 (20 * r + m)).toInt = gmk e + gmk f := by rw [j_add (by rw [v1, w1]; omega) (by rw [v1, w1]; omega), v1, w1]
          have vp : (h2.2.2.1 90 (20 * p + k) + h2.2.2.1 90 (20 * r + m) - lvl).toInt = gmk (ead e f) := by rw [j_sub (by rw [vs, lvl_i]; omega) (by rw [vs, lvl_i]; omega), vs, lvl_i, gmk_ead]
          refine t_X7_joins (e := ead e f) (n := t * u) (bb := 200000000000000000 * (k : Int) + 10000000000000000 * (m : Int)) (g := 10000000000000000) (by omega) hs2 M2 s2 d2 (by omega) hE vp vt b2 st (by omega) (by omega) (fun h5 M5 F5 => ⟨rfl, F5.sg hs2, ih2 (m + 1) (l4 + 1) _ h5 (by omega) nx4 (F2.tr F5) M5 (gs_gin hE s2 d2) (gD_gin hE d2) ?_ (gB_le (gB_gin st (by omega) b2) (by omega)) e2'⟩)
          have := len_gin (ead e f) (t * u) L2
          omega
      refine w_X7_multiplies_10 (by omega) hs1 ⟨i_Ix ha hp, fun z => absurd (i_le.mp z) (by rw [i_ix ha]; omega), fun _ => inner B.length 0 _ L1 h1 (Nat.add_zero _) (i20 hb hr) F1 M1 s1 d1 (by omega) (gB_le b1 (by omega)) rfl⟩
  refine w_X7_multiplies (by omega) hs (fun h1 e1 => ?_)
  have F1 : Fg h h1 := Fg.ei e1
  have M1 := Mm.z h
  rw [← e1] at M1
  exact outer A.length 0 _ _ [] h1 (Nat.add_zero _) (i20 ha hp) F1 M1 trivial (fun p hp => absurd hp List.not_mem_nil) (Nat.zero_le _) (fun p hp => absurd hp List.not_mem_nil) rfl
/-- the first i slopes of a part joined -/
def gdk (p : GE × Int) : Nat → GL → GL
  | 0, L => L
  | i + 1, L => gin (edl (i + 1) p.1) (p.2 * gex (i + 1) p.1) (gdk p i L)
theorem t_X7_derives {a : Int32} {p : Nat} {A : GL} (hd : 25 ≤ d) (hs : Sg h.1 y) (ha : a.toInt = p) (hp : p < 16) (GA : Gm h p A) (oA : gok A) (k1 : gfit (gnz (gdv A [])) → ∀ h2, Mm h2 (gnz (gdv A [])) → Fg h h2 → K (some (.int 1)) h2) (k0 : ¬ gfit (gnz (gdv A [])) → ∀ h2, Mm h2 (gnz (gdv A [])) → Fg h h2 → K (some (.int 0)) h2) : Ca d m_X7_derives [.ref 77, .int a] h K E := by
  obtain ⟨d, rfl⟩ : ∃ e, d = e + 1 := ⟨d - 1, by omega⟩
  have lA := oA.2.2.1
  have e5 : (5 : Int32).toInt = 5 := rfl
  have outer : ∀ (q k : Nat) (l2 : Int32) (u3 u4 u5 : Option Value) (L1 : GL) (h1 : XH), q + k = A.length → l2.toInt = (20 * p + k : Nat) → Fg h h1 → Mm h1 L1 → gs L1 → gD L1 → L1.length ≤ 4 * k → gB (40000000000 * (k : Int)) L1 → gdv (A.drop k) L1 = gdv A [] → b_X7_derives_10 d 77 a l2 u3 u4 u5 h1 K E := by
    intro q
    induction q with
    | zero =>
      intro k l2 u3 u4 u5 L1 h1 hq h3 F1 M1 s1 d1 n1 b1 e1
      have hs1 := F1.sg hs
      have g1 := (GA.fg F1).1
      have hbb := i20k ha hp g1 (by omega)
      rw [List.drop_eq_nil_of_le (by omega)] at e1
      have e2 : L1 = gdv A [] := e1
      refine w_X7_derives_10 (by omega) hs1 ⟨i_Ix ha hp, fun _ => ?_, fun z => absurd (i_le.mpr (by rw [i_ix ha]; omega)) z⟩
      rw [← e2] at k1 k0
      exact t_X7_fits (by omega) hs1 M1 d1 (fun f h4 M4 F4 => ⟨1, rfl, F4.sg hs1, Or.inr rfl, k1 f h4 M4 (F1.tr F4)⟩) (fun f h4 M4 F4 => ⟨0, rfl, F4.sg hs1, Or.inl rfl, k0 f h4 M4 (F1.tr F4)⟩)
    | succ q ih =>
      intro k l2 u3 u4 u5 L1 h1 hq h3 F1 M1 s1 d1 n1 b1 e1
      have hs1 := F1.sg hs
      have gg := GA.fg F1
      have hbb := i20k ha hp gg.1 (by omega)
      obtain ⟨e, t, g⟩ := gget (A := A) (m := k) (by omega)
      have hm := List.mem_of_getElem? g
      have bt := oA.B _ hm
      have e9 := (oA.2.2.2 _ hm).2
      have pb := gmk_b (oA.D _ hm)
      dsimp only at bt e9 pb
      rw [gdrop g] at e1
      have e1' : gdv (A.drop (k + 1)) (gdi (e, t) L1) = gdv A [] := e1
      have nx : (l2 + 1).toInt = (20 * p + (k + 1) : Nat) := by rw [i_add (by rw [i_1]; omega) (by rw [i_1]; omega), h3, i_1]; omega
      have inner : ∀ (q2 i : Nat) (l3 : Int64) (l5 : Int32) (h2 : XH), q2 + i = 4 → l5.toInt = (i + 1 : Nat) → l3.toInt = ((if 2 ≤ i then 160801 else 0) + (if 3 ≤ i then 401 else 0) + (if 4 ≤ i then 1 else 0) : Int) → Fg h h2 → Mm h2 (gdk (e, t) i L1) → gs (gdk (e, t) i L1) → gD (gdk (e, t) i L1) → (gdk (e, t) i L1).length ≤ 4 * k + i → gB (40000000000 * (k : Int) + 9900000000 * (i : Int)) (gdk (e, t) i L1) → b_X7_derives_30 d 77 a l2 l3 l5 h2 K E := by
        intro q2
        induction q2 with
        | zero =>
          intro i l3 l5 h2 hq2 h5 hl3 F2 M2 s2 d2 n2 b2
          have hi : i = 4 := by omega
          subst hi
          refine w_X7_derives_30 (by omega) (F2.sg hs) ⟨fun _ => ih (k + 1) (l2 + 1) _ _ _ _ h2 (by omega) nx F2 M2 s2 d2 (by omega) (gB_le b2 (by omega)) e1', fun z => absurd (i_le.mpr (by rw [e5]; omega)) z⟩
        | succ q2 ih2 =>
          intro i l3 l5 h2 hq2 h5 hl3 F2 M2 s2 d2 n2 b2
          have hs2 := F2.sg hs
          have ga := GA.fg F2
          obtain ⟨v1, v2⟩ := ga.2.2 k e t g
          have hE := edl_E (w := i + 1) e9
          have nx5 : (l5 + 1).toInt = (i + 1 + 1 : Nat) := by rw [i_add (by rw [i_1]; omega) (by rw [i_1]; omega), h5, i_1]; omega
          have xb : -99 ≤ gex (i + 1) e ∧ gex (i + 1) e ≤ 99 := by
            obtain ⟨a1, a2, a3, a4⟩ := e9
            match i, (by omega : i ≤ 3) with
            | 0, _ => exact a1
            | 1, _ => exact a2
            | 2, _ => exact a3
            | 3, _ => exact a4
            | n + 4, h => exact absurd h (by omega)
          have st : -9900000000 ≤ t * gex (i + 1) e ∧ t * gex (i + 1) e ≤ 9900000000 := by
            have h1 : t.natAbs * (gex (i + 1) e).natAbs ≤ 100000000 * 99 := Nat.mul_le_mul (by omega) (by omega)
            have h2 : (t * gex (i + 1) e).natAbs = t.natAbs * (gex (i + 1) e).natAbs := Int.natAbs_mul _ _
            omega
          have xv := xpn4_i v1 (oA.D _ hm) h5 (by omega) (by omega)
          have vt : ((h2.2.1 91 (20 * p + k)).toInt64 * xpn4 (h2.2.2.1 90 (20 * p + k)) l5).toInt = t * gex (i + 1) e := by rw [j_mul (by rw [i_2j, v2, xv]; omega) (by rw [i_2j, v2, xv]; omega), i_2j, v2, xv]
          have go : ∀ (s1 : Int64) (u3 u4 : Option Value), (l3 + s1).toInt = ((if 2 ≤ i + 1 then 160801 else 0) + (if 3 ≤ i + 1 then 401 else 0) + (if 4 ≤ i + 1 then 1 else 0) : Int) → b_X7_derives_52 d 77 a l2 u3 u4 l5 s1 l3 h2 K E := by
            intro s1 u3 u4 hsum
            refine w_X7_derives_52 (by omega) hs2 ⟨i_Ix h3 (by omega), i_Ix h3 (by omega), i_Ix h3 (by omega), ?_⟩
            rw [i_ix h3]
            have hp2 : (h2.2.2.1 90 (20 * p + k) - (l3 + s1)).toInt = gmk (edl (i + 1) e) := by
              rw [j_sub (by rw [v1, hsum]; split <;> split <;> split <;> omega) (by rw [v1, hsum]; split <;> split <;> split <;> omega), v1, hsum, gmk_edl]
            refine t_X7_joins (e := edl (i + 1) e) (n := t * gex (i + 1) e) (bb := 40000000000 * (k : Int) + 9900000000 * (i : Int)) (g := 9900000000) (by omega) hs2 M2 s2 d2 (by omega) hE hp2 vt b2 st (by omega) (by omega) (fun h6 M6 F6 => ⟨rfl, F6.sg hs2, ih2 (i + 1) (l3 + s1) (l5 + 1) h6 (by omega) nx5 hsum (F2.tr F6) M6 (gs_gin hE s2 d2) (gD_gin hE d2) ?_ (gB_le (gB_gin st (by omega) b2) (by omega))⟩)
            have := len_gin (edl (i + 1) e) (t * gex (i + 1) e) (gdk (e, t) i L1)
            show (gin (edl (i + 1) e) (t * gex (i + 1) e) (gdk (e, t) i L1)).length ≤ _
            omega
          have eun : ∀ j : Nat, j ≤ 3 → l5 = Int32.ofNat (j + 1) → i = j → (l3 + unt l5).toInt = (if j = 0 then 64481201 else (if 2 ≤ i + 1 then 160801 else 0) + (if 3 ≤ i + 1 then 401 else 0) + (if 4 ≤ i + 1 then 1 else 0) : Int) := by
            intro j hj hl hij
            subst hij
            match i, hj with
            | 0, _ =>
              have u1 : (unt l5).toInt = 64481201 := by rw [hl]; rfl
              have l0 : l3.toInt = 0 := hl3
              rw [j_add (by rw [u1, l0]; omega) (by rw [u1, l0]; omega), u1, l0]; rfl
            | 1, _ =>
              have u1 : (unt l5).toInt = 160801 := by rw [hl]; rfl
              have l0 : l3.toInt = 0 := hl3
              rw [j_add (by rw [u1, l0]; omega) (by rw [u1, l0]; omega), u1, l0]; rfl
            | 2, _ =>
              have u1 : (unt l5).toInt = 401 := by rw [hl]; rfl
              have l0 : l3.toInt = 160801 := hl3
              rw [j_add (by rw [u1, l0]; omega) (by rw [u1, l0]; omega), u1, l0]; rfl
            | 3, _ =>
              have u1 : (unt l5).toInt = 1 := by rw [hl]; rfl
              have l0 : l3.toInt = 161202 := hl3
              rw [j_add (by rw [u1, l0]; omega) (by rw [u1, l0]; omega), u1, l0]; rfl
            | n + 4, h => exact absurd h (by omega)
          refine w_X7_derives_30 (by omega) hs2 ⟨fun z => absurd (i_le.mp z) (by rw [e5]; omega), fun _ => ⟨fun z => go _ _ _ ?_, fun z => go _ _ _ ?_⟩⟩
          · have hn0 : ¬ i = 0 := fun q9 => z (Int32.toInt_inj.mp (by rw [h5, q9]; rfl))
            rw [eun i (by omega) (i_of h5 (by omega)) rfl, if_neg hn0]
          · have h0 := congrArg Int32.toInt (Classical.not_not.mp z)
            rw [h5, i_1] at h0
            have hi0 : i = 0 := by omega
            subst hi0
            have l0 : l3.toInt = 0 := hl3
            have c0 : (0 : Int64).toInt = 0 := rfl
            rw [j_add (by rw [c0, l0]; omega) (by rw [c0, l0]; omega), c0, l0]; rfl
      refine w_X7_derives_10 (by omega) hs1 ⟨i_Ix ha hp, fun z => absurd (i_le.mp z) (by rw [i_ix ha]; omega), fun _ => inner 4 0 0 1 h1 (by omega) rfl rfl F1 M1 s1 d1 (by show L1.length ≤ _; omega) (gB_le b1 (by omega))⟩
  refine w_X7_derives (by omega) hs (fun h1 e1 => ?_)
  have F1 : Fg h h1 := Fg.ei e1
  have M1 := Mm.z h
  rw [← e1] at M1
  exact outer A.length 0 _ _ _ _ [] h1 (Nat.add_zero _) (i20 ha hp) F1 M1 trivial (fun p hp => absurd hp List.not_mem_nil) (Nat.zero_le _) (fun p hp => absurd hp List.not_mem_nil) rfl
end
