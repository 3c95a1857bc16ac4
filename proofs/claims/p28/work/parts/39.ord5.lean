/-! ===== layer 2: contracts of the class's ordinals: the natural product ===== -/
section
variable {d : Nat} {h : XH} {y : Nat → Nat} {c k : Nat} {ov : Nat → O} {K : XK} {E : XE}
theorem t_X0_insert {q n j w : Nat} {b e : Int32} {v : Int64} {x : O} {L : List OP} (hd : 21 ≤ d) (hs : Sg h.1 y) (ho : Dq h.1 q) (D : Do h q c ov L) (hl : L.length < 64) (hw : w ≤ L.length) (hb : b.toInt = w) (hv : v.toInt = n) (he : e.toInt = j) (hj : j < c) (hx : ov j = x) (kk : ∀ h2, Do h2 q c ov (L.take w ++ (x, n) :: L.drop w) → Fdr q h h2 → K none h2) : Ca d m_X0_insert [.ref q, .int b, .long v, .int e] h K E := by
  obtain ⟨d, rfl⟩ : ∃ e, d = e + 1 := ⟨d - 1, by omega⟩
  refine w_X0_insert (by omega) hs ho (fun h1 e1 => ?_)
  obtain ⟨D1, F1⟩ := D.add hl hv he hj hx
  rw [← e1] at D1 F1
  have hlen : (L ++ [(x, n)]).length = L.length + 1 := by rw [List.length_append]; rfl
  have c1 := D1.1
  rw [hlen] at c1
  have old : ∀ t, t < L.length → h1.2.1 (q + 2) t = h1.2.1 (q + 2) t := fun _ _ => rfl
  have loop : ∀ (m t : Nat) (l5 : Int32) (h2 : XH), m + w = t → t ≤ L.length → l5.toInt = t → Fdr q h h2 → (h2.2.1 q 2 = h1.2.1 q 2) → (∀ s, s ≤ t → h2.2.1 (q + 2) s = h1.2.1 (q + 2) s ∧ h2.2.2.1 (q + 1) s = h1.2.2.1 (q + 1) s) → (∀ s, t < s → s ≤ L.length → h2.2.1 (q + 2) s = h1.2.1 (q + 2) (s - 1) ∧ h2.2.2.1 (q + 1) s = h1.2.2.1 (q + 1) (s - 1)) → b_X0_insert_15 d q b v e l5 h2 K E := by
    intro m
    induction m with
    | zero =>
      intro t l5 h2 hm ht h5 F g0 g1 g2
      have hs2 := F.sg hs
      have ho2 : Dq h2.1 q := by rw [F.1]; exact ho
      refine w_X0_insert_15 (by omega) hs2 ho2 ⟨fun _ h3 e3 h4 e4 => kk h4 ?_ ?_, fun z => absurd (i_le.mpr (by omega)) z⟩
      · rw [pJ_in hb (by omega)] at e3
        rw [pI_in hb (by omega)] at e4
        have i4 : ∀ s, h4.2.1 (q + 2) s = if s = w then e else h2.2.1 (q + 2) s := fun s => by
          rw [e4]
          by_cases z : s = w
          · rw [z, sI_eq, if_pos rfl]
          · rw [sI_ne _ _ z, if_neg z, e3]; rfl
        have j4 : ∀ s, h4.2.2.1 (q + 1) s = if s = w then v else h2.2.2.1 (q + 1) s := fun s => by
          rw [e4]
          show h3.2.2.1 (q + 1) s = _
          rw [e3]
          by_cases z : s = w
          · rw [z, sJ_eq, if_pos rfl]
          · rw [sJ_ne _ _ z, if_neg z]
        have q4 : h4.2.1 q 2 = h1.2.1 q 2 := by rw [e4, sI_nq _ _ (by omega), e3]; exact g0
        have hlen2 : (L.take w ++ (x, n) :: L.drop w).length = L.length + 1 := by
          rw [List.length_append, List.length_cons, List.length_take, List.length_drop]; omega
        refine ⟨by rw [q4, hlen2]; exact c1, by omega, fun s e9 n9 hs9 => ?_⟩
        rw [i4, j4]
        have hsl := (List.getElem?_eq_some_iff.mp hs9).1
        rw [hlen2] at hsl
        have ltk : (L.take w).length = w := by rw [List.length_take]; omega
        by_cases z1 : s < w
        · rw [List.getElem?_append_left (by omega), List.getElem?_take_of_lt z1] at hs9
          rw [if_neg (by omega), if_neg (by omega), (g1 s (by omega)).1, (g1 s (by omega)).2]
          exact D1.2.2 s e9 n9 (by rw [List.getElem?_append_left (by omega)]; exact hs9)
        · rw [List.getElem?_append_right (by omega), ltk] at hs9
          by_cases z2 : s = w
          · rw [z2, Nat.sub_self] at hs9
            rw [if_pos z2, if_pos z2]
            cases hs9
            exact ⟨j, hj, hx, he, hv⟩
          · obtain ⟨s2, hs2e⟩ : ∃ s2, s = s2 + 1 := ⟨s - 1, by omega⟩
            subst hs2e
            rw [show s2 + 1 - w = (s2 - w) + 1 by omega, List.getElem?_cons_succ, List.getElem?_drop, show w + (s2 - w) = s2 by omega] at hs9
            rw [if_neg z2, if_neg z2, (g2 (s2 + 1) (by omega) (by omega)).1, (g2 (s2 + 1) (by omega) (by omega)).2]
            exact D1.2.2 s2 e9 n9 (by rw [List.getElem?_append_left (by omega)]; exact hs9)
      · rw [pJ_in hb (by omega)] at e3
        rw [pI_in hb (by omega)] at e4
        refine F.tr ⟨by rw [e4]; show h3.1 = _; rw [e3]; rfl, by rw [e4]; show h3.2.2.2 = _; rw [e3]; rfl, fun r r1 r2 r3 => ⟨?_, ?_⟩⟩
        · rw [e4, sI_nq _ _ r3, e3]; rfl
        · rw [e4]; show h3.2.2.1 r = _; rw [e3, sJ_nq _ _ r2]
    | succ m ih =>
      intro t l5 h2 hm ht h5 F g0 g1 g2
      have hs2 := F.sg hs
      have ho2 : Dq h2.1 q := by rw [F.1]; exact ho
      have m5 : (l5 - 1).toInt = (t - 1 : Nat) := by rw [i_sub (by rw [i_1]; omega) (by rw [i_1]; omega), h5, i_1]; omega
      refine w_X0_insert_15 (by omega) hs2 ho2 ⟨fun z => absurd (i_le.mp z) (by omega), fun _ h4 e4 h6 e6 => ?_⟩
      rw [pJ_in h5 (by omega), gJ_in m5 (by omega)] at e4
      have v4 : h4.2.1 (q + 2) = h2.2.1 (q + 2) := by rw [e4]; rfl
      rw [pI_in h5 (by omega), g_in m5 (by omega), v4] at e6
      have i6 : ∀ s, h6.2.1 (q + 2) s = if s = t then h2.2.1 (q + 2) (t - 1) else h2.2.1 (q + 2) s := fun s => by
        rw [e6]
        by_cases z : s = t
        · rw [z, sI_eq, if_pos rfl]
        · rw [sI_ne _ _ z, if_neg z, v4]
      have j6 : ∀ s, h6.2.2.1 (q + 1) s = if s = t then h2.2.2.1 (q + 1) (t - 1) else h2.2.2.1 (q + 1) s := fun s => by
        rw [e6]
        show h4.2.2.1 (q + 1) s = _
        rw [e4]
        by_cases z : s = t
        · rw [z, sJ_eq, if_pos rfl]
        · rw [sJ_ne _ _ z, if_neg z]
      clear m5
      have m6 : (l5 + (-1)).toInt = (t - 1 : Nat) := by
        have e1 : (-1 : Int32).toInt = -1 := rfl
        rw [i_add (by rw [e1]; omega) (by rw [e1]; omega), h5, e1]; omega
      refine ih (t - 1) _ h6 (by omega) (by omega) m6 (F.tr ⟨by rw [e6]; show h4.1 = _; rw [e4]; rfl, by rw [e6]; show h4.2.2.2 = _; rw [e4]; rfl, fun r r1 r2 r3 => ⟨?_, ?_⟩⟩) ?_ (fun s hs' => ?_) (fun s h1' h2' => ?_)
      · rw [e6, sI_nq _ _ r3, e4]; rfl
      · rw [e6]; show h4.2.2.1 r = _; rw [e4, sJ_nq _ _ r2]
      · rw [e6, sI_nq _ _ (by omega), e4]; exact g0
      · rw [i6, j6, if_neg (by omega), if_neg (by omega)]
        exact g1 s (by omega)
      · rw [i6, j6]
        by_cases z : s = t
        · rw [if_pos z, if_pos z, z]
          exact g1 (t - 1) (by omega)
        · rw [if_neg z, if_neg z]
          exact g2 s (by omega) h2'
  have m1 : (h1.2.1 q 2 - 1).toInt = (L.length : Nat) := by rw [i_sub (by rw [i_1, c1]; omega) (by rw [i_1, c1]; omega), c1, i_1]; omega
  exact loop (L.length - w) L.length _ h1 (by omega) (Nat.le_refl _) m1 F1 rfl (fun _ _ => ⟨rfl, rfl⟩) (fun s a b => by omega)
theorem ins_abv {e : O} {n : Nat} : ∀ A : List OP, ins e n A = A.take (abv e A) ++ (match A.drop (abv e A) with
    | [] => [(e, n)]
    | p :: l => if oc p.1 e = 0 then (p.1, p.2 + n) :: l else (e, n) :: p :: l) := by
  intro A
  induction A with
  | nil => rfl
  | cons p A ih =>
    show (if oc p.1 e = 1 then p :: ins e n A else if oc p.1 e = 0 then (p.1, p.2 + n) :: A else (e, n) :: p :: A) = _
    unfold abv
    by_cases h : oc p.1 e = 1
    · rw [if_pos h, if_pos h, ih]
      rfl
    · rw [if_neg h, if_neg h]
      rfl
theorem St.trunc {b : Int32} {c2 : Nat} (S : St h y c k ov) (hs : Sg h.1 y) (hb : b.toInt = c2) (h1 : k ≤ c2) (h2 : c2 ≤ c) : St (x_setI h 6 4 b) y c2 k ov := by
  have hh := sg_hnd hs
  obtain ⟨s1, s2, s3, s4, s5, s6, s7, s8⟩ := id S
  have hm := sv_mono ov h2
  refine ⟨⟨by rw [sI_eq]; exact hb, by rw [sI_ne _ _ (by omega : 5 ≠ 4)]; exact s1.2.1, s1.2.2.1, h1, by omega⟩, s2, ⟨by omega, by omega, by omega, by omega, s3.2.2.2.2⟩, fun i hi => ?_, fun i hi => ?_, fun i hi => s6 i (by omega), fun i a b => s7 i a (by omega), fun i hi => ?_⟩
  · rw [sI_nq _ _ (by omega)]; exact s4 i (by omega)
  · rw [sI_nq _ _ (by omega)]; exact s5 i (by omega)
  · rw [sI_nq _ _ (by omega), sI_nq _ _ (by omega)]; exact s8 i (by omega)
theorem t_X2_addPair {a b : Int32} {v : Int64} {i j n : Nat} {P : List OP} (hd : 30 ≤ d) (hs : Sg h.1 y) (S : St h y c k ov) (ha : a.toInt = i) (hb : b.toInt = j) (hi : i < c) (hj : j < c) (hc : c + 1 < 16384) (hk : k ≤ c) (D : Do h 14 c ov P) (hl : P.length < 64) (hv : v.toInt = n) (hB : ∀ p ∈ P, p.2 + n < 9223372036854775808) (hn : n < 9223372036854775808)
    (kk : okm (naO (ov i) (ov j)) → ∀ (h2 : XH) (y2 : Nat → Nat) (ov2 : Nat → O) (c2 : Nat), (∀ i, i < c → ov2 i = ov i) → c ≤ c2 → c2 + P.length ≤ c + (ins (naO (ov i) (ov j)) n P).length → Fs 0 h y h2 y2 → St h2 y2 c2 k ov2 → Do h2 14 c2 ov2 (ins (naO (ov i) (ov j)) n P) → K none h2) (ke : ¬ okm (naO (ov i) (ov j)) → Kf h y k ov E) : Ca d m_X2_addPair [.ref 6, .long v, .int a, .int b] h K E := by
  obtain ⟨d, rfl⟩ : ∃ e, d = e + 1 := ⟨d - 1, by omega⟩
  refine w_X2_addPair (by omega) hs (t_X2_naturallyAdded (by omega) hs S ha hb hi hj (by omega) hk (fun ok r h1 y1 ov1 c1 r1 x1 x2 x3 x4 x5 x6 x7 x8 x9 => ⟨r, rfl, y1, x7.1, ?_⟩) ke)
  generalize hxe : naO (ov i) (ov j) = x at *
  have hs1 := x7.1
  have D1 : Do h1 14 c1 ov1 P := by
    obtain ⟨d1, d2, d3⟩ := D
    refine ⟨by rw [(x8 14 (by omega) (by omega)).1]; exact d1, d2, fun m e n hm => ?_⟩
    obtain ⟨j, j1, j2, j3, j4⟩ := d3 m e n hm
    exact ⟨j, by omega, by rw [x4 j j1]; exact j2, by rw [(x8 16 (by omega) (by omega)).1]; exact j3, by rw [(x8 15 (by omega) (by omega)).2]; exact j4⟩
  have hcount : (h.2.1 6 4).toInt = c := S.1.1
  -- behind the loop
  have last : ∀ (l7 : Int32), l7.toInt = abv x P → b_X2_addPair_55 d 6 v (some (.int a)) (some (.int b)) (h.2.1 6 4) r l7 h1 K E := by
    intro l7 h7
    have hab := abv_le x P
    -- a new pair
    have new : (∀ l, P.drop (abv x P) = l → (match l with
        | [] => [(x, n)]
        | p :: l => if oc p.1 x = 0 then (p.1, p.2 + n) :: l else (x, n) :: p :: l) = (x, n) :: l) → ∀ u, b_X2_addPair_105 d 6 v (some (.int a)) (some (.int b)) u r l7 h1 K E := by
      intro hnew u
      have ei : ins x n P = P.take (abv x P) ++ (x, n) :: P.drop (abv x P) := by rw [ins_abv, hnew _ rfl]
      refine w_X2_addPair_105 (by omega) hs1 (t_X0_insert (by omega) hs1 (sg_D14 hs1) D1 hl hab h7 hv x1 x2 x3 (fun h2 D2 F2 => ⟨rfl, F2.sg hs1, ?_⟩))
      rw [← ei] at D2
      refine kk ok h2 y1 ov1 c1 x4 x5 ?_ (x7.tr (Fs.fd hs1 F2 (Or.inr rfl))) (x9.fd hs1 F2 (Or.inr rfl)) D2
      rw [ei, List.length_append, List.length_cons, List.length_take, List.length_drop]
      omega
    by_cases hlt : abv x P < P.length
    · obtain ⟨e, m, g⟩ := getc hlt
      obtain ⟨je, e1, e2, e3, e4⟩ := D1.2.2 _ e m g
      have gi : g_I h1 16 64 l7 = h1.2.1 16 (abv x P) := g_in h7 (by omega)
      refine w_X2_addPair_55 (by omega) hs1 ⟨fun z => absurd (i_le.mp z) (by rw [D1.1]; omega), fun _ => ?_⟩
      refine t_X2_order5 (i := je) (j := r1) (by omega) hs1 x9 (by rw [gi]; exact e3) x1 e1 x2 (fun r2 hr2 => ⟨r2, rfl, hs1, fun z => new (fun l hl' => ?_) _, fun z h5 e5 h6 e6 => ?_⟩)
      · rw [e2, x3] at hr2
        rw [dropc g] at hl'
        subst hl'
        show (if oc e x = 0 then _ else _) = _
        rw [if_neg (fun w => z (i_ne.mpr (hr2.trans w)))]
      · rw [e2, x3] at hr2
        have hz : oc e x = 0 := by rw [← hr2]; exact i_ne.mp (Classical.not_not.mp z)
        have ee := oc_eq _ _ hz
        have ei : ins x n P = P.take (abv x P) ++ (e, m + n) :: P.drop (abv x P + 1) := by
          rw [ins_abv, dropc g]
          show _ ++ (if oc e x = 0 then _ else _) = _
          rw [if_pos hz]
        have hBm := hB (e, m) (List.mem_of_getElem? g)
        have hBm2 : m + n < 9223372036854775808 := hBm
        have gj : g_J h1 (14 + 1) 64 l7 = h1.2.2.1 15 (abv x P) := gJ_in h7 (by omega)
        rw [pJ_in h7 (by omega), gj] at e5
        have s5 : h5.1 = h1.1 := by rw [e5]; rfl
        have i5 : h5.2.1 = h1.2.1 := by rw [e5]; rfl
        have hsum : (h1.2.2.1 15 (abv x P) + v).toInt = (m + n : Nat) := by
          have e4' : (h1.2.2.1 15 (abv x P)).toInt = m := e4
          rw [j_add (by rw [e4', hv]; omega) (by rw [e4', hv]; omega), e4', hv]; omega
        have S5 : St h5 y1 c1 k ov1 := x9.fr (by rw [i5]) (by rw [i5]) (by rw [i5]) (by rw [i5]) (by rw [i5])
        have S6 := S5.trunc (by rw [s5]; exact hs1) hcount hk x5
        rw [← e6] at S6
        have s6 : h6.1 = h1.1 := by rw [e6]; exact s5
        have i6 : ∀ r, r ≠ 6 → h6.2.1 r = h1.2.1 r := fun r hr => by rw [e6, sI_nq _ _ hr, i5]
        have j6 : ∀ s, h6.2.2.1 15 s = if s = abv x P then h1.2.2.1 15 (abv x P) + v else h1.2.2.1 15 s := fun s => by
          rw [e6]
          show h5.2.2.1 15 s = _
          rw [e5]
          by_cases w : s = abv x P
          · rw [w, if_pos rfl]; exact sJ_eq _ _ _ _
          · rw [if_neg w]; exact sJ_ne _ _ w
        refine kk ok h6 y1 ov1 c x4 (Nat.le_refl _) ?_ ?_ S6 ?_
        · rw [ei, List.length_append, List.length_cons, List.length_take, List.length_drop]
          omega
        · obtain ⟨f1, f2, f3, f4, f5⟩ := x7
          refine ⟨by rw [s6]; exact f1, fun r a b => ?_, f3, by rw [s6]; exact f4, by rw [e6]; show h5.2.2.2 + _ ≤ _; rw [e5]; exact f5⟩
          rw [i6 r (by omega), e6]
          show _ ∧ h5.2.2.1 r = _
          rw [e5, sJ_nq _ _ (by omega)]
          exact f2 r a b
        · have hlen : (P.take (abv x P) ++ (e, m + n) :: P.drop (abv x P + 1)).length = P.length := by
            rw [List.length_append, List.length_cons, List.length_take, List.length_drop]; omega
          rw [ei]
          refine ⟨by rw [i6 14 (by omega), hlen]; exact D1.1, by rw [hlen]; omega, fun s e9 n9 hs9 => ?_⟩
          have ltk : (P.take (abv x P)).length = abv x P := by rw [List.length_take]; omega
          have fin : ∀ e9 n9, P[s]? = some (e9, n9) → ∃ j, j < c ∧ ov1 j = e9 ∧ (h1.2.1 16 s).toInt = j ∧ (h1.2.2.1 15 s).toInt = n9 := fun e9 n9 hp => by
            obtain ⟨j9, a1, a2, a3, a4⟩ := D.2.2 s e9 n9 hp
            exact ⟨j9, a1, by rw [x4 j9 a1]; exact a2, by rw [(x8 16 (by omega) (by omega)).1]; exact a3, by rw [(x8 15 (by omega) (by omega)).2]; exact a4⟩
          show ∃ j, j < c ∧ ov1 j = e9 ∧ (h6.2.1 16 s).toInt = j ∧ (h6.2.2.1 15 s).toInt = n9
          rw [i6 16 (by omega), j6]
          by_cases z1 : s < abv x P
          · rw [List.getElem?_append_left (by omega), List.getElem?_take_of_lt z1] at hs9
            rw [if_neg (by omega)]
            exact fin e9 n9 hs9
          · rw [List.getElem?_append_right (by omega), ltk] at hs9
            by_cases z2 : s = abv x P
            · rw [z2, Nat.sub_self] at hs9
              rw [if_pos z2]
              cases hs9
              obtain ⟨j9, a1, a2, a3, -⟩ := fin e m (by rw [z2]; exact g)
              exact ⟨j9, a1, a2, a3, hsum⟩
            · rw [show s - abv x P = (s - abv x P - 1) + 1 by omega, List.getElem?_cons_succ, List.getElem?_drop, show abv x P + 1 + (s - abv x P - 1) = s by omega] at hs9
              rw [if_neg z2]
              exact fin e9 n9 hs9
    · refine w_X2_addPair_55 (by omega) hs1 ⟨fun _ => new (fun l hl' => ?_) _, fun z => absurd (i_le.mpr (by rw [D1.1]; omega)) z⟩
      rw [List.drop_eq_nil_of_le (by omega)] at hl'
      subst hl'
      rfl
  have loop : ∀ (q s : Nat) (l7 : Int32), q + s = P.length → l7.toInt = s → abv x P = s + abv x (P.drop s) → b_X2_addPair_18 d 6 v (some (.int a)) (some (.int b)) (h.2.1 6 4) r l7 h1 K E := by
    intro q
    induction q with
    | zero =>
      intro s l7 hq h7 hv'
      rw [List.drop_eq_nil_of_le (by omega)] at hv'
      exact w_X2_addPair_18 (by omega) hs1 ⟨fun _ => last l7 (by rw [h7, hv']; rfl), fun z => absurd (i_le.mpr (by rw [D1.1]; omega)) z⟩
    | succ q ih =>
      intro s l7 hq h7 hv'
      obtain ⟨e, m, g⟩ := getc (A := P) (m := s) (by omega)
      obtain ⟨je, e1, e2, e3, e4⟩ := D1.2.2 _ e m g
      have gi : g_I h1 16 64 l7 = h1.2.1 16 s := g_in h7 (by omega)
      rw [dropc g] at hv'
      have hv2 : abv x P = s + (if oc e x = 1 then abv x (P.drop (s + 1)) + 1 else 0) := hv'
      refine w_X2_addPair_18 (by omega) hs1 ⟨fun z => absurd (i_le.mp z) (by rw [D1.1]; omega), fun _ => ?_⟩
      refine t_X2_order5 (i := je) (j := r1) (by omega) hs1 x9 (by rw [gi]; exact e3) x1 e1 x2 (fun r2 hr2 => ⟨r2, rfl, hs1, fun z => last l7 ?_, fun z => ?_⟩)
      · rw [e2, x3] at hr2
        rw [i_le, hr2, i_0] at z
        rw [if_neg (by omega)] at hv2
        omega
      · rw [e2, x3] at hr2
        rw [i_le, hr2, i_0] at z
        have := oc_val e x
        rw [if_pos (by omega)] at hv2
        refine ih (s + 1) (l7 + 1) (by omega) ?_ (by omega)
        rw [i_add (by rw [i_1]; omega) (by rw [i_1]; omega), h7, i_1]
        rfl
  exact loop _ 0 0 (Nat.add_zero _) rfl (Nat.zero_add _).symm
end
