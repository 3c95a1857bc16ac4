/-! ===== layer 2: contracts of the class's ordinals: sums and products ===== -/
theorem sv_cg {ov ov2 : Nat → O} {c : Nat} (h : ∀ i, i < c → ov2 i = ov i) : ∀ i, i ≤ c → sv ov2 i = sv ov i := by
  intro i
  induction i with
  | zero => intro _; rfl
  | succ i ih =>
    intro hi
    show sv ov2 i + (pl (ov2 i)).length = sv ov i + (pl (ov i)).length
    rw [ih (by omega), h i (by omega)]
theorem St.cg {h : XH} {y : Nat → Nat} {c k : Nat} {ov ov2 : Nat → O} (S : St h y c k ov) (e : ∀ i, i < c → ov2 i = ov i) : St h y c k ov2 := by
  obtain ⟨s1, s2, s3, s4, s5, s6, s7, s8⟩ := id S
  refine ⟨s1, by rw [e 0 (by omega)]; exact s2, by rw [sv_cg e c (Nat.le_refl _)]; exact s3, fun i hi => by rw [sv_cg e i hi]; exact s4 i hi, fun i hi => by rw [e i hi]; exact s5 i hi, fun i hi => by rw [e i hi]; exact s6 i hi, fun i a b => by rw [e i b]; exact s7 i a b, fun i hi m f n hm => ?_⟩
  rw [e i hi] at hm
  obtain ⟨j, j1, j2, j3, j4⟩ := s8 i hi m f n hm
  rw [sv_cg e i (by omega)]
  exact ⟨j, j1, by rw [e j (by omega)]; exact j2, j3, j4⟩
/-- what comes where an ordinal x is laid: at most m more; the rows from p to 17 as they were -/
def Kx (p m : Nat) (h : XH) (y : Nat → Nat) (c k : Nat) (ov : Nat → O) (x : O) (K : XK) : Prop :=
  ∀ (r : Int32) (h2 : XH) (y2 : Nat → Nat) (ov2 : Nat → O) (c2 r2 : Nat), r.toInt = r2 → r2 < c2 → ov2 r2 = x → (∀ i, i < c → ov2 i = ov i) → c ≤ c2 → c2 ≤ c + m → Fs 0 h y h2 y2 → (∀ r, p ≤ r → r ≤ 17 → h2.2.1 r = h.2.1 r ∧ h2.2.2.1 r = h.2.2.1 r) → St h2 y2 c2 k ov2 → K (some (.int r)) h2
/-- where it isn't -/
def Kf (h : XH) (y : Nat → Nat) (k : Nat) (ov : Nat → O) (E : XE) : Prop := ∀ (h2 : XH) (y2 : Nat → Nat), Fs 1 h y h2 y2 → St h2 y2 k k ov → E 3 h2
section
variable {d : Nat} {h : XH} {y : Nat → Nat} {c k : Nat} {ov : Nat → O} {K : XK} {E : XE}
theorem t_made {p m o c0 : Nat} {h0 : XH} {y0 : Nat → Nat} {ov0 : Nat → O} {L : List OP} (hd : 22 ≤ d) (hs : Sg h.1 y) (S : St h y c k ov) (ho6 : o = 11 ∨ o = 14) (D : Do h o c ov L) (hn : nf (mk L)) (hc : c < 16384)
    (F : Fs 0 h0 y0 h y) (hp : 11 ≤ p) (f : ∀ r, p ≤ r → r ≤ 17 → h.2.1 r = h0.2.1 r ∧ h.2.2.1 r = h0.2.2.1 r) (hk : k ≤ c0) (hc0 : c0 ≤ c) (hm : c + 1 ≤ c0 + m) (e : ∀ i, i < c0 → ov i = ov0 i) (kk : okm (mk L) → Kx p m h0 y0 c0 k ov0 (mk L) K) (ke : ¬ okm (mk L) → Kf h0 y0 k ov0 E) :
    Ca d m_X2_made [.ref 6, .ref o] h (fun rv h1 => ∃ x2, rv = some (.int x2) ∧ ∃ y3 : Nat → Nat, Sg h1.1 y3 ∧ K (some (.int x2)) h1) E :=
  t_X2_made hd hs S ho6 D hn hc (fun r h2 y2 ov2 c2 r2 g1 g2 g3 g4 g5 g6 g7 g8 g9 g10 => ⟨r, rfl, y2, g8.1, kk g1 r h2 y2 ov2 c2 r2 g2 g3 g4 (fun i hi => by rw [g5 i (by omega), e i hi]) (by omega) (by omega) (F.tr g8) (fun r a b => by rw [(g9 r (by omega) b).1, (g9 r (by omega) b).2]; exact f r a b) g10⟩)
    (fun h2 g1 g2 g3 => ke g1 h2 y (F.tr g2) (g3.cg (fun i hi => (e i (by omega)).symm)))
theorem t_X2_powerOf {a b : Int32} {i n : Nat} (hd : 23 ≤ d) (hs : Sg h.1 y) (S : St h y c k ov) (hk : k = c) (ha : a.toInt = i) (hb : b.toInt = n) (hi : i < c) (hc : c < 16384) (kk : okm (mk (if 0 < n then [(ov i, n)] else [])) → Kx 14 1 h y c k ov (mk (if 0 < n then [(ov i, n)] else [])) K) (ke : ¬ okm (mk (if 0 < n then [(ov i, n)] else [])) → Kf h y k ov E) : Ca d m_X2_powerOf [.ref 6, .int a, .int b] h K E := by
  obtain ⟨d, rfl⟩ : ∃ e, d = e + 1 := ⟨d - 1, by omega⟩
  refine w_X2_powerOf (by omega) hs (fun h1 e1 => ?_)
  obtain ⟨D1, F1⟩ := Do.restart h 11 c ov
  rw [← e1] at D1 F1
  have hs1 := F1.sg hs
  have S1 := S.fd hs F1 (Or.inl rfl)
  refine ⟨fun z => ?_, fun z h2 e2 => ?_⟩
  · rw [i_le, hb, i_0] at z
    rw [if_neg (by omega)] at kk ke
    exact w_X2_powerOf_21 (by omega) hs1 (t_made (by omega) hs1 S1 (Or.inl rfl) D1 trivial hc (Fs.fd hs F1 (Or.inl rfl)) (by omega) (fun r a b => F1.2.2 r (by omega) (by omega) (by omega)) (by omega) (Nat.le_refl _) (Nat.le_refl _) (fun _ _ => rfl) kk ke)
  · rw [i_le, hb, i_0] at z
    rw [if_pos (by omega)] at kk ke
    obtain ⟨D2, F2⟩ := D1.add (v := b.toInt64) (by simp) (by rw [i_2j, hb]) ha hi rfl
    rw [← e2] at D2 F2
    have F := F1.tr F2
    refine w_X2_powerOf_21 (by omega) (F.sg hs) (t_made (by omega) (F.sg hs) (S.fd hs F (Or.inl rfl)) (Or.inl rfl) D2 ?_ hc (Fs.fd hs F (Or.inl rfl)) (by omega) (fun r a b => F.2.2 r (by omega) (by omega) (by omega)) (by omega) (Nat.le_refl _) (Nat.le_refl _) (fun _ _ => rfl) kk ke)
    exact ⟨by omega, top_nil _, (S.good hi).1, trivial⟩
theorem pl_cons {x : O} (h : ¬ x = .leaf) : ∃ e n r, pl x = (e, n) :: r := by
  cases x with
  | leaf => exact absurd rfl h
  | inner n k v e r => exact ⟨e, n, pl r, rfl⟩
theorem gd_tm {x : O} (h : gd x) {m : Nat} {e : O} {n : Nat} (hm : (pl x)[m]? = some (e, n)) : n ≤ 1000000 := h.2.2.1 _ (List.mem_of_getElem? hm)
theorem smt_drop {A : List OP} {f : O} {m : Nat} : (smt f (A.drop m) = 0 ∧ A.length ≤ m) ∨ ∃ e n, A[m]? = some (e, n) ∧ smt f (A.drop m) = if oc e f = 0 then n else 0 := by
  by_cases h : m < A.length
  · obtain ⟨e, n, g⟩ := getc h
    exact Or.inr ⟨e, n, g, by rw [dropc g]; rfl⟩
  · exact Or.inl ⟨by rw [List.drop_eq_nil_of_le (by omega)]; rfl, by omega⟩
theorem t_X2_added {a b : Int32} {i j : Nat} (hd : 29 ≤ d) (hs : Sg h.1 y) (S : St h y c k ov) (ha : a.toInt = i) (hb : b.toInt = j) (hi : i < c) (hj : j < c) (hc : c < 16384) (hk : k ≤ c) (kk : okm (addO (ov i) (ov j)) → Kx 14 1 h y c k ov (addO (ov i) (ov j)) K) (ke : ¬ okm (addO (ov i) (ov j)) → Kf h y k ov E) : Ca d m_X2_added [.ref 6, .int a, .int b] h K E := by
  obtain ⟨d, rfl⟩ : ∃ e, d = e + 1 := ⟨d - 1, by omega⟩
  have hg := S.good hi
  have hgj := S.good hj
  have pi := S.pows hs ha hi
  have pj := S.pows hs hb hj
  have li := S.len hi
  have lj := S.len hj
  refine w_X2_added (by omega) hs ⟨fun z => ?_, fun z => ?_⟩
  · have hjl : ¬ ov j = .leaf := fun w => z (i_ne.mpr (by have := (S.ne hj).mp w; omega))
    obtain ⟨f, m, B, hB⟩ := pl_cons hjl
    have g0 : (pl (ov j))[0]? = some (f, m) := by rw [hB]; rfl
    obtain ⟨jf, f1, f2, f3⟩ := S.exps hs hb i_0 hj g0
    have tj := S.tims hs hb i_0 hj g0
    have hm1 := gd_tm hgj g0
    have hf : dep f + 1 ≤ dep (ov j) := dep_pl _ _ (List.mem_of_getElem? g0)
    have last : ∀ (s0 : Int32) (s1 : Int64) (l4 : Int32) (u5 : Option Int32) (u6 u7 : Option Value), l4.toInt = abv f (pl (ov i)) → s1.toInt = m → s0.toInt = smt f ((pl (ov i)).drop (abv f (pl (ov i)))) → b_X2_added_78 d 6 a b (xp h y b 0) l4 u5 u6 u7 s0 s1 h K E := by
      intro s0 s1 l4 u5 u6 u7 h4 v1 v0
      have hsm : smt f ((pl (ov i)).drop (abv f (pl (ov i)))) ≤ 1000000 := by
        rcases smt_drop (A := pl (ov i)) (f := f) (m := abv f (pl (ov i))) with z | ⟨e, n, z1, z2⟩
        · omega
        · have := gd_tm hg z1
          rw [z2]; split <;> omega
      refine w_X2_added_78 (by omega) hs (fun h1 e1 => ?_)
      obtain ⟨D1, F1⟩ := Do.restart h 11 c ov
      rw [← e1] at D1 F1
      have hab := abv_le f (pl (ov i))
      refine t_X2_draftPowers (by omega) (F1.sg hs) (S.fd hs F1 (Or.inl rfl)) D1 ha i_0 h4 hi hab (by simp only [List.length_nil]; omega) (fun h2 D2 F2 => ⟨rfl, (F1.tr F2).sg hs, ?_⟩)
      have F12 := F1.tr F2
      rw [List.nil_append, List.drop_zero] at D2
      refine fun h3 e3 => ?_
      obtain ⟨D3, F3⟩ := D2.add (v := s1 + s0.toInt64) (n := m + smt f ((pl (ov i)).drop (abv f (pl (ov i))))) (by rw [List.length_take]; omega) (by rw [j_add (by rw [i_2j]; omega) (by rw [i_2j]; omega), i_2j, v1, v0]; omega) f3 (by omega) f2
      rw [← e3] at D3 F3
      have F13 := F12.tr F3
      have hs3 := F13.sg hs
      have S3 := S.fd hs F13 (Or.inl rfl)
      refine t_X2_draftPowers (by omega) hs3 S3 D3 hb i_1 (S3.pows hs3 hb hj) hj (Nat.le_refl _) (by rw [List.length_append, List.length_take]; simp only [List.length_singleton]; omega) (fun h7 D7 F7 => ⟨rfl, (F13.tr F7).sg hs, ?_⟩)
      have F17 := F13.tr F7
      have eL : (pl (ov i)).take (abv f (pl (ov i))) ++ [(f, m + smt f ((pl (ov i)).drop (abv f (pl (ov i)))))] ++ ((pl (ov j)).take (pl (ov j)).length).drop 1 = addL (pl (ov i)) (pl (ov j)) := by
        rw [List.take_length, hB, List.append_assoc]
        rfl
      rw [eL] at D7
      exact t_made (by omega) (F17.sg hs) (S.fd hs F17 (Or.inl rfl)) (Or.inl rfl) D7 (nf_addO hg.1 hgj.1) hc (Fs.fd hs F17 (Or.inl rfl)) (by omega) (fun r a b => F17.2.2 r (by omega) (by omega) (by omega)) hk (Nat.le_refl _) (Nat.le_refl _) (fun _ _ => rfl) kk ke
    have s1v : ((tm h y b 0).toInt64).toInt = m := by rw [i_2j, tj]
    refine t_X2_powersAbove (by omega) hs S ha i_0 f3 hi (by omega) (Nat.zero_le _) (fun r hr => ⟨r, rfl, hs, fun q => ?_, fun q => ?_⟩)
    · rw [Nat.zero_add, List.drop_zero, f2] at hr
      rw [i_le, pi, hr] at q
      have hz : smt f ((pl (ov i)).drop (abv f (pl (ov i)))) = 0 := by rw [List.drop_eq_nil_of_le (by omega)]; rfl
      exact w_X2_added_52 (by omega) hs (w_X2_added_53 (by omega) hs ⟨fun _ => last _ _ _ _ _ _ hr s1v (by rw [hz]; rfl), fun w => absurd rfl w⟩)
    · rw [Nat.zero_add, List.drop_zero, f2] at hr
      rw [i_le, pi, hr] at q
      obtain ⟨e, n, g⟩ := getc (A := pl (ov i)) (m := abv f (pl (ov i))) (by omega)
      obtain ⟨je, e1, e2, e3⟩ := S.exps hs ha hr hi g
      have te := S.tims hs ha hr hi g
      have hsm : smt f ((pl (ov i)).drop (abv f (pl (ov i)))) = if oc e f = 0 then n else 0 := by rw [dropc g]; rfl
      refine t_X2_order5 (by omega) hs S e3 f3 (by omega) (by omega) (fun r2 hr2 => ⟨r2, rfl, hs, fun w => ?_, fun w => ?_⟩)
      · rw [e2, f2] at hr2
        rw [if_neg (fun v => w (i_ne.mpr (hr2.trans v)))] at hsm
        exact w_X2_added_52 (by omega) hs (w_X2_added_53 (by omega) hs ⟨fun _ => last _ _ _ _ _ _ hr s1v (by rw [hsm]; rfl), fun w => absurd rfl w⟩)
      · rw [e2, f2] at hr2
        rw [if_pos (by rw [← hr2]; exact i_ne.mp (Classical.not_not.mp w))] at hsm
        exact w_X2_added_53 (by omega) hs ⟨fun w => absurd w (by decide), fun _ => last _ _ _ _ _ _ hr s1v (by rw [hsm, te])⟩
  · have hj0 : ov j = .leaf := (S.ne hj).mpr (by have := i_ne.mp (Classical.not_not.mp z); omega)
    rw [hj0, addO_leaf] at kk
    exact kk hg.2 a h y ov c i ha hi rfl (fun _ _ => rfl) (Nat.le_refl _) (by omega) (Fs.rf hs) (fun _ _ _ => ⟨rfl, rfl⟩) S
theorem t_X2_naturallyAdded {a b : Int32} {i j : Nat} (hd : 29 ≤ d) (hs : Sg h.1 y) (S : St h y c k ov) (ha : a.toInt = i) (hb : b.toInt = j) (hi : i < c) (hj : j < c) (hc : c < 16384) (hk : k ≤ c) (kk : okm (naO (ov i) (ov j)) → Kx 14 1 h y c k ov (naO (ov i) (ov j)) K) (ke : ¬ okm (naO (ov i) (ov j)) → Kf h y k ov E) : Ca d m_X2_naturallyAdded [.ref 6, .int a, .int b] h K E := by
  obtain ⟨d, rfl⟩ : ∃ e, d = e + 1 := ⟨d - 1, by omega⟩
  have hg := S.good hi
  have hgj := S.good hj
  have li := S.len hi
  have lj := S.len hj
  have loop : ∀ (q s m : Nat) (l3 l4 : Int32) (u5 u6 u7 : Option Value) (h1 : XH) (L : List OP), q + s = (pl (ov j)).length → l4.toInt = s → l3.toInt = m → m ≤ (pl (ov i)).length → L.length + (pl (ov i)).length ≤ 8 * s + 8 + m → L.length ≤ m + s → Fdr 11 h h1 → Do h1 11 c ov L → L ++ naL ((pl (ov i)).drop m) ((pl (ov j)).drop s) = naL (pl (ov i)) (pl (ov j)) → b_X2_naturallyAdded_12 d 6 a b l3 l4 u5 u6 u7 h1 K E := by
    intro q
    induction q with
    | zero =>
      intro s m l3 l4 u5 u6 u7 h1 L hq h4 h3 hm hl hl2 F D hL
      have hs1 := F.sg hs
      have S1 := S.fd hs F (Or.inl rfl)
      have pi := S1.pows hs1 ha hi
      refine w_X2_naturallyAdded_12 (by omega) hs1 ⟨fun _ => ?_, fun z => absurd (i_le.mpr (by rw [S1.pows hs1 hb hj]; omega)) z⟩
      refine t_X2_draftPowers (by omega) hs1 S1 D ha h3 pi hi (Nat.le_refl _) (by omega) (fun h2 D2 F2 => ⟨rfl, F2.sg hs1, ?_⟩)
      have F12 := F.tr F2
      have eL : L ++ ((pl (ov i)).take (pl (ov i)).length).drop m = naL (pl (ov i)) (pl (ov j)) := by
        rw [List.take_length, ← hL, List.drop_eq_nil_of_le (show (pl (ov j)).length ≤ s by omega)]
        cases (pl (ov i)).drop m <;> rfl
      rw [eL] at D2
      exact t_made (by omega) (F12.sg hs) (S.fd hs F12 (Or.inl rfl)) (Or.inl rfl) D2 (nf_naO hg.1 hgj.1) hc (Fs.fd hs F12 (Or.inl rfl)) (by omega) (fun r a b => F12.2.2 r (by omega) (by omega) (by omega)) hk (Nat.le_refl _) (Nat.le_refl _) (fun _ _ => rfl) kk ke
    | succ q ih =>
      intro s m l3 l4 u5 u6 u7 h1 L hq h4 h3 hm hl hl2 F D hL
      have hs1 := F.sg hs
      have S1 := S.fd hs F (Or.inl rfl)
      obtain ⟨f, n, g⟩ := getc (A := pl (ov j)) (m := s) (by omega)
      obtain ⟨jf, f1, f2, f3⟩ := S1.exps hs1 hb h4 hj g
      have tf := S1.tims hs1 hb h4 hj g
      have hn1 := gd_tm hgj g
      refine w_X2_naturallyAdded_12 (by omega) hs1 ⟨fun z => absurd (i_le.mp z) (by rw [S1.pows hs1 hb hj]; omega), fun _ => ?_⟩
      refine t_X2_powersAbove (by omega) hs1 S1 ha h3 f3 hi (by omega) hm (fun r hr => ⟨r, rfl, hs1, ?_⟩)
      rw [f2] at hr
      have hab := abv_le f ((pl (ov i)).drop m)
      rw [List.length_drop] at hab
      refine t_X2_draftPowers (by omega) hs1 S1 D ha h3 hr hi (by omega) (by omega) (fun h2 D2 F2 => ⟨rfl, F2.sg hs1, ?_⟩)
      have F12 := F.tr F2
      have hs2 := F12.sg hs
      have S2 := S.fd hs F12 (Or.inl rfl)
      have pi2 := S2.pows hs2 ha hi
      have tk : ((pl (ov i)).take (m + abv f ((pl (ov i)).drop m))).drop m = ((pl (ov i)).drop m).take (abv f ((pl (ov i)).drop m)) := by
        rw [List.drop_take, Nat.add_sub_cancel_left]
      rw [tk] at D2
      have dd : ((pl (ov i)).drop m).drop (abv f ((pl (ov i)).drop m)) = (pl (ov i)).drop (m + abv f ((pl (ov i)).drop m)) := by rw [List.drop_drop]
      rw [dropc g] at hL
      have hL2 : L ++ (((pl (ov i)).drop m).take (abv f ((pl (ov i)).drop m)) ++ (f, n + smt f ((pl (ov i)).drop (m + abv f ((pl (ov i)).drop m)))) :: naL (rst f ((pl (ov i)).drop (m + abv f ((pl (ov i)).drop m)))) ((pl (ov j)).drop (s + 1))) = naL (pl (ov i)) (pl (ov j)) := by
        rw [← hL, ← dd]
        rfl
      -- the power itself, then on
      have last : ∀ (s0 l7 : Int32) (s1 : Int64) (u3 u7 : Option Value) (m2 : Nat), s1.toInt = n → s0.toInt = smt f ((pl (ov i)).drop (m + abv f ((pl (ov i)).drop m))) → (l7 = 0 → m2 = m + abv f ((pl (ov i)).drop m)) → (¬ l7 = 0 → m2 = m + abv f ((pl (ov i)).drop m) + 1) → m2 ≤ (pl (ov i)).length → rst f ((pl (ov i)).drop (m + abv f ((pl (ov i)).drop m))) = (pl (ov i)).drop m2 → b_X2_naturallyAdded_111 d 6 a b u3 l4 (xp h1 y b l4) r l7 s0 s1 11 h2 K E := by
        intro s0 l7 s1 u3 u7 m2 v1 v0 v7 v8 hm2 hrst
        have hsm : smt f ((pl (ov i)).drop (m + abv f ((pl (ov i)).drop m))) ≤ 1000000 := by
          rcases smt_drop (A := pl (ov i)) (f := f) (m := m + abv f ((pl (ov i)).drop m)) with z | ⟨e, n, z1, z2⟩
          · omega
          · have := gd_tm hg z1
            rw [z2]; split <;> omega
        refine w_X2_naturallyAdded_111 (by omega) hs2 (fun h5 e5 => ?_)
        obtain ⟨D5, F5⟩ := D2.add (v := s1 + s0.toInt64) (n := n + smt f ((pl (ov i)).drop (m + abv f ((pl (ov i)).drop m)))) (by rw [List.length_append, List.length_take, List.length_drop]; omega) (by rw [j_add (by rw [i_2j]; omega) (by rw [i_2j]; omega), i_2j, v1, v0]; omega) f3 (by omega) f2
        rw [← e5] at D5 F5
        have F15 := F12.tr F5
        have hL3 : L ++ ((pl (ov i)).drop m).take (abv f ((pl (ov i)).drop m)) ++ [(f, n + smt f ((pl (ov i)).drop (m + abv f ((pl (ov i)).drop m))))] ++ naL ((pl (ov i)).drop m2) ((pl (ov j)).drop (s + 1)) = naL (pl (ov i)) (pl (ov j)) := by
          rw [← hL2, hrst, List.append_assoc, List.append_assoc]
          rfl
        have hlen : (L ++ ((pl (ov i)).drop m).take (abv f ((pl (ov i)).drop m)) ++ [(f, n + smt f ((pl (ov i)).drop (m + abv f ((pl (ov i)).drop m))))]).length = L.length + abv f ((pl (ov i)).drop m) + 1 := by
          rw [List.length_append, List.length_append, List.length_take, List.length_drop]
          simp only [List.length_singleton]
          omega
        have n4 : (l4 + 1).toInt = (s + 1 : Nat) := by rw [i_add (by rw [i_1]; omega) (by rw [i_1]; omega), h4, i_1]; rfl
        refine ⟨fun z => ?_, fun z => ?_⟩
        · have := v7 z
          exact w_X2_naturallyAdded_132 (by omega) (F15.sg hs) (ih (s + 1) m2 _ _ _ _ _ _ _ (by omega) n4 (by rw [hr, this]) hm2 (by omega) (by omega) F15 D5 hL3)
        · have := v8 z
          refine w_X2_naturallyAdded_132 (by omega) (F15.sg hs) (ih (s + 1) m2 _ _ _ _ _ _ _ (by omega) n4 ?_ hm2 (by omega) (by omega) F15 D5 hL3)
          rw [i_add (by rw [i_1]; omega) (by rw [i_1]; omega), hr, this, i_1]
          omega
      have s1v : ((tm h2 y b l4).toInt64).toInt = n := by rw [i_2j]; exact S2.tims hs2 hb h4 hj g
      have ex2 : xp h1 y b l4 = xp h1 y b l4 := rfl
      refine ⟨fun q => ?_, fun q => ?_⟩
      · rw [i_le, pi2, hr] at q
        have hz : (pl (ov i)).drop (m + abv f ((pl (ov i)).drop m)) = [] := List.drop_eq_nil_of_le (by omega)
        exact w_X2_naturallyAdded_80 (by omega) hs2 (w_X2_naturallyAdded_81 (by omega) hs2 ⟨fun _ => last _ _ _ _ none (m + abv f ((pl (ov i)).drop m)) s1v (by rw [hz]; rfl) (fun _ => rfl) (fun w => absurd rfl w) (by omega) (by rw [hz]; rfl), fun w => absurd rfl w⟩)
      · rw [i_le, pi2, hr] at q
        obtain ⟨e, n2, g2⟩ := getc (A := pl (ov i)) (m := m + abv f ((pl (ov i)).drop m)) (by omega)
        obtain ⟨je, e1, e2, e3⟩ := S2.exps hs2 ha hr hi g2
        have te := S2.tims hs2 ha hr hi g2
        have hsm : smt f ((pl (ov i)).drop (m + abv f ((pl (ov i)).drop m))) = if oc e f = 0 then n2 else 0 := by rw [dropc g2]; rfl
        have hrs : rst f ((pl (ov i)).drop (m + abv f ((pl (ov i)).drop m))) = if oc e f = 0 then (pl (ov i)).drop (m + abv f ((pl (ov i)).drop m) + 1) else (pl (ov i)).drop (m + abv f ((pl (ov i)).drop m)) := by
          rw [dropc g2, rst_cons]
        refine t_X2_order5 (by omega) hs2 S2 e3 f3 (by omega) (by omega) (fun r2 hr2 => ⟨r2, rfl, hs2, fun w => ?_, fun w => ?_⟩)
        · rw [e2, f2] at hr2
          rw [if_neg (fun v => w (i_ne.mpr (hr2.trans v)))] at hsm hrs
          exact w_X2_naturallyAdded_80 (by omega) hs2 (w_X2_naturallyAdded_81 (by omega) hs2 ⟨fun _ => last _ _ _ _ none (m + abv f ((pl (ov i)).drop m)) s1v (by rw [hsm]; rfl) (fun _ => rfl) (fun w => absurd rfl w) (by omega) hrs, fun w => absurd rfl w⟩)
        · rw [e2, f2] at hr2
          rw [if_pos (by rw [← hr2]; exact i_ne.mp (Classical.not_not.mp w))] at hsm hrs
          exact w_X2_naturallyAdded_81 (by omega) hs2 ⟨fun w => absurd w (by decide), fun _ => last _ _ _ _ none (m + abv f ((pl (ov i)).drop m) + 1) s1v (by rw [hsm, te]) (fun w => absurd w (by decide)) (fun _ => rfl) (by omega) hrs⟩
  refine w_X2_naturallyAdded (by omega) hs (fun h1 e1 => ?_)
  obtain ⟨D1, F1⟩ := Do.restart h 11 c ov
  rw [← e1] at D1 F1
  exact loop _ 0 0 0 0 none none none h1 [] (Nat.add_zero _) rfl rfl (Nat.zero_le _) (by simp only [List.length_nil]; omega) (Nat.zero_le _) F1 D1 rfl
end
