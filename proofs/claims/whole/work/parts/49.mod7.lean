/-! ===== layer 2: the model's product ===== -/
theorem mul_ne {a e : O} {na n : Nat} {A B : List OP} (h : ¬ e = .leaf) : mulL ((a, na) :: A) ((e, n) :: B) = (addO a e, n) :: mulL ((a, na) :: A) B := by
  cases e with
  | leaf => exact absurd rfl h
  | inner => rfl
/-- exponent 0 stands last alone -/
theorem leaf_last {B : List OP} (h : srt B) {t n : Nat} (g : B[t]? = some (.leaf, n)) : t + 1 = B.length := by
  have hl := (List.getElem?_eq_some_iff.mp g).1
  by_cases z : t + 1 < B.length
  · obtain ⟨e, m, g2⟩ := getc z
    have h2 := srt_drop B t h
    rw [dropc g, dropc g2] at h2
    exact absurd (h2.2.1 (e, m) List.mem_cons_self) oc_lmax
  · omega
section
variable {d : Nat} {h : XH} {y : Nat → Nat} {m : Nat} {ov : Nat → O} {K : XK} {E : XE}
theorem t_X7_mul_end {a b : Int32} {i j : Nat} {al : O} {na : Nat} {A : List OP} {h0 : XH} {m0 : Nat} {ov0 : Nat → O} {n0 : Nat} (hd : 26 ≤ d) (hs : Sg h.1 y) (M : Mo h m ov) (ha : a.toInt = i) (hb : b.toInt = j) (hi : i < m) (hj : j < m) (hA : pl (ov i) = (al, na) :: A) (hm2 : m < 2000) (F0 : Fmo h0 h) (hm0 : m0 ≤ m) (hmn : m + 1 ≤ m0 + n0) (he : ∀ i, i < m0 → ov i = ov0 i)
    (hf : ∀ t e n, (pl (ov j))[t]? = some (e, n) → ¬ e = .leaf → ∃ js : Nat, js < m ∧ ov js = addO al e ∧ (h.2.1 87 t).toInt = js) (ok : Prop) (hok : okm (mulO (ov i) (ov j)) ↔ ok) (h0j : ¬ ov j = .leaf) (kk : Kmo n0 h0 m0 ov0 ok (mulO (ov i) (ov j)) K) :
    ∀ (u4 : Option Value) (h1 : XH), Mo h1 m ov → Dm h1 m ov [] → Fmk h h1 → b_X7_multiplied_90 d 77 a b 0 u4 h1 K E := by
  have hgi := M.good hi
  have hgj := M.good hj
  have li := M.len hi
  have lj := M.len hj
  have k8a := e8m a ha (by omega)
  have hsj := nf_srt _ hgj.1
  obtain ⟨e0, n1, r0, hp⟩ := pl_cons h0j
  have hlj : 1 ≤ (pl (ov j)).length := by rw [hp, List.length_cons]; omega
  obtain ⟨el, nl, gl⟩ := getc (A := pl (ov j)) (m := (pl (ov j)).length - 1) (by omega)
  have hmul : mk (mulL (pl (ov i)) (pl (ov j))) = mulO (ov i) (ov j) := rfl
  have fin : ∀ (u1 u3 u4 : Option Value) (u2 : Option Int32) (h5 : XH) (L : List OP), Mo h5 m ov → Dm h5 m ov L → Fmk h h5 → L = mulL (pl (ov i)) (pl (ov j)) → b_X7_multiplied_235 d 77 u1 u2 u3 u4 h5 K E := by
    intro u1 u3 u4 u2 h5 L M5 D5 F5 hL
    refine w_X7_multiplied_235 (by omega) (F5.sg hs) (t_makes (n := 1) (x := mulO (ov i) (ov j)) (ok := ok) (by omega) (F5.sg hs) M5 D5 F5 (by rw [hL]; exact nf_mulO hgi.1 hgj.1) hm2 (by rw [hL]; rfl) (by rw [hL]; exact hok) (Nat.le_refl _) (fun r h2 m2 ov2 x1 x2 x3 x4 x5 x6 => kk r h2 m2 ov2 (fun i hi => (x1 i (by omega)).trans (he i hi)) (by omega) (by omega) (F0.tr x4.mo) x5 x6))
  have rest : ∀ (q t : Nat) (u2 : Option Int32) (u4 : Option Value) (l3 : Int32) (h5 : XH) (L : List OP), q + t = (pl (ov i)).length → l3.toInt = (8 * i + t : Nat) → Mo h5 m ov → Dm h5 m ov L → Fmk h h5 → L.length ≤ 20 + t → L ++ (pl (ov i)).drop t = mulL (pl (ov i)) (pl (ov j)) → b_X7_multiplied_197 d 77 a u2 l3 u4 h5 K E := by
    intro q
    induction q with
    | zero =>
      intro t u2 u4 l3 h5 L hq h3 M5 D5 F5 hl hL
      have s5 := M5.2.2.1 i hi
      have ea : (8 * a + h5.2.1 82 (ix a)).toInt = (8 * i + (pl (ov i)).length : Nat) := by rw [i_ix ha, i_add (by rw [k8a, s5]; omega) (by rw [k8a, s5]; omega), k8a, s5]; omega
      rw [List.drop_eq_nil_of_le (by omega), List.append_nil] at hL
      exact w_X7_multiplied_197 (by omega) (F5.sg hs) ⟨i_Ix ha (by omega), fun _ => fin _ _ _ _ h5 L M5 D5 F5 hL, fun w => absurd (i_le.mpr (by rw [ea, h3]; omega)) w⟩
    | succ q ih =>
      intro t u2 u4 l3 h5 L hq h3 M5 D5 F5 hl hL
      have s5 := M5.2.2.1 i hi
      have hs5 := F5.sg hs
      have ea : (8 * a + h5.2.1 82 (ix a)).toInt = (8 * i + (pl (ov i)).length : Nat) := by rw [i_ix ha, i_add (by rw [k8a, s5]; omega) (by rw [k8a, s5]; omega), k8a, s5]; omega
      obtain ⟨e, n, g⟩ := getc (A := pl (ov i)) (m := t) (by omega)
      obtain ⟨x1, x2, x3, x4, x5⟩ := M5.pw hi g
      refine w_X7_multiplied_197 (by omega) hs5 ⟨i_Ix ha (by omega), fun w => absurd (i_le.mp w) (by rw [ea, h3]; omega), fun _ => ⟨i_Ix h3 (by omega), i_Ix h3 (by omega), ?_⟩⟩
      rw [i_ix h3]
      refine t_X7_adds (n := n) (by omega) hs5 D5 (by omega) x4 (by omega) x3 (by rw [i_2j]; exact x5) (fun h6 D6 F6 a6 b6 => ⟨rfl, F6.sg hs5, ih (t + 1) _ _ _ h6 _ (by omega) ?_ (M5.add a6 b6) D6 (F5.tr F6) (by rw [List.length_append]; simp only [List.length_singleton]; omega) ?_⟩)
      · rw [i_add (by rw [i_1]; omega) (by rw [i_1]; omega), h3, i_1]; omega
      · rw [← hL, dropc g, List.append_assoc]; rfl
  have loop : ∀ (q t : Nat) (u4 : Option Value) (l3 : Int32) (h1 : XH) (L : List OP), q + t = (pl (ov j)).length → l3.toInt = t → Mo h1 m ov → Dm h1 m ov L → Fmk h h1 → L.length ≤ t → L ++ mulL (pl (ov i)) ((pl (ov j)).drop (if oc el .leaf = 0 ∧ t = (pl (ov j)).length then t - 1 else t)) = mulL (pl (ov i)) (pl (ov j)) → b_X7_multiplied_90 d 77 a b l3 u4 h1 K E := by
    intro q
    induction q with
    | zero =>
      intro t u4 l3 h1 L hq h3 M1 D1 F1 hl hL
      have s1 := M1.2.2.1 j hj
      have hs1 := F1.sg hs
      refine w_X7_multiplied_90 (by omega) hs1 ⟨i_Ix hb (by omega), fun _ => ?_, fun w => absurd (i_le.mpr (by rw [i_ix hb, s1, h3]; omega)) w⟩
      refine t_X7_last (i := j) (by omega) hs1 M1 hb hj h0j (fun r hr => ⟨r, rfl, hs1, ?_⟩)
      obtain ⟨g1, j2, g2, g3, g4⟩ := M1.lst hj h0j hr
      obtain ⟨z1, z2, z3, z4, z5⟩ := M1.pw hj gl
      have e80 : h1.2.1 80 (ix r) = h1.2.1 80 (8 * j + ((pl (ov j)).length - 1)) := by rw [i_ix hr]
      refine ⟨g1, fun w => ?_, fun w => ?_⟩
      · have hel : ¬ el = .leaf := fun v => w (i_ne.mpr (by rw [e80, z4]; rw [← z3] at v; rw [(M.ne (show z1 < m by omega)).mp v]; rfl))
        rw [if_neg (fun v => hel (oc_eq _ _ v.1)), List.drop_eq_nil_of_le (by omega)] at hL
        exact fin _ _ _ _ h1 L M1 D1 F1 (by rw [← hL]; exact (List.append_nil L).symm)
      · have hel : el = .leaf := by
          have v := i_ne.mp (Classical.not_not.mp w)
          rw [e80, z4] at v
          rw [← z3]
          exact (M.ne (show z1 < m by omega)).mpr (by omega)
        subst hel
        rw [if_pos ⟨rfl, by omega⟩, show t - 1 = (pl (ov j)).length - 1 by omega, dropc gl, List.drop_eq_nil_of_le (by omega), hA] at hL
        have Ia : Ix (8 * a) 16000 := i_Ix k8a (by omega)
        have ga : (pl (ov i))[0]? = some (al, na) := by rw [hA]; rfl
        obtain ⟨p1, p2, p3, p4, p5⟩ := M1.pw hi ga
        have hna := gd_tm hgi ga
        have hnl := gd_tm hgj gl
        have hnm : na * nl ≤ 1000000 * 1000000 := Nat.mul_le_mul hna hnl
        have enm : ((na : Int) * (nl : Int)) = ((na * nl : Nat) : Int) := by rw [Int.natCast_mul]
        refine ⟨Ia, Ia, ?_⟩
        refine t_X7_last (i := j) (by omega) hs1 M1 hb hj h0j (fun r2 hr2 => ⟨r2, rfl, hs1, i_Ix hr2 (by omega), ?_⟩)
        rw [i_ix k8a, i_ix hr2]
        refine t_X7_adds (n := na * nl) (by omega) hs1 D1 (by omega) p4 (by omega) p3 (by rw [j_mul (by rw [i_2j, i_2j, show h1.2.1 81 (8 * i) = h1.2.1 81 (8 * i + 0) from rfl, p5, z5, enm]; omega) (by rw [i_2j, i_2j, show h1.2.1 81 (8 * i) = h1.2.1 81 (8 * i + 0) from rfl, p5, z5, enm]; omega), i_2j, i_2j, show h1.2.1 81 (8 * i) = h1.2.1 81 (8 * i + 0) from rfl, p5, z5, enm]) (fun h6 D6 F6 a6 b6 => ⟨rfl, F6.sg hs1, rest ((pl (ov i)).length - 1) 1 _ _ _ h6 _ (by rw [hA, List.length_cons]; omega) ?_ (M1.add a6 b6) D6 (F1.tr F6) (by rw [List.length_append]; simp only [List.length_singleton]; omega) ?_⟩)
        · rw [i_add (by rw [i_1]; omega) (by rw [i_1]; omega), k8a, i_1]; omega
        · rw [← hA] at hL
          rw [← hL, List.append_assoc, hA]
          show L ++ ((al, na * nl) :: A) = L ++ (((al, na * nl) :: A) ++ [])
          rw [List.append_nil]
    | succ q ih =>
      intro t u4 l3 h1 L hq h3 M1 D1 F1 hl hL
      have s1 := M1.2.2.1 j hj
      have hs1 := F1.sg hs
      obtain ⟨e, n, g⟩ := getc (A := pl (ov j)) (m := t) (by omega)
      obtain ⟨x1, x2, x3, x4, x5⟩ := M1.pw hj g
      have k3 := e8k b l3 hb (by omega) h3 (by omega)
      have I3 : Ix (8 * b + l3) 16000 := i_Ix k3 (by omega)
      have e80 : h1.2.1 80 (ix (8 * b + l3)) = h1.2.1 80 (8 * j + t) := by rw [i_ix k3]
      have e81 : h1.2.1 81 (ix (8 * b + l3)) = h1.2.1 81 (8 * j + t) := by rw [i_ix k3]
      have nx : (l3 + 1).toInt = (t + 1 : Nat) := by rw [i_add (by rw [i_1]; omega) (by rw [i_1]; omega), h3, i_1]; rfl
      rw [if_neg (by omega)] at hL
      refine w_X7_multiplied_90 (by omega) hs1 ⟨i_Ix hb (by omega), fun w => absurd (i_le.mp w) (by rw [i_ix hb, s1, h3]; omega), fun _ => ⟨I3, fun w => ?_, fun w => ⟨i_Ix h3 (by omega), I3, ?_⟩⟩⟩
      · have hel : e = .leaf := by
          have v := i_ne.mp w
          rw [e80, x4] at v
          rw [← x3]
          exact (M.ne (show x1 < m by omega)).mpr (by omega)
        subst hel
        have hlast := leaf_last hsj g
        have hel2 : el = .leaf := by
          rw [show (pl (ov j)).length - 1 = t by omega, g] at gl
          cases gl
          rfl
        refine w_X7_multiplied_136 (by omega) hs1 (ih (t + 1) _ _ h1 L (by omega) nx M1 D1 F1 (by omega) ?_)
        rw [if_pos ⟨by rw [hel2]; rfl, by omega⟩]
        exact hL
      · have hel : ¬ e = .leaf := fun v => w (i_ne.mpr (by rw [e80, x4]; rw [← x3] at v; rw [(M.ne (show x1 < m by omega)).mp v]; rfl))
        obtain ⟨js, j1, j2, j3⟩ := hf t e n g hel
        have e87 : h1.2.1 87 (ix l3) = h.2.1 87 t := by rw [i_ix h3, (F1.2.2.1 87 (by omega)).1]
        rw [e81, e87]
        refine t_X7_adds (n := n) (by omega) hs1 D1 (by omega) j3 j1 j2 (by rw [i_2j]; exact x5) (fun h6 D6 F6 a6 b6 => ⟨rfl, F6.sg hs1, w_X7_multiplied_136 (by omega) (F6.sg hs1) (ih (t + 1) _ _ h6 _ (by omega) nx (M1.add a6 b6) D6 (F1.tr F6) (by rw [List.length_append]; simp only [List.length_singleton]; omega) ?_)⟩)
        have hnot : ¬ (oc el .leaf = 0 ∧ t + 1 = (pl (ov j)).length) := fun v => by
          rw [show (pl (ov j)).length - 1 = t by omega, g] at gl
          cases gl
          exact hel (oc_eq _ _ v.1)
        rw [if_neg hnot]
        rw [dropc g, hA, mul_ne hel, ← hA] at hL
        rw [← hL, List.append_assoc]
        rfl
  intro u4 h1 M1 D1 F1
  refine loop _ 0 u4 0 h1 [] (Nat.add_zero _) rfl M1 D1 F1 (Nat.zero_le _) ?_
  rw [if_neg (by omega)]
  rfl
theorem t_X7_multiplied {a b : Int32} {i j : Nat} (hd : 28 ≤ d) (hs : Sg h.1 y) (M : Mo h m ov) (ha : a.toInt = i) (hb : b.toInt = j) (hi : i < m) (hj : j < m) (hm9 : m + 9 < 2000) (kk : Kmo 9 h m ov (mulok (ov i) (ov j)) (mulO (ov i) (ov j)) K) : Ca d m_X7_multiplied [.ref 77, .int a, .int b] h K E := by
  obtain ⟨d, rfl⟩ : ∃ e, d = e + 1 := ⟨d - 1, by omega⟩
  have hgi := M.good hi
  have hgj := M.good hj
  have li := M.len hi
  have lj := M.len hj
  have k8a := e8m a ha (by omega)
  have k8b := e8m b hb (by omega)
  have hm1 := M.1.2.1
  have em1 : (-1 : Int32).toInt = -1 := rfl
  have zero : mulok (ov i) (ov j) → mulO (ov i) (ov j) = .leaf → K (some (.int 0)) h := fun v1 v2 => kk 0 h m ov (fun _ _ => rfl) (Nat.le_refl _) (by omega) (Fmo.rf h) M (Or.inl ⟨v1, 0, rfl, by omega, by rw [v2]; exact M.2.1⟩)
  refine w_X7_multiplied (by omega) hs ⟨fun z => ?_, fun z => ⟨fun w => ?_, fun w => ?_⟩⟩
  · have hi0 : ov i = .leaf := (M.ne hi).mpr (by have := i_ne.mp z; omega)
    refine zero (by unfold mulok; rw [hi0]; trivial) ?_
    rw [hi0]
    have : ∀ B, mulL [] B = [] := by
      intro B
      induction B with
      | nil => rfl
      | cons r B ih =>
        obtain ⟨b, m⟩ := r
        cases b with
        | leaf => show [] ++ mulL [] B = []; rw [ih]; rfl
        | inner => show [] ++ mulL [] B = []; rw [ih]; rfl
    unfold mulO
    rw [show pl .leaf = [] from rfl, this]
    rfl
  · have hil : ¬ ov i = .leaf := fun v => z (i_ne.mpr (by rw [ha, (M.ne hi).mp v]; rfl))
    have hjl : ¬ ov j = .leaf := fun v => w (i_ne.mpr (by rw [hb, (M.ne hj).mp v]; rfl))
    obtain ⟨al, na, A, hA⟩ := pl_cons hil
    obtain ⟨be, nb, B, hB⟩ := pl_cons hjl
    have mko : ∀ {P : Prop}, ((∀ q ∈ pl (ov j), okm (addO al q.1)) ∧ okm (mulO (ov i) (ov j)) → P) → mulok (ov i) (ov j) → P := fun hP hm => by
      unfold mulok at hm
      rw [hA] at hm
      rcases hm with v | v
      · rw [hB] at v; cases v
      · exact hP v
    have mki : (∀ q ∈ pl (ov j), okm (addO al q.1)) ∧ okm (mulO (ov i) (ov j)) → mulok (ov i) (ov j) := fun v => by
      unfold mulok
      rw [hA]
      exact Or.inr v
    have ga : (pl (ov i))[0]? = some (al, na) := by rw [hA]; rfl
    have Ia : Ix (8 * a) 16000 := i_Ix k8a (by omega)
    have hal : okm al := by
      obtain ⟨p1, p2, p3, p4, p5⟩ := M.pw hi ga
      rw [← p3]
      exact (M.good (show p1 < m by omega)).2
    have loop : ∀ (q t : Nat) (l3 : Int32) (u4 : Option Value) (h1 : XH) (m1 : Nat) (ov1 : Nat → O), q + t = (pl (ov j)).length → l3.toInt = t → Fmo h h1 → Mo h1 m1 ov1 → m ≤ m1 → m1 ≤ m + t → (∀ i, i < m → ov1 i = ov i) → (∀ t2 e n, t2 < t → (pl (ov j))[t2]? = some (e, n) → okm (addO al e) ∧ (¬ e = .leaf → ∃ js : Nat, js < m1 ∧ ov1 js = addO al e ∧ (h1.2.1 87 t2).toInt = js)) → b_X7_multiplied_12 d 77 a b l3 u4 h1 K E := by
      intro q
      induction q with
      | zero =>
        intro t l3 u4 h1 m1 ov1 hq h3 F1 M1 hm1' hm2' he hfd
        have hs1 := F1.sg hs
        have hi1 := he i hi
        have hj1 := he j hj
        have s1 := M1.2.2.1 j (by omega)
        rw [hj1] at s1
        refine w_X7_multiplied_12 (by omega) hs1 ⟨i_Ix hb (by omega), fun _ h2 e2 => ?_, fun v => absurd (i_le.mpr (by rw [i_ix hb, s1, h3]; omega)) v⟩
        obtain ⟨D2, F2⟩ := Dm.zero h1 m1 ov1
        have M2 := M1.zero
        rw [← e2] at D2 F2 M2
        have hall : ∀ q ∈ pl (ov j), okm (addO al q.1) := fun q hq2 => by
          obtain ⟨t2, ht⟩ := List.getElem?_of_mem hq2
          exact (hfd t2 q.1 q.2 (by have := (List.getElem?_eq_some_iff.mp ht).1; omega) ht).1
        refine t_X7_mul_end (i := i) (j := j) (n0 := 9) (m0 := m) (ov0 := ov) (by omega) hs1 M1 ha hb (by omega) (by omega) (by rw [hi1]; exact hA) (by omega) F1 hm1' (by omega) he (fun t2 e n ht hne => ?_) (mulok (ov i) (ov j)) ?_ (by rw [hj1]; exact hjl) (by rw [hi1, hj1]; exact kk) _ h2 M2 D2 F2
        · rw [hj1] at ht
          exact (hfd t2 e n (by have := (List.getElem?_eq_some_iff.mp ht).1; omega) ht).2 hne
        · rw [hi1, hj1]
          exact ⟨fun v => mki ⟨hall, v⟩, fun v => mko (fun x => x.2) v⟩
      | succ q ih =>
        intro t l3 u4 h1 m1 ov1 hq h3 F1 M1 hm1' hm2' he hfd
        have hs1 := F1.sg hs
        have hi1 := he i hi
        have hj1 := he j hj
        have s1 := M1.2.2.1 j (by omega)
        rw [hj1] at s1
        obtain ⟨e, n, g⟩ := getc (A := pl (ov j)) (m := t) (by omega)
        have g' : (pl (ov1 j))[t]? = some (e, n) := by rw [hj1]; exact g
        have ga' : (pl (ov1 i))[0]? = some (al, na) := by rw [hi1]; exact ga
        obtain ⟨x1, x2, x3, x4, x5⟩ := M1.pw (by omega) g'
        obtain ⟨p1, p2, p3, p4, p5⟩ := M1.pw (by omega) ga'
        have k3 := e8k b l3 hb (by omega) h3 (by omega)
        have I3 : Ix (8 * b + l3) 16000 := i_Ix k3 (by omega)
        have e80 : h1.2.1 80 (ix (8 * b + l3)) = h1.2.1 80 (8 * j + t) := by rw [i_ix k3]
        have ea80 : h1.2.1 80 (ix (8 * a)) = h1.2.1 80 (8 * i + 0) := by rw [i_ix k8a]; rfl
        have nx : (l3 + 1).toInt = (t + 1 : Nat) := by rw [i_add (by rw [i_1]; omega) (by rw [i_1]; omega), h3, i_1]; rfl
        -- found and laid
        have found : ∀ (u : Option Value) (s0 : Int32) (h5 : XH) (m5 : Nat) (ov5 : Nat → O), Fmo h h5 → Mo h5 m5 ov5 → m ≤ m5 → m5 ≤ m + (t + 1) → m1 ≤ m5 → (∀ i, i < m1 → ov5 i = ov1 i) → (h5.2.1 87 = h1.2.1 87) → (¬ s0 = -1 → okm (addO al e) ∧ (¬ e = .leaf → ∃ js : Nat, js < m5 ∧ ov5 js = addO al e ∧ s0.toInt = js)) → (s0 = -1 → ¬ mulok (ov i) (ov j)) → b_X7_multiplied_64 d 77 a b l3 u s0 l3 87 h5 K E := by
          intro u s0 h5 m5 ov5 F5 M5 q1 q2 q3 q4 q5 q6 q7
          have hs5 := F5.sg hs
          refine w_X7_multiplied_64 (by omega) hs5 ⟨i_Ix h3 (by omega), fun h6 e6 => ?_⟩
          rw [i_ix h3] at e6
          have M6 : Mo h6 m5 ov5 := by rw [e6]; exact M5.fr (by rw [sI_nq _ _ (by omega)]) (fun r a b => sI_nq _ _ (by omega))
          have F6 : Fmo h h6 := F5.tr (by rw [e6]; exact ⟨rfl, rfl, fun r hr => ⟨sI_nq _ _ (by omega), rfl⟩, fun s _ _ => by rw [sI_nq _ _ (by omega)], rfl⟩)
          have v6 : h6.2.1 87 (ix l3) = s0 := by rw [i_ix h3, e6, sI_eq]
          rw [v6]
          refine ⟨i_Ix h3 (by omega), fun v => ?_, fun v => ?_⟩
          · refine ih (t + 1) _ _ h6 m5 ov5 (by omega) nx F6 M6 q1 q2 (fun i hi => (q4 i (by omega)).trans (he i hi)) (fun t2 e2 n2 ht2 g2 => ?_)
            by_cases z9 : t2 = t
            · rw [z9, g] at g2
              cases g2
              refine ⟨(q6 v).1, fun hne => ?_⟩
              obtain ⟨js, j1, j2, j3⟩ := (q6 v).2 hne
              exact ⟨js, j1, j2, by rw [z9, e6, sI_eq]; exact j3⟩
            · refine ⟨(hfd t2 e2 n2 (by omega) g2).1, fun hne => ?_⟩
              obtain ⟨js, j1, j2, j3⟩ := (hfd t2 e2 n2 (by omega) g2).2 hne
              exact ⟨js, by omega, (q4 js j1).trans j2, by rw [e6, sI_ne _ _ z9, q5]; exact j3⟩
          · have v2 := Classical.not_not.mp v
            exact kk (-1) h6 m5 ov5 (fun i hi => (q4 i (by omega)).trans (he i hi)) q1 (by omega) F6 M6 (Or.inr ⟨q7 v2, rfl⟩)
        refine w_X7_multiplied_12 (by omega) hs1 ⟨i_Ix hb (by omega), fun v => absurd (i_le.mp v) (by rw [i_ix hb, s1, h3]; omega), fun _ => ⟨I3, fun v => ⟨Ia, ?_⟩, fun v => ?_⟩⟩
        · rw [e80, ea80]
          refine t_X7_summed (i := p1) (j := x1) (by omega) hs1 M1 p4 x4 (by omega) (by omega) (by omega) (fun r h5 m5 ov5 y1 y2 y3 y4 y5 y6 => ⟨r, rfl, y4.sg hs1, found _ r h5 m5 ov5 (F1.tr y4.mo) y5 (by omega) (by omega) y2 y1 (y4.2.2.1 87 (by omega)).1 (fun v2 => ?_) (fun v2 => ?_)⟩)
          · rw [p3, x3] at y6
            rcases y6 with ⟨o1, o2⟩ | ⟨o1, o2⟩
            · obtain ⟨r2, r3, r4, r5⟩ := o2
              exact ⟨o1, fun _ => ⟨r2, r4, r5, r3⟩⟩
            · exact absurd (Int32.toInt_inj.mp (by rw [o2]; rfl)) v2
          · rw [p3, x3] at y6
            rcases y6 with ⟨o1, r2, r3, r4, r5⟩ | ⟨o1, o2⟩
            · rw [v2, em1] at r3
              omega
            · exact fun mm => o1 (mko (fun x => x.1 (e, n) (List.mem_of_getElem? g)) mm)
        · have hel : e = .leaf := by
            have v3 := i_ne.mp (Classical.not_not.mp v)
            rw [e80, x4] at v3
            rw [← x3]
            exact (M1.ne (show x1 < m1 by omega)).mpr (by omega)
          refine found _ 0 h1 m1 ov1 F1 M1 hm1' (by omega) (Nat.le_refl _) (fun _ _ => rfl) rfl (fun _ => ⟨?_, fun hne => absurd hel hne⟩) (fun v2 => absurd v2 (by decide))
          rw [hel, addO_leaf]
          exact hal
    exact loop _ 0 0 none h m ov (Nat.add_zero _) rfl (Fmo.rf h) M (Nat.le_refl _) (by omega) (fun _ _ => rfl) (fun t2 _ _ ht => by omega)
  · have hj0 : ov j = .leaf := (M.ne hj).mpr (by have := i_ne.mp (Classical.not_not.mp w); omega)
    refine zero ?_ (by rw [hj0]; rfl)
    unfold mulok
    cases pl (ov i) with
    | nil => trivial
    | cons p l => exact Or.inl (by rw [hj0]; rfl)
end
