/-! ===== layer 2: the model's natural product ===== -/
def prL (e : O) (n : Nat) : List OP → List OP
  | [] => []
  | q :: B => (naO e q.1, n * q.2) :: prL e n B
def prs : List OP → List OP → List OP
  | [], _ => []
  | p :: A, B => prL p.1 p.2 B ++ prs A B
def insAll : List OP → List OP → List OP
  | [], P => P
  | q :: Q, P => insAll Q (ins q.1 q.2 P)
theorem insAll_app : ∀ (Q R P : List OP), insAll (Q ++ R) P = insAll R (insAll Q P) := by
  intro Q
  induction Q with
  | nil => intro R P; rfl
  | cons q Q ih => intro R P; exact ih R _
theorem nmRow_eq {e : O} {n : Nat} : ∀ (B P : List OP), nmRow e n B P = insAll (prL e n B) P := by
  intro B
  induction B with
  | nil => intro P; rfl
  | cons q B ih => intro P; exact ih _
theorem nmL_eq : ∀ (A B P : List OP), nmL A B P = insAll (prs A B) P := by
  intro A
  induction A with
  | nil => intro B P; rfl
  | cons p A ih =>
    intro B P
    show nmL A B (nmRow p.1 p.2 B P) = insAll (prL p.1 p.2 B ++ prs A B) P
    rw [ih, nmRow_eq, insAll_app]
theorem prs_snoc (B : List OP) (p : OP) : ∀ A, prs (A ++ [p]) B = prs A B ++ prL p.1 p.2 B := by
  intro A
  induction A with
  | nil => show prL p.1 p.2 B ++ [] = [] ++ prL p.1 p.2 B; rw [List.append_nil, List.nil_append]
  | cons q A ih => show prL q.1 q.2 B ++ prs (A ++ [p]) B = prL q.1 q.2 B ++ prs A B ++ _; rw [ih, List.append_assoc]
theorem prL_snoc (e : O) (n : Nat) (q : OP) : ∀ B, prL e n (B ++ [q]) = prL e n B ++ [(naO e q.1, n * q.2)] := by
  intro B
  induction B with
  | nil => rfl
  | cons r B ih => show _ :: prL e n (B ++ [q]) = _ :: _ ++ _; rw [ih]; rfl
section
variable {d : Nat} {h : XH} {y : Nat → Nat} {m : Nat} {ov : Nat → O} {K : XK} {E : XE}
theorem t_X7_multipliedNaturally {a b : Int32} {i j : Nat} (hd : 28 ≤ d) (hs : Sg h.1 y) (M : Mo h m ov) (ha : a.toInt = i) (hb : b.toInt = j) (hi : i < m) (hj : j < m) (hm6 : m + 66 < 2000) (kk : Kmo 66 h m ov (nmok (ov i) (ov j)) (nmO (ov i) (ov j)) K) : Ca d m_X7_multipliedNaturally [.ref 77, .int a, .int b] h K E := by
  obtain ⟨d, rfl⟩ : ∃ e, d = e + 1 := ⟨d - 1, by omega⟩
  have hgi := M.good hi
  have hgj := M.good hj
  have li := M.len hi
  have lj := M.len hj
  have k8a := e8m a ha (by omega)
  have k8b := e8m b hb (by omega)
  have em1 : (-1 : Int32).toInt = -1 := rfl
  have pos : ∀ (x : O), gd x → ∀ (t : Nat) (e : O) (n : Nat), (pl x)[t]? = some (e, n) → 1 ≤ n := fun x hg t e n g => by
    have := nf_srt _ hg.1
    rw [← List.take_append_drop t (pl x), dropc g] at this
    exact (srt_app.mp this).2.1.1
  -- the pairs are put
  have put : ∀ (Q : List OP) (m1 : Nat) (ov1 : Nat → O) (h0 : XH), Q = prs (pl (ov i)) (pl (ov j)) → Q.length ≤ 64 → m ≤ m1 → m1 ≤ m + 64 → (∀ i, i < m → ov1 i = ov i) → Fmo h h0 → (∀ (k : Nat) (x : O) (n : Nat), Q[k]? = some (x, n) → nf x ∧ 1 ≤ n ∧ n ≤ 1000000000000 ∧ ∃ js : Nat, js < m1 ∧ ov1 js = x ∧ (h0.2.1 87 k).toInt = js ∧ (h0.2.2.1 88 k).toInt = n) → (∀ p ∈ pl (ov i), ∀ q ∈ pl (ov j), okm (naO p.1 q.1)) →
      ∀ (q k : Nat) (u1 u2 u5 : Option Value) (l3 l4 : Int32) (h1 : XH) (P : List OP), q + k = Q.length → l3.toInt = Q.length → l4.toInt = k → Mo h1 m1 ov1 → Dm h1 m1 ov1 P → Fmk h0 h1 → srt P → (∀ p ∈ P, nf p.1) → (∀ p ∈ P, p.2 ≤ 1000000000000 * k) → P.length ≤ k → insAll (Q.drop k) P = nmL (pl (ov i)) (pl (ov j)) [] → b_X7_multipliedNaturally_128 d 77 u1 u2 l3 l4 u5 h1 K E := by
    intro Q m1 ov1 h0 hQ hQ64 hm1 hm1' he F0 hf hall q
    induction q with
    | zero =>
      intro k u1 u2 u5 l3 l4 h1 P hq h3 h4 M1 D1 F1 sP nP bP lP hP
      have hs1 := F1.sg (F0.sg hs)
      rw [List.drop_eq_nil_of_le (by omega)] at hP
      have hP2 : P = nmL (pl (ov i)) (pl (ov j)) [] := hP
      refine w_X7_multipliedNaturally_128 (by omega) hs1 ⟨fun _ => ?_, fun w => absurd (i_le.mpr (by omega)) w⟩
      refine t_makes (h := h0) (n := 1) (x := nmO (ov i) (ov j)) (ok := nmok (ov i) (ov j)) (by omega) hs1 M1 D1 F1 (nf_mk _ sP nP) (by omega) (by rw [hP2]; rfl) ?_ (Nat.le_refl _) (fun r h2 m2 ov2 x1 x2 x3 x4 x5 x6 => kk r h2 m2 ov2 (fun i hi => (x1 i (by omega)).trans (he i hi)) (by omega) (by omega) (F0.tr x4.mo) x5 x6)
      rw [hP2]
      exact ⟨fun v => ⟨hall, v⟩, fun v => v.2⟩
    | succ q ih =>
      intro k u1 u2 u5 l3 l4 h1 P hq h3 h4 M1 D1 F1 sP nP bP lP hP
      have hs1 := F1.sg (F0.sg hs)
      obtain ⟨x, n, g⟩ := getc (A := Q) (m := k) (by omega)
      obtain ⟨f0, f1, f2, js, j1, j2, j3, j4⟩ := hf k x n g
      have I4 : Ix l4 64 := i_Ix h4 (by omega)
      have e87 : h1.2.1 87 (ix l4) = h0.2.1 87 k := by rw [i_ix h4, (F1.2.2.1 87 (by omega)).1]
      have e88 : h1.2.2.1 88 (ix l4) = h0.2.2.1 88 k := by rw [i_ix h4, (F1.2.2.1 88 (by omega)).2]
      have hbig : 1000000000000 * k ≤ 1000000000000 * 64 := Nat.mul_le_mul_left _ (by omega)
      rw [dropc g] at hP
      refine w_X7_multipliedNaturally_128 (by omega) hs1 ⟨fun w => absurd (i_le.mp w) (by omega), fun _ => ⟨I4, I4, ?_⟩⟩
      rw [e87, e88]
      refine t_X7_puts (n := n) (by omega) hs1 M1 D1 (by omega) sP j3 j1 j2 j4 (fun p hp => by have := bP p hp; omega) (fun h2 M2 D2 F2 => ⟨rfl, F2.sg hs1, ih (k + 1) _ _ _ _ _ h2 _ (by omega) h3 ?_ M2 D2 (F1.tr F2) (srt_ins f1 sP) (fun p hp => ?_) (fun p hp => ?_) ?_ hP⟩)
      · rw [i_add (by rw [i_1]; omega) (by rw [i_1]; omega), h4, i_1]; rfl
      · rcases mem_ins hp with z | ⟨r, z1, z2⟩
        · rw [z]; exact f0
        · rw [← z2]; exact nP r z1
      · have := ins_le bP p hp
        have h9 : 1000000000000 * (k + 1) = 1000000000000 * k + 1000000000000 := Nat.mul_succ _ _
        omega
      · have := (ins_len (e := x) (n := n) (P := P)).2
        omega
  -- the pairs are found: inner row
  have inner : ∀ (s : Nat) (e : O) (n : Nat) (l4 : Int32), (pl (ov i))[s]? = some (e, n) → l4.toInt = (8 * i + s : Nat) →
      (∀ (l3 l4' : Int32) (u5 : Option Value) (h1 : XH) (m1 : Nat) (ov1 : Nat → O) (Q : List OP), l4'.toInt = (8 * i + (s + 1) : Nat) → Q = prs ((pl (ov i)).take (s + 1)) (pl (ov j)) → l3.toInt = Q.length → Q.length ≤ 8 * (s + 1) → Fmo h h1 → Mo h1 m1 ov1 → m ≤ m1 → m1 ≤ m + Q.length → (∀ i, i < m → ov1 i = ov i) → (∀ (k : Nat) (x : O) (n : Nat), Q[k]? = some (x, n) → nf x ∧ 1 ≤ n ∧ n ≤ 1000000000000 ∧ ∃ js : Nat, js < m1 ∧ ov1 js = x ∧ (h1.2.1 87 k).toInt = js ∧ (h1.2.2.1 88 k).toInt = n) → (∀ p ∈ (pl (ov i)).take (s + 1), ∀ q ∈ pl (ov j), okm (naO p.1 q.1)) → b_X7_multipliedNaturally_8 d 77 a b l3 l4' u5 h1 K E) →
      ∀ (q t : Nat) (l3 l5 : Int32) (h1 : XH) (m1 : Nat) (ov1 : Nat → O) (Q : List OP), q + t = (pl (ov j)).length → l5.toInt = (8 * j + t : Nat) → Q = prs ((pl (ov i)).take s) (pl (ov j)) ++ prL e n ((pl (ov j)).take t) → l3.toInt = Q.length → Q.length ≤ 8 * s + t → Fmo h h1 → Mo h1 m1 ov1 → m ≤ m1 → m1 ≤ m + Q.length → (∀ i, i < m → ov1 i = ov i) → (∀ (k : Nat) (x : O) (n : Nat), Q[k]? = some (x, n) → nf x ∧ 1 ≤ n ∧ n ≤ 1000000000000 ∧ ∃ js : Nat, js < m1 ∧ ov1 js = x ∧ (h1.2.1 87 k).toInt = js ∧ (h1.2.2.1 88 k).toInt = n) → (∀ p ∈ (pl (ov i)).take s, ∀ q ∈ pl (ov j), okm (naO p.1 q.1)) → (∀ q ∈ (pl (ov j)).take t, okm (naO e q.1)) → b_X7_multipliedNaturally_30 d 77 a b l3 l4 l5 h1 K E := by
    intro s e n l4 g h4 next q
    have hsl := (List.getElem?_eq_some_iff.mp g).1
    have hn1 := gd_tm hgi g
    have hn0 := pos _ hgi s e n g
    induction q with
    | zero =>
      intro t l3 l5 h1 m1 ov1 Q hq h5 hQ h3 hQl F1 M1 hm1 hm1' he hf ok1 ok2
      have hs1 := F1.sg hs
      have s1 := M1.2.2.1 j (by omega)
      rw [he j hj] at s1
      have eb : (8 * b + h1.2.1 82 (ix b)).toInt = (8 * j + (pl (ov j)).length : Nat) := by rw [i_ix hb, i_add (by rw [k8b, s1]; omega) (by rw [k8b, s1]; omega), k8b, s1]; omega
      rw [List.take_of_length_le (show (pl (ov j)).length ≤ t by omega)] at hQ ok2
      refine w_X7_multipliedNaturally_30 (by omega) hs1 ⟨i_Ix hb (by omega), fun _ => next l3 _ _ h1 m1 ov1 Q ?_ (by rw [hQ, takec g, prs_snoc]) h3 (by omega) F1 M1 hm1 hm1' he hf (fun p hp q' hq' => ?_), fun w => absurd (i_le.mpr (by rw [eb, h5]; omega)) w⟩
      · rw [i_add (by rw [i_1]; omega) (by rw [i_1]; omega), h4, i_1]; omega
      · rw [takec g] at hp
        rcases List.mem_append.mp hp with z | z
        · exact ok1 p z q' hq'
        · rw [List.mem_singleton.mp z]; exact ok2 q' hq'
    | succ q ih =>
      intro t l3 l5 h1 m1 ov1 Q hq h5 hQ h3 hQl F1 M1 hm1 hm1' he hf ok1 ok2
      have hs1 := F1.sg hs
      have s1 := M1.2.2.1 j (by omega)
      rw [he j hj] at s1
      have eb : (8 * b + h1.2.1 82 (ix b)).toInt = (8 * j + (pl (ov j)).length : Nat) := by rw [i_ix hb, i_add (by rw [k8b, s1]; omega) (by rw [k8b, s1]; omega), k8b, s1]; omega
      obtain ⟨f, mm, g2⟩ := getc (A := pl (ov j)) (m := t) (by omega)
      have hm1x := gd_tm hgj g2
      have hm0x := pos _ hgj t f mm g2
      obtain ⟨p1, p2, p3, p4, p5⟩ := M1.pw (show i < m1 by omega) (by rw [he i hi]; exact g)
      obtain ⟨r1, r2, r3, r4, r5⟩ := M1.pw (show j < m1 by omega) (by rw [he j hj]; exact g2)
      have I4 : Ix l4 16000 := i_Ix h4 (by omega)
      have I5 : Ix l5 16000 := i_Ix h5 (by omega)
      have I3 : Ix l3 64 := i_Ix h3 (by omega)
      have hmul : n * mm ≤ 1000000 * 1000000 := Nat.mul_le_mul hn1 hm1x
      have hmul1 : 1 ≤ n * mm := Nat.mul_le_mul hn0 hm0x
      have enm : ((n : Int) * (mm : Int)) = ((n * mm : Nat) : Int) := by rw [Int.natCast_mul]
      refine w_X7_multipliedNaturally_30 (by omega) hs1 ⟨i_Ix hb (by omega), fun w => absurd (i_le.mp w) (by rw [eb, h5]; omega), fun _ => ⟨I4, I5, ?_⟩⟩
      rw [i_ix h4, i_ix h5]
      refine t_X7_summedNaturally (i := p1) (j := r1) (by omega) hs1 M1 p4 r4 (by omega) (by omega) (by omega) (fun r h5' m5 ov5 y1 y2 y3 y4 y5 y6 => ⟨r, rfl, y4.sg hs1, I3, fun h6 e6 => ⟨I3, ?_⟩⟩)
      rw [p3, r3] at y6
      rw [i_ix h3] at e6
      have M6 : Mo h6 m5 ov5 := by rw [e6]; exact y5.fr (by rw [sI_nq _ _ (by omega)]) (fun r a b => sI_nq _ _ (by omega))
      have F6 : Fmo h h6 := (F1.tr y4.mo).tr (by rw [e6]; exact ⟨rfl, rfl, fun r hr => ⟨sI_nq _ _ (by omega), rfl⟩, fun s _ _ => by rw [sI_nq _ _ (by omega)], rfl⟩)
      have v6 : h6.2.1 87 (ix l3) = r := by rw [i_ix h3, e6, sI_eq]
      rw [v6]
      refine ⟨fun v => ⟨I4, I5, I3, fun h7 e7 => ?_⟩, fun v => ?_⟩
      · rcases y6 with ⟨o1, r2', q1, q2, q3⟩ | ⟨-, o2⟩
        · rw [i_ix h3] at e7
          have M7 : Mo h7 m5 ov5 := M6.fr (by rw [e7]; rfl) (fun r _ _ => by rw [e7]; rfl)
          have F7 : Fmo h h7 := F6.tr (by rw [e7]; exact ⟨rfl, rfl, fun r hr => ⟨rfl, sJ_nq _ _ (by omega)⟩, fun s _ _ => rfl, sJ_nq _ _ (by omega)⟩)
          have t6 : (h6.2.1 81 (8 * i + s)).toInt = n := by
            obtain ⟨_, _, _, _, a5⟩ := M6.pw (show i < m5 by omega) (by rw [y1 i (by omega), he i hi]; exact g)
            exact a5
          have t7 : (h6.2.1 81 (8 * j + t)).toInt = mm := by
            obtain ⟨_, _, _, _, a5⟩ := M6.pw (show j < m5 by omega) (by rw [y1 j (by omega), he j hj]; exact g2)
            exact a5
          have hQ2 : prs ((pl (ov i)).take s) (pl (ov j)) ++ prL e n ((pl (ov j)).take (t + 1)) = Q ++ [(naO e f, n * mm)] := by rw [takec g2, prL_snoc, hQ, List.append_assoc]
          have hl2 : (Q ++ [(naO e f, n * mm)]).length = Q.length + 1 := by rw [List.length_append]; rfl
          refine ih (t + 1) _ _ h7 m5 ov5 (Q ++ [(naO e f, n * mm)]) (by omega) ?_ hQ2.symm ?_ (by omega) F7 M7 (by omega) (by omega) (fun i hi => (y1 i (by omega)).trans (he i hi)) (fun k x n9 hk => ?_) ok1 (fun q' hq' => ?_)
          · rw [i_add (by rw [i_1]; omega) (by rw [i_1]; omega), h5, i_1]; omega
          · rw [i_add (by rw [i_1]; omega) (by rw [i_1]; omega), h3, i_1, hl2]; rfl
          · have i87 : h7.2.1 87 k = if k = Q.length then r else h1.2.1 87 k := by
              rw [e7]
              show h6.2.1 87 k = _
              rw [e6]
              by_cases z : k = Q.length
              · rw [z, sI_eq, if_pos rfl]
              · rw [sI_ne _ _ z, if_neg z, (y4.2.2.1 87 (by omega)).1]
            have j88 : h7.2.2.1 88 k = if k = Q.length then (h6.2.1 81 (8 * i + s)).toInt64 * (h6.2.1 81 (8 * j + t)).toInt64 else h1.2.2.1 88 k := by
              rw [e7]
              by_cases z : k = Q.length
              · rw [z, sJ_eq, if_pos rfl]
              · rw [sJ_ne _ _ z, if_neg z, e6]
                show h5'.2.2.1 88 k = _
                rw [(y4.2.2.1 88 (by omega)).2]
            rw [i87, j88]
            have hkl := (List.getElem?_eq_some_iff.mp hk).1
            by_cases z : k = Q.length
            · rw [z, List.getElem?_append_right (Nat.le_refl _), Nat.sub_self] at hk
              cases hk
              rw [if_pos z, if_pos z]
              exact ⟨nf_naO (nf_ex _ hgi.1 _ (List.mem_of_getElem? g)) (nf_ex _ hgj.1 _ (List.mem_of_getElem? g2)), hmul1, hmul, r2', q2, q3, q1, by rw [j_mul (by rw [i_2j, i_2j, t6, t7, enm]; omega) (by rw [i_2j, i_2j, t6, t7, enm]; omega), i_2j, i_2j, t6, t7, enm]⟩
            · rw [List.getElem?_append_left (by omega)] at hk
              rw [if_neg z, if_neg z]
              obtain ⟨f0, f1, f2, js, j1, j2, j3, j4⟩ := hf k x n9 hk
              exact ⟨f0, f1, f2, js, by omega, (y1 js j1).trans j2, j3, j4⟩
          · rw [takec g2] at hq'
            rcases List.mem_append.mp hq' with z | z
            · exact ok2 q' z
            · rw [List.mem_singleton.mp z]; exact o1
        · exact absurd (Int32.toInt_inj.mp (by rw [o2]; rfl)) v
      · have v2 := Classical.not_not.mp v
        rcases y6 with ⟨-, r2', q1, -⟩ | ⟨o1, -⟩
        · rw [v2, em1] at q1
          omega
        · exact kk (-1) h6 m5 ov5 (fun i hi => (y1 i (by omega)).trans (he i hi)) (by omega) (by omega) F6 M6 (Or.inr ⟨fun mm9 => o1 (mm9.1 (e, n) (List.mem_of_getElem? g) (f, mm) (List.mem_of_getElem? g2)), rfl⟩)
  have outer : ∀ (q s : Nat) (l3 l4 : Int32) (u5 : Option Value) (h1 : XH) (m1 : Nat) (ov1 : Nat → O) (Q : List OP), q + s = (pl (ov i)).length → l4.toInt = (8 * i + s : Nat) → Q = prs ((pl (ov i)).take s) (pl (ov j)) → l3.toInt = Q.length → Q.length ≤ 8 * s → Fmo h h1 → Mo h1 m1 ov1 → m ≤ m1 → m1 ≤ m + Q.length → (∀ i, i < m → ov1 i = ov i) → (∀ (k : Nat) (x : O) (n : Nat), Q[k]? = some (x, n) → nf x ∧ 1 ≤ n ∧ n ≤ 1000000000000 ∧ ∃ js : Nat, js < m1 ∧ ov1 js = x ∧ (h1.2.1 87 k).toInt = js ∧ (h1.2.2.1 88 k).toInt = n) → (∀ p ∈ (pl (ov i)).take s, ∀ q ∈ pl (ov j), okm (naO p.1 q.1)) → b_X7_multipliedNaturally_8 d 77 a b l3 l4 u5 h1 K E := by
    intro q
    induction q with
    | zero =>
      intro s l3 l4 u5 h1 m1 ov1 Q hq h4 hQ h3 hQl F1 M1 hm1 hm1' he hf ok1
      have hs1 := F1.sg hs
      have s1 := M1.2.2.1 i (by omega)
      rw [he i hi] at s1
      have ea : (8 * a + h1.2.1 82 (ix a)).toInt = (8 * i + (pl (ov i)).length : Nat) := by rw [i_ix ha, i_add (by rw [k8a, s1]; omega) (by rw [k8a, s1]; omega), k8a, s1]; omega
      rw [List.take_of_length_le (show (pl (ov i)).length ≤ s by omega)] at hQ ok1
      refine w_X7_multipliedNaturally_8 (by omega) hs1 ⟨i_Ix ha (by omega), fun _ h2 e2 => ?_, fun w => absurd (i_le.mpr (by rw [ea, h4]; omega)) w⟩
      obtain ⟨D2, F2⟩ := Dm.zero h1 m1 ov1
      have M2 := M1.zero
      rw [← e2] at D2 F2 M2
      refine put Q m1 ov1 h1 hQ (by omega) hm1 (by omega) he F1 hf ok1 Q.length 0 _ _ _ l3 0 h2 [] (Nat.add_zero _) h3 rfl M2 D2 F2 trivial (fun p hp => absurd hp List.not_mem_nil) (fun p hp => absurd hp List.not_mem_nil) (Nat.le_refl _) ?_
      rw [List.drop_zero, nmL_eq, hQ]
    | succ q ih =>
      intro s l3 l4 u5 h1 m1 ov1 Q hq h4 hQ h3 hQl F1 M1 hm1 hm1' he hf ok1
      have hs1 := F1.sg hs
      have s1 := M1.2.2.1 i (by omega)
      rw [he i hi] at s1
      have ea : (8 * a + h1.2.1 82 (ix a)).toInt = (8 * i + (pl (ov i)).length : Nat) := by rw [i_ix ha, i_add (by rw [k8a, s1]; omega) (by rw [k8a, s1]; omega), k8a, s1]; omega
      obtain ⟨e, n, g⟩ := getc (A := pl (ov i)) (m := s) (by omega)
      refine w_X7_multipliedNaturally_8 (by omega) hs1 ⟨i_Ix ha (by omega), fun w => absurd (i_le.mp w) (by rw [ea, h4]; omega), fun _ => ?_⟩
      refine inner s e n l4 g h4 (fun l3' l4' u5' h1' m1' ov1' Q' a4 aQ a3 aQl aF aM am am' ae af aok => ih (s + 1) l3' l4' u5' h1' m1' ov1' Q' (by omega) a4 aQ a3 aQl aF aM am am' ae af aok) _ 0 l3 (8 * b) h1 m1 ov1 Q (Nat.add_zero _) (by rw [k8b]; rfl) ?_ h3 (by omega) F1 M1 hm1 hm1' he hf ok1 (fun q' hq' => absurd hq' List.not_mem_nil)
      rw [hQ]
      exact (List.append_nil _).symm
  exact w_X7_multipliedNaturally (by omega) hs (outer _ 0 0 (8 * a) none h m ov [] (Nat.add_zero _) (by rw [k8a]; rfl) rfl rfl (Nat.le_refl _) (Fmo.rf h) M (Nat.le_refl _) (by omega) (fun _ _ => rfl) (fun k x n hk => by cases hk) (fun p hp => absurd hp List.not_mem_nil))
end
