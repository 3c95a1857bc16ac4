/-! ===== layer 2: the model's sums ===== -/
/-- the powers with exponents above f -/
def fl (f : O) : List OP → List OP
  | [] => []
  | p :: l => if oc p.1 f = 1 then p :: fl f l else fl f l
/-- the times of the latest power with the exponent f -/
def mr (f : O) : Nat → List OP → Nat
  | a, [] => a
  | a, p :: l => mr f (if oc p.1 f = 0 then p.2 else a) l
theorem fl_app {f : O} {p : OP} : ∀ A, fl f (A ++ [p]) = fl f A ++ (if oc p.1 f = 1 then [p] else []) := by
  intro A
  induction A with
  | nil => rfl
  | cons q A ih =>
    show (if oc q.1 f = 1 then q :: fl f (A ++ [p]) else fl f (A ++ [p])) = (if oc q.1 f = 1 then q :: fl f A else fl f A) ++ _
    rw [ih]
    split <;> rfl
theorem mr_app {f : O} {p : OP} : ∀ A a, mr f a (A ++ [p]) = if oc p.1 f = 0 then p.2 else mr f a A := by
  intro A
  induction A with
  | nil => intro a; rfl
  | cons q A ih => intro a; exact ih _
theorem fl_none {f : O} : ∀ A : List OP, (∀ p ∈ A, ¬ oc p.1 f = 1) → fl f A = [] := by
  intro A
  induction A with
  | nil => intro _; rfl
  | cons q A ih =>
    intro h
    show (if oc q.1 f = 1 then _ else fl f A) = []
    rw [if_neg (h q List.mem_cons_self)]
    exact ih (fun p hp => h p (List.mem_cons_of_mem _ hp))
theorem mr_none {f : O} : ∀ (A : List OP) (a : Nat), (∀ p ∈ A, ¬ oc p.1 f = 0) → mr f a A = a := by
  intro A
  induction A with
  | nil => intro a _; rfl
  | cons q A ih =>
    intro a h
    show mr f (if oc q.1 f = 0 then _ else a) A = a
    rw [if_neg (h q List.mem_cons_self)]
    exact ih a (fun p hp => h p (List.mem_cons_of_mem _ hp))
theorem fl_srt {f : O} : ∀ A : List OP, srt A → fl f A = A.take (abv f A) ∧ mr f 0 A = smt f (A.drop (abv f A)) := by
  intro A
  induction A with
  | nil => intro _; exact ⟨rfl, rfl⟩
  | cons p A ih =>
    intro h
    have h2 := ih h.2.2
    unfold abv
    by_cases z : oc p.1 f = 1
    · rw [if_pos z]
      refine ⟨?_, ?_⟩
      · show (if oc p.1 f = 1 then p :: fl f A else _) = p :: A.take (abv f A)
        rw [if_pos z, h2.1]
      · show mr f (if oc p.1 f = 0 then p.2 else 0) A = _
        rw [if_neg (by omega)]
        exact h2.2
    · rw [if_neg z]
      have below : ∀ q ∈ A, oc q.1 f = -1 := fun q hq => by
        have h3 := h.2.1 q hq
        by_cases w : oc p.1 f = 0
        · have e := oc_eq _ _ w
          rw [e] at h3
          rw [oc_sw f q.1, h3]
        · have := oc_val p.1 f
          have h4 : oc f p.1 = 1 := oc_m1 (by omega)
          have h5 := oc_tr _ _ _ h4 h3
          rw [oc_sw f q.1, h5]
      refine ⟨?_, ?_⟩
      · show (if oc p.1 f = 1 then _ else fl f A) = []
        rw [if_neg z]
        exact fl_none A (fun q hq => by have := below q hq; omega)
      · show mr f (if oc p.1 f = 0 then p.2 else 0) A = if oc p.1 f = 0 then p.2 else 0
        exact mr_none A _ (fun q hq => by have := below q hq; omega)
theorem na_nil (B : List OP) : naL [] B = B := by
  induction B with
  | nil => rfl
  | cons q B ih =>
    obtain ⟨f, m⟩ := q
    show (f, m + 0) :: naL [] B = _
    rw [ih]
    rfl
theorem na_nl (A : List OP) : naL A [] = A := by cases A <;> rfl
theorem na_cons {e f : O} {n m : Nat} {A B : List OP} : naL ((e, n) :: A) ((f, m) :: B) = if oc e f = 1 then (e, n) :: naL A ((f, m) :: B) else if oc e f = 0 then (f, m + n) :: naL A B else (f, m) :: naL ((e, n) :: A) B := by
  show ((e, n) :: A).take (abv f ((e, n) :: A)) ++ (f, m + smt f (((e, n) :: A).drop (abv f ((e, n) :: A)))) :: naL (rst f (((e, n) :: A).drop (abv f ((e, n) :: A)))) B = _
  have ea : abv f ((e, n) :: A) = if oc e f = 1 then abv f A + 1 else 0 := rfl
  by_cases h : oc e f = 1
  · rw [ea, if_pos h, if_pos h]
    rfl
  · rw [ea, if_neg h, if_neg h]
    show (f, m + (if oc e f = 0 then n else 0)) :: naL (rst f ((e, n) :: A)) B = _
    rw [rst_cons]
    by_cases h0 : oc e f = 0
    · rw [if_pos h0, if_pos h0, if_pos h0]
    · rw [if_neg h0, if_neg h0, if_neg h0]
      rfl
section
variable {d : Nat} {h : XH} {y : Nat → Nat} {m : Nat} {ov : Nat → O} {K : XK} {E : XE}
/-- makes, behind what has been added since h -/
theorem t_makes {h1 : XH} {n : Nat} {L : List OP} {x : O} {ok : Prop} (hd : 23 ≤ d) (hs : Sg h1.1 y) (M : Mo h1 m ov) (D : Dm h1 m ov L) (F : Fmk h h1) (hn : nf (mk L)) (hm2 : m < 2000) (hx : mk L = x) (hok : okm (mk L) ↔ ok) (h1n : 1 ≤ n) (kk : Km n h m ov ok x K) : Ca d m_X7_makes [.ref 77] h1 (fun rv h2 => ∃ x2, rv = some (.int x2) ∧ Sg h2.1 y ∧ K (some (.int x2)) h2) E :=
  t_X7_makes hd hs M D hn hm2 (fun r h2 m2 ov2 x1 x2 x3 x4 x5 x6 => ⟨r, rfl, x4.sg hs, kk r h2 m2 ov2 x1 x2 (by omega) (F.tr x4) x5 (by rw [hok, hx] at x6; exact x6)⟩)
theorem Mo.add {h1 h2 : XH} (M : Mo h1 m ov) (a : ∀ r, 80 ≤ r → r ≤ 83 → h2.2.1 r = h1.2.1 r) (b : h2.2.1 77 7 = h1.2.1 77 7) : Mo h2 m ov := M.fr b a
theorem Dm.zero (h : XH) (m : Nat) (ov : Nat → O) : Dm (x_setI h 77 11 0) m ov [] ∧ Fmk h (x_setI h 77 11 0) := by
  refine ⟨⟨by rw [sI_eq]; rfl, by decide, fun k e n hk => by cases hk⟩, rfl, rfl, fun r hr => ⟨sI_nq _ _ (by omega), rfl⟩, fun s _ a => sI_ne _ _ a, rfl⟩
theorem Mo.zero (M : Mo h m ov) : Mo (x_setI h 77 11 0) m ov := M.fr (sI_ne _ _ (by omega)) (fun r _ _ => sI_nq _ _ (by omega))
theorem t_X7_summed {a b : Int32} {i j : Nat} (hd : 25 ≤ d) (hs : Sg h.1 y) (M : Mo h m ov) (ha : a.toInt = i) (hb : b.toInt = j) (hi : i < m) (hj : j < m) (hm2 : m < 2000) (kk : Km 1 h m ov (okm (addO (ov i) (ov j))) (addO (ov i) (ov j)) K) : Ca d m_X7_summed [.ref 77, .int a, .int b] h K E := by
  obtain ⟨d, rfl⟩ : ∃ e, d = e + 1 := ⟨d - 1, by omega⟩
  have hgi := M.good hi
  have hgj := M.good hj
  have li := M.len hi
  have lj := M.len hj
  have k8a := e8m a ha (by omega)
  have k8b := e8m b hb (by omega)
  refine w_X7_summed (by omega) hs ⟨fun z h1 e1 => ?_, fun z => ?_⟩
  · have hjl : ¬ ov j = .leaf := fun w => z (i_ne.mpr (by have := (M.ne hj).mp w; omega))
    obtain ⟨f, mm, B, hB⟩ := pl_cons hjl
    have g0 : (pl (ov j))[0]? = some (f, mm) := by rw [hB]; rfl
    obtain ⟨D1, F1⟩ := Dm.zero h m ov
    have M1 := M.zero
    rw [← e1] at D1 F1 M1
    obtain ⟨jf, f1, f2, f3, f4⟩ := M1.pw hj g0
    have Ib : Ix (8 * b) 16000 := i_Ix k8b (by omega)
    have eb0 : ∀ h2 : XH, h2.2.1 80 = h1.2.1 80 → h2.2.1 80 (ix (8 * b)) = h1.2.1 80 (8 * j + 0) := fun h2 e => by rw [i_ix k8b, e]; rfl
    have tb0 : ∀ h2 : XH, h2.2.1 81 = h1.2.1 81 → h2.2.1 81 (ix (8 * b)) = h1.2.1 81 (8 * j + 0) := fun h2 e => by rw [i_ix k8b, e]; rfl
    have hmm := gd_tm hgj g0
    -- the rest of b
    have rest : ∀ (q t : Nat) (u1 u3 u4 : Option Value) (u5 : Option Int32) (l6 : Int32) (h2 : XH) (L : List OP), q + t = (pl (ov j)).length → l6.toInt = (8 * j + t : Nat) → Mo h2 m ov → Dm h2 m ov L → Fmk h h2 → L.length ≤ 20 + t → L ++ (pl (ov j)).drop t = addL (pl (ov i)) (pl (ov j)) → b_X7_summed_138 d 77 u1 b u3 u4 u5 l6 h2 K E := by
      intro q
      induction q with
      | zero =>
        intro t u1 u3 u4 u5 l6 h2 L hq h6 M2 D2 F2 hl hL
        have s2 := M2.2.2.1 j hj
        have hs2 := F2.sg hs
        rw [List.drop_eq_nil_of_le (by omega), List.append_nil] at hL
        refine w_X7_summed_138 (by omega) hs2 ⟨i_Ix hb (by omega), fun _ => ?_, fun w => absurd (i_le.mpr ?_) w⟩
        · exact t_makes (n := 1) (by omega) hs2 M2 D2 F2 (by rw [hL]; exact nf_addO hgi.1 hgj.1) hm2 (by rw [hL]; rfl) (by rw [hL]; exact Iff.rfl) (Nat.le_refl _) kk
        · rw [i_ix hb, i_add (by rw [k8b, s2]; omega) (by rw [k8b, s2]; omega), k8b, s2, h6]; omega
      | succ q ih =>
        intro t u1 u3 u4 u5 l6 h2 L hq h6 M2 D2 F2 hl hL
        have s2 := M2.2.2.1 j hj
        have hs2 := F2.sg hs
        obtain ⟨e, n, g⟩ := getc (A := pl (ov j)) (m := t) (by omega)
        obtain ⟨x1, x2, x3, x4, x5⟩ := M2.pw hj g
        have I6 : Ix l6 16000 := i_Ix h6 (by omega)
        refine w_X7_summed_138 (by omega) hs2 ⟨i_Ix hb (by omega), fun w => absurd (i_le.mp w) ?_, fun _ => ⟨I6, I6, ?_⟩⟩
        · rw [i_ix hb, i_add (by rw [k8b, s2]; omega) (by rw [k8b, s2]; omega), k8b, s2, h6]; omega
        · rw [i_ix h6]
          refine t_X7_adds (n := n) (by omega) hs2 D2 (by omega) x4 (by omega) x3 (by rw [i_2j]; exact x5) (fun h3 D3 F3 a3 b3 => ⟨rfl, F3.sg hs2, ih (t + 1) _ _ _ _ _ h3 _ (by omega) ?_ (M2.add a3 b3) D3 (F2.tr F3) (by rw [List.length_append]; simp only [List.length_singleton]; omega) ?_⟩)
          · rw [i_add (by rw [i_1]; omega) (by rw [i_1]; omega), h6, i_1]; omega
          · rw [← hL, dropc g, List.append_assoc]
            rfl
    have loop : ∀ (q t : Nat) (l3 : Int64) (l6 : Int32) (h2 : XH), q + t = (pl (ov i)).length → l6.toInt = (8 * i + t : Nat) → Mo h2 m ov → Dm h2 m ov (fl f ((pl (ov i)).take t)) → Fmk h h2 → (∀ r, 80 ≤ r → r ≤ 83 → h2.2.1 r = h1.2.1 r) → l3.toInt = mr f 0 ((pl (ov i)).take t) → mr f 0 ((pl (ov i)).take t) ≤ 1000000 → (fl f ((pl (ov i)).take t)).length ≤ t → b_X7_summed_30 d 77 a b l3 (h1.2.1 80 (ix (8 * b))) l6 h2 K E := by
      intro q
      induction q with
      | zero =>
        intro t l3 l6 h2 hq h6 M2 D2 F2 s8 h3 hb3 hl
        have s2 := M2.2.2.1 i hi
        have hs2 := F2.sg hs
        have hfl := fl_srt (f := f) (pl (ov i)) (nf_srt _ hgi.1)
        rw [List.take_of_length_le (by omega)] at D2 h3 hb3 hl
        refine w_X7_summed_30 (by omega) hs2 ⟨i_Ix ha (by omega), fun _ => ⟨Ib, ?_⟩, fun w => absurd (i_le.mpr ?_) w⟩
        · rw [eb0 h1 rfl, tb0 h2 (s8 81 (by omega) (by omega))]
          refine t_X7_adds (n := mm + smt f ((pl (ov i)).drop (abv f (pl (ov i))))) (by omega) hs2 D2 (by omega) f3 (by omega) f2 ?_ (fun h3' D3 F3 a3 b3 => ⟨rfl, F3.sg hs2, rest ((pl (ov j)).length - 1) 1 _ _ _ _ _ h3' _ (by rw [hB, List.length_cons]; omega) ?_ (M2.add a3 b3) D3 (F2.tr F3) (by rw [List.length_append]; simp only [List.length_singleton]; omega) ?_⟩)
          · rw [j_add (by rw [i_2j, h3, f4]; omega) (by rw [i_2j, h3, f4]; omega), i_2j, h3, f4, hfl.2]; omega
          · rw [i_add (by rw [i_1]; omega) (by rw [i_1]; omega), k8b, i_1]; omega
          · rw [hfl.1, hB, List.append_assoc]; rfl
        · rw [i_ix ha, i_add (by rw [k8a, s2]; omega) (by rw [k8a, s2]; omega), k8a, s2, h6]; omega
      | succ q ih =>
        intro t l3 l6 h2 hq h6 M2 D2 F2 s8 h3 hb3 hl
        have s2 := M2.2.2.1 i hi
        have hs2 := F2.sg hs
        obtain ⟨e, n, g⟩ := getc (A := pl (ov i)) (m := t) (by omega)
        obtain ⟨x1, x2, x3, x4, x5⟩ := M2.pw hi g
        have hn1 := gd_tm hgi g
        have I6 : Ix l6 16000 := i_Ix h6 (by omega)
        have nx : (l6 + 1).toInt = (8 * i + (t + 1) : Nat) := by rw [i_add (by rw [i_1]; omega) (by rw [i_1]; omega), h6, i_1]; omega
        have tk := takec g
        have hmr : mr f 0 ((pl (ov i)).take (t + 1)) = if oc e f = 0 then n else mr f 0 ((pl (ov i)).take t) := by rw [tk, mr_app]
        have hfl : fl f ((pl (ov i)).take (t + 1)) = fl f ((pl (ov i)).take t) ++ (if oc e f = 1 then [(e, n)] else []) := by rw [tk, fl_app]
        -- the second half of a turn
        have half : ∀ (h4 : XH), Mo h4 m ov → Dm h4 m ov (fl f ((pl (ov i)).take (t + 1))) → Fmk h h4 → (∀ r, 80 ≤ r → r ≤ 83 → h4.2.1 r = h1.2.1 r) → (fl f ((pl (ov i)).take (t + 1))).length ≤ t + 1 → b_X7_summed_81 d 77 a b l3 (h1.2.1 80 (ix (8 * b))) l6 h4 K E := by
          intro h4 M4 D4 F4 s4 hl4
          have hs4 := F4.sg hs
          obtain ⟨w1, w2, w3, w4, w5⟩ := M4.pw hi g
          have e80 : h4.2.1 80 (ix l6) = h4.2.1 80 (8 * i + t) := by rw [i_ix h6]
          have e81 : h4.2.1 81 (ix l6) = h4.2.1 81 (8 * i + t) := by rw [i_ix h6]
          have hiff : h4.2.1 80 (8 * i + t) = h1.2.1 80 (8 * j + 0) ↔ e = f := by
            constructor
            · intro v
              have := congrArg Int32.toInt v
              rw [w4, f3] at this
              rw [← w3, ← f2, show w1 = jf by omega]
            · intro v
              have := M4.inj (show w1 < m by omega) (show jf < m by omega) (by rw [w3, f2, v])
              exact Int32.toInt_inj.mp (by rw [w4, f3, this])
          refine w_X7_summed_81 (by omega) hs4 ⟨I6, fun v => ?_, fun v => ⟨I6, ?_⟩⟩
          · rw [e80, eb0 h1 rfl, hiff] at v
            rw [if_neg (fun q => v (oc_eq _ _ q))] at hmr
            exact w_X7_summed_105 (by omega) hs4 (ih (t + 1) _ _ h4 (by omega) nx M4 D4 F4 s4 (by rw [hmr]; exact h3) (by rw [hmr]; exact hb3) hl4)
          · rw [e80, eb0 h1 rfl, hiff] at v
            have v2 := Classical.not_not.mp v
            rw [if_pos (by rw [v2, oc_self])] at hmr
            exact w_X7_summed_105 (by omega) hs4 (ih (t + 1) _ _ h4 (by omega) nx M4 D4 F4 s4 (by rw [hmr, e81, i_2j]; exact w5) (by rw [hmr]; exact hn1) hl4)
        refine w_X7_summed_30 (by omega) hs2 ⟨i_Ix ha (by omega), fun w => absurd (i_le.mp w) ?_, fun _ => ⟨I6, ?_⟩⟩
        · rw [i_ix ha, i_add (by rw [k8a, s2]; omega) (by rw [k8a, s2]; omega), k8a, s2, h6]; omega
        · have e80 : h2.2.1 80 (ix l6) = h2.2.1 80 (8 * i + t) := by rw [i_ix h6]
          have e81 : h2.2.1 81 (ix l6) = h2.2.1 81 (8 * i + t) := by rw [i_ix h6]
          rw [e80]
          refine t_X7_compared (i := x1) (j := jf) (by omega) hs2 M2 x4 (by rw [eb0 h1 rfl]; exact f3) (by omega) (by omega) (fun r hr => ⟨r, rfl, hs2, fun w => ?_, fun w => ⟨I6, I6, ?_⟩⟩)
          · rw [x3, f2] at hr
            rw [i_le, hr, i_0] at w
            rw [if_neg (by omega), List.append_nil] at hfl
            exact half h2 M2 (by rw [hfl]; exact D2) F2 s8 (by rw [hfl]; omega)
          · rw [x3, f2] at hr
            rw [i_le, hr, i_0] at w
            have := oc_val e f
            rw [if_pos (by omega)] at hfl
            rw [e81]
            rw [e80]
            refine t_X7_adds (n := n) (by omega) hs2 D2 (by omega) x4 (by omega) x3 (by rw [i_2j]; exact x5) (fun h3' D3 F3 a3 b3 => ⟨rfl, F3.sg hs2, half h3' (M2.add a3 b3) (by rw [hfl]; exact D3) (F2.tr F3) (fun r q1 q2 => by rw [a3 r q1 q2]; exact s8 r q1 q2) (by rw [hfl, List.length_append]; simp only [List.length_singleton]; omega)⟩)
    exact ⟨Ib, loop _ 0 0 _ h1 (Nat.add_zero _) (by rw [k8a]; rfl) M1 D1 F1 (fun _ _ _ => rfl) rfl (Nat.zero_le _) (Nat.zero_le _)⟩
  · have hj0 : ov j = .leaf := (M.ne hj).mpr (by have := i_ne.mp (Classical.not_not.mp z); omega)
    rw [hj0, addO_leaf] at kk
    exact kk a h m ov (fun _ _ => rfl) (Nat.le_refl _) (by omega) (Fmk.rf h) M (Or.inl ⟨hgi.2, i, ha, hi, rfl⟩)
end
