/-! ===== layer 2: contracts of the class's ordinals, first half ===== -/
theorem dropc {A : List OP} {m : Nat} {p : OP} (h : A[m]? = some p) : A.drop m = p :: A.drop (m + 1) := by
  obtain ⟨h1, h2⟩ := List.getElem?_eq_some_iff.mp h
  rw [List.drop_eq_getElem_cons h1, h2]
theorem getc {A : List OP} {m : Nat} (h : m < A.length) : ∃ e n, A[m]? = some (e, n) := ⟨A[m].1, A[m].2, by rw [List.getElem?_eq_getElem h]⟩
theorem takec {A : List OP} {m : Nat} {p : OP} (h : A[m]? = some p) : A.take (m + 1) = A.take m ++ [p] := by
  rw [List.take_succ, h]
  rfl
def ocL : List OP → List OP → Int
  | [], [] => 0
  | [], _ :: _ => -1
  | _ :: _, [] => 1
  | p :: a, q :: b => if oc p.1 q.1 = 0 then (if p.2 < q.2 then -1 else if q.2 < p.2 then 1 else ocL a b) else oc p.1 q.1
theorem ocL_pl : ∀ x y, oc x y = ocL (pl x) (pl y) := by
  intro x
  induction x with
  | leaf =>
    intro y
    cases y with
    | leaf => rfl
    | inner => rfl
  | inner n k v e r _ ih =>
    intro y
    cases y with
    | leaf => rfl
    | inner m k2 v2 f s =>
      rw [oc_ii, ih s]
      rfl
theorem ocL_end {A B : List OP} {m : Nat} (h : m = min A.length B.length) : ocL (A.drop m) (B.drop m) = if A.length < B.length then -1 else if A.length = B.length then 0 else 1 := by
  by_cases h1 : A.length < B.length
  · rw [if_pos h1, List.drop_eq_nil_of_le (by omega : A.length ≤ m)]
    obtain ⟨e, n, h2⟩ := getc (A := B) (m := m) (by omega)
    rw [dropc h2]
    rfl
  · rw [if_neg h1]
    by_cases h3 : A.length = B.length
    · rw [if_pos h3, List.drop_eq_nil_of_le (by omega : A.length ≤ m), List.drop_eq_nil_of_le (by omega : B.length ≤ m)]
      rfl
    · rw [if_neg h3, List.drop_eq_nil_of_le (by omega : B.length ≤ m)]
      obtain ⟨e, n, h2⟩ := getc (A := A) (m := m) (by omega)
      rw [dropc h2]
      rfl
theorem c_I_i (x y : Int32) : (c_I x y).toInt = if x.toInt < y.toInt then -1 else if x.toInt = y.toInt then 0 else 1 := by
  unfold c_I
  by_cases h1 : x < y
  · rw [if_pos h1, if_pos (i_lt.mp h1)]
    rfl
  · rw [if_neg h1, if_neg (fun z => h1 (i_lt.mpr z))]
    by_cases h2 : x = y
    · rw [if_pos h2, if_pos (by rw [h2])]
      rfl
    · rw [if_neg h2, if_neg (fun z => h2 (Int32.toInt_inj.mp z))]
      rfl
theorem mnI_i (x y : Int32) : (mnI x y).toInt = min x.toInt y.toInt := by
  unfold mnI
  by_cases h : y < x
  · rw [if_pos h]; rw [i_lt] at h; omega
  · rw [if_neg h]; rw [i_lt] at h; omega
theorem mxI_i (x y : Int32) : (mxI x y).toInt = max x.toInt y.toInt := by
  unfold mxI
  by_cases h : x < y
  · rw [if_pos h]; rw [i_lt] at h; omega
  · rw [if_neg h]; rw [i_lt] at h; omega
section
variable {d : Nat} {h : XH} {y : Nat → Nat} {c k : Nat} {ov : Nat → O} {K : XK} {E : XE}
theorem dep_z {x : O} (h : dep x = 0) : x = .leaf := by
  cases x with
  | leaf => rfl
  | inner n k v e r =>
    have : dep e + 1 ≤ dep (Std.DTreeMap.Internal.Impl.inner n k v e r : O) := dep_pl _ (e, n) List.mem_cons_self
    omega
theorem t_X2_order : ∀ (lv : Nat) {d : Nat} {a b n : Int32} {i j : Nat} {K : XK}, 21 + lv ≤ d → Sg h.1 y → St h y c k ov → a.toInt = i → b.toInt = j → n.toInt = lv → i < c → j < c → dep (ov i) ≤ lv → dep (ov j) ≤ lv → (∀ r : Int32, r.toInt = oc (ov i) (ov j) → K (some (.int r)) h) → Ca d m_X2_order [.ref 6, .int a, .int b, .int n] h K E := by
  intro lv
  induction lv with
  | zero =>
    intro d a b n i j K hd hs S ha hb hn hi hj hx hy kk
    obtain ⟨d, rfl⟩ : ∃ e, d = e + 1 := ⟨d - 1, by omega⟩
    have z1 := (S.ne hi).mp (dep_z (by omega))
    have z2 := (S.ne hj).mp (dep_z (by omega))
    have e : a = b := Int32.toInt_inj.mp (by rw [ha, hb, z1, z2])
    refine w_X2_order (by omega) hs ⟨fun _ => kk 0 ?_, fun z => absurd e z⟩
    rw [z1, z2, oc_self]
    rfl
  | succ lv ih =>
    intro d a b n i j K hd hs S ha hb hn hi hj hx hy kk
    obtain ⟨d, rfl⟩ : ∃ e, d = e + 1 := ⟨d - 1, by omega⟩
    have p1 := S.pows hs ha hi
    have p2 := S.pows hs hb hj
    have n1 := S.len hi
    have n2 := S.len hj
    have loop : ∀ (q m : Nat) (l4 l5 : Int32) (u6 : Option Value), q + m = min (pl (ov i)).length (pl (ov j)).length → l4.toInt = (min (pl (ov i)).length (pl (ov j)).length : Nat) → l5.toInt = m → oc (ov i) (ov j) = ocL ((pl (ov i)).drop m) ((pl (ov j)).drop m) → b_X2_order_29 d 6 a b n l4 l5 u6 h K E := by
      intro q
      induction q with
      | zero =>
        intro m l4 l5 u6 hq h4 h5 ho
        refine w_X2_order_29 (by omega) hs ⟨fun _ => kk _ ?_, fun z => absurd (i_le.mpr (by omega)) z⟩
        rw [ho, ocL_end (by omega), c_I_i, p1, p2]
        by_cases z1 : (pl (ov i)).length < (pl (ov j)).length
        · rw [if_pos z1, if_pos (by omega)]
        · rw [if_neg z1, if_neg (by omega)]
          by_cases z2 : (pl (ov i)).length = (pl (ov j)).length
          · rw [if_pos z2, if_pos (by omega)]
          · rw [if_neg z2, if_neg (by omega)]
      | succ q iq =>
        intro m l4 l5 u6 hq h4 h5 ho
        obtain ⟨e1, n1, g1⟩ := getc (A := pl (ov i)) (m := m) (by omega)
        obtain ⟨e2, n2, g2⟩ := getc (A := pl (ov j)) (m := m) (by omega)
        obtain ⟨j1, a1, a2, a3⟩ := S.exps hs ha h5 hi g1
        obtain ⟨j2, b1, b2, b3⟩ := S.exps hs hb h5 hj g2
        have t1 := S.tims hs ha h5 hi g1
        have t2 := S.tims hs hb h5 hj g2
        have d1 : dep e1 + 1 ≤ dep (ov i) := dep_pl _ _ (List.mem_of_getElem? g1)
        have d2 : dep e2 + 1 ≤ dep (ov j) := dep_pl _ _ (List.mem_of_getElem? g2)
        rw [dropc g1, dropc g2] at ho
        have ho2 : oc (ov i) (ov j) = if oc e1 e2 = 0 then (if n1 < n2 then -1 else if n2 < n1 then 1 else ocL ((pl (ov i)).drop (m + 1)) ((pl (ov j)).drop (m + 1))) else oc e1 e2 := ho
        refine w_X2_order_29 (by omega) hs ⟨fun z => absurd (i_le.mp z) (by omega), fun _ => ?_⟩
        have hi1 := i_hi n
        have hn1 : (n - 1).toInt = lv := by rw [i_sub (by rw [i_1]; omega) (by rw [i_1]; omega), hn, i_1]; omega
        refine ih (by omega) hs S a3 b3 hn1 (by omega) (by omega) (by rw [a2]; omega) (by rw [b2]; omega) (fun r hr => ⟨r, rfl, hs, fun hz => ?_, fun hz => ?_⟩)
        · refine w_X2_order_83 (by omega) hs ⟨fun z => absurd z hz, fun _ => kk r ?_⟩
          rw [a2, b2] at hr
          rw [ho2, if_neg (fun z => hz (i_ne.mpr (hr.trans z)))]
          exact hr
        · have hz2 : oc e1 e2 = 0 := by
            rw [a2, b2] at hr
            rw [← hr]
            exact i_ne.mp (Classical.not_not.mp hz)
          rw [if_pos hz2] at ho2
          have cc := c_I_i (tm h y a l5) (tm h y b l5)
          rw [t1, t2] at cc
          refine w_X2_order_83 (by omega) hs ⟨fun z => ?_, fun z => kk _ ?_⟩
          · have z2 := i_ne.mp z
            have e3 : n1 = n2 := by
              by_cases q1 : n1 < n2
              · rw [if_pos (by omega)] at cc; omega
              · rw [if_neg (by omega)] at cc
                by_cases q2 : n1 = n2
                · exact q2
                · rw [if_neg (by omega)] at cc; omega
            rw [if_neg (by omega), if_neg (by omega)] at ho2
            refine iq (m + 1) l4 (l5 + 1) _ (by omega) h4 ?_ ho2
            rw [i_add (by rw [i_1]; omega) (by rw [i_1]; omega), h5, i_1]
            rfl
          · rw [cc, ho2]
            by_cases q1 : n1 < n2
            · rw [if_pos q1, if_pos (by omega)]
            · rw [if_neg q1, if_neg (by omega)]
              by_cases q2 : n2 < n1
              · rw [if_pos q2, if_neg (by omega)]
              · exact absurd (i_ne.mpr (by rw [cc, if_neg (by omega), if_pos (by omega)])) z
    refine w_X2_order (by omega) hs ⟨fun e => kk 0 ?_, fun _ => ⟨fun _ => ?_, fun z => absurd (i_lt.mpr (by rw [i_0]; omega)) z⟩⟩
    · have : i = j := by rw [e, hb] at ha; omega
      rw [this, oc_self]
      rfl
    · refine loop _ 0 _ 0 none (Nat.add_zero _) ?_ rfl (ocL_pl _ _)
      rw [mnI_i, p1, p2]
      omega
theorem t_X2_compared {a b : Int32} {i j : Nat} (hd : 27 ≤ d) (hs : Sg h.1 y) (S : St h y c k ov) (ha : a.toInt = i) (hb : b.toInt = j) (hi : i < c) (hj : j < c) (kk : ∀ r : Int32, r.toInt = oc (ov i) (ov j) → K (some (.int r)) h) : Ca d m_X2_compared [.ref 6, .int a, .int b] h K E := by
  obtain ⟨d, rfl⟩ : ∃ e, d = e + 1 := ⟨d - 1, by omega⟩
  refine w_X2_compared (by omega) hs ?_
  exact t_X2_order 5 (by omega) hs S ha hb rfl hi hj (S.good hi).2.2.2 (S.good hj).2.2.2 (fun r hr => ⟨r, rfl, hs, kk r hr⟩)
theorem t_X2_order5 {a b : Int32} {i j : Nat} (hd : 27 ≤ d) (hs : Sg h.1 y) (S : St h y c k ov) (ha : a.toInt = i) (hb : b.toInt = j) (hi : i < c) (hj : j < c) (kk : ∀ r : Int32, r.toInt = oc (ov i) (ov j) → K (some (.int r)) h) : Ca d m_X2_order [.ref 6, .int a, .int b, .int 5] h K E :=
  t_X2_order 5 (by omega) hs S ha hb rfl hi hj (S.good hi).2.2.2 (S.good hj).2.2.2 kk
/-- how many of the first powers are above -/
def abv (x : O) : List OP → Nat
  | [] => 0
  | p :: l => if oc p.1 x = 1 then abv x l + 1 else 0
theorem abv_le (x : O) : ∀ l, abv x l ≤ l.length := by
  intro l
  induction l with
  | nil => exact Nat.le_refl _
  | cons p l ih =>
    show (if oc p.1 x = 1 then abv x l + 1 else 0) ≤ l.length + 1
    split <;> omega
theorem t_X2_powersAbove {a b e : Int32} {i j m : Nat} (hd : 28 ≤ d) (hs : Sg h.1 y) (S : St h y c k ov) (ha : a.toInt = i) (hb : b.toInt = m) (he : e.toInt = j) (hi : i < c) (hj : j < c) (hm : m ≤ (pl (ov i)).length) (kk : ∀ r : Int32, r.toInt = (m + abv (ov j) ((pl (ov i)).drop m) : Nat) → K (some (.int r)) h) : Ca d m_X2_powersAbove [.ref 6, .int a, .int b, .int e] h K E := by
  obtain ⟨d, rfl⟩ : ∃ e, d = e + 1 := ⟨d - 1, by omega⟩
  have p1 := S.pows hs ha hi
  have n1 := S.len hi
  have loop : ∀ (q s : Nat) (l4 : Int32) (u : Option Value), q + s = (pl (ov i)).length → l4.toInt = s → m + abv (ov j) ((pl (ov i)).drop m) = s + abv (ov j) ((pl (ov i)).drop s) → b_X2_powersAbove_3 d 6 a u e l4 h K E := by
    intro q
    induction q with
    | zero =>
      intro s l4 u hq h4 hv
      refine w_X2_powersAbove_3 (by omega) hs ⟨fun _ => kk _ ?_, fun z => absurd (i_le.mpr (by omega)) z⟩
      rw [hv, List.drop_eq_nil_of_le (by omega), h4]
      rfl
    | succ q ih =>
      intro s l4 u hq h4 hv
      obtain ⟨e1, n1, g1⟩ := getc (A := pl (ov i)) (m := s) (by omega)
      obtain ⟨j1, a1, a2, a3⟩ := S.exps hs ha h4 hi g1
      refine w_X2_powersAbove_3 (by omega) hs ⟨fun z => absurd (i_le.mp z) (by omega), fun _ => ?_⟩
      rw [dropc g1] at hv
      have hv2 : m + abv (ov j) ((pl (ov i)).drop m) = s + (if oc e1 (ov j) = 1 then abv (ov j) ((pl (ov i)).drop (s + 1)) + 1 else 0) := hv
      refine t_X2_order5 (by omega) hs S a3 he (by omega) hj (fun r hr => ⟨r, rfl, hs, fun z => kk _ ?_, fun z => ?_⟩)
      · rw [i_le, hr, i_0, a2] at z
        rw [hv2, if_neg (by omega), h4]
        rfl
      · rw [i_le, hr, i_0, a2] at z
        have := oc_val e1 (ov j)
        rw [if_pos (by omega)] at hv2
        refine ih (s + 1) (l4 + 1) u (by omega) ?_ (by omega)
        rw [i_add (by rw [i_1]; omega) (by rw [i_1]; omega), h4, i_1]
        rfl
  exact w_X2_powersAbove (by omega) hs (loop _ m b _ (Nat.sub_add_cancel hm) hb rfl)
theorem t_X2_draftPowers {a b e : Int32} {i m s : Nat} {L : List OP} (hd : 21 ≤ d) (hs : Sg h.1 y) (S : St h y c k ov) (D : Do h 11 c ov L) (ha : a.toInt = i) (hb : b.toInt = m) (he : e.toInt = s) (hi : i < c) (hm : s ≤ (pl (ov i)).length) (hl : L.length + (s - m) ≤ 64) (kk : ∀ h2, Do h2 11 c ov (L ++ ((pl (ov i)).take s).drop m) → Fdr 11 h h2 → K none h2) : Ca d m_X2_draftPowers [.ref 6, .int a, .int b, .int e] h K E := by
  obtain ⟨d, rfl⟩ : ∃ e, d = e + 1 := ⟨d - 1, by omega⟩
  have n1 := S.len hi
  have loop : ∀ (q t : Nat) (l4 : Int32) (u : Option Value) (h1 : XH) (L1 : List OP), q = s - t → l4.toInt = t → Fdr 11 h h1 → Do h1 11 c ov L1 → L1.length + (s - t) ≤ 64 → L1 ++ ((pl (ov i)).take s).drop t = L ++ ((pl (ov i)).take s).drop m → b_X2_draftPowers_3 d 6 a u e l4 h1 K E := by
    intro q
    induction q with
    | zero =>
      intro t l4 u h1 L1 hq h4 F D1 hl1 hL
      refine w_X2_draftPowers_3 (by omega) (F.sg hs) ⟨fun _ => kk _ ?_ F, fun z => absurd (i_le.mpr (by omega)) z⟩
      rw [List.drop_eq_nil_of_le (by rw [List.length_take]; omega), List.append_nil] at hL
      rw [← hL]
      exact D1
    | succ q ih =>
      intro t l4 u h1 L1 hq h4 F D1 hl1 hL
      have hs1 := F.sg hs
      have S1 := S.fd hs F (Or.inl rfl)
      obtain ⟨e1, n1, g1⟩ := getc (A := pl (ov i)) (m := t) (by omega)
      obtain ⟨j1, a1, a2, a3⟩ := S1.exps hs1 ha h4 hi g1
      have t1 := S1.tims hs1 ha h4 hi g1
      refine w_X2_draftPowers_3 (by omega) hs1 ⟨fun z => absurd (i_le.mp z) (by omega), fun _ h3 e3 => ?_⟩
      subst e3
      obtain ⟨D2, F2⟩ := D1.add (by omega) (show ((tm h1 y a l4).toInt64).toInt = n1 by rw [i_2j, t1]) a3 (by omega) a2
      refine ih (t + 1) (l4 + 1) u _ _ (by omega) ?_ (F.tr F2) D2 (by rw [List.length_append]; simp only [List.length_singleton]; omega) ?_
      · rw [i_add (by rw [i_1]; omega) (by rw [i_1]; omega), h4, i_1]
        rfl
      · have g2 : ((pl (ov i)).take s)[t]? = some (e1, n1) := by rw [List.getElem?_take_of_lt (by omega), g1]
        rw [← hL, dropc g2, List.append_assoc]
        rfl
  exact w_X2_draftPowers (by omega) hs (loop _ m b _ h L rfl hb (Fdr.rf _ _) D hl rfl)
end
