/-! ===== layer 2: the model's growths ===== -/
/-- what is being made: the parts L -/
def Mm (h : XH) (L : GL) : Prop := (h.2.1 77 20).toInt = L.length ∧ L.length ≤ 400 ∧ ∀ (k : Nat) (e : GE) (n : Int), L[k]? = some (e, n) → (h.2.2.1 92 k).toInt = gmk e ∧ (h.2.2.1 93 k).toInt = n
/-- only what is being made has changed -/
def Fg (h h2 : XH) : Prop := h2.1 = h.1 ∧ h2.2.2.2 = h.2.2.2 ∧ (∀ r, r ≠ 77 → h2.2.1 r = h.2.1 r) ∧ (∀ s, s ≠ 20 → h2.2.1 77 s = h.2.1 77 s) ∧ (∀ r, r ≠ 92 → r ≠ 93 → h2.2.2.1 r = h.2.2.1 r)
theorem Fg.rf (h : XH) : Fg h h := ⟨rfl, rfl, fun _ _ => rfl, fun _ _ => rfl, fun _ _ _ => rfl⟩
theorem Fg.tr {h h2 h3 : XH} (a : Fg h h2) (b : Fg h2 h3) : Fg h h3 := ⟨b.1.trans a.1, b.2.1.trans a.2.1, fun r hr => (b.2.2.1 r hr).trans (a.2.2.1 r hr), fun s hs => (b.2.2.2.1 s hs).trans (a.2.2.2.1 s hs), fun r h1 h2 => (b.2.2.2.2 r h1 h2).trans (a.2.2.2.2 r h1 h2)⟩
theorem Fg.sg {h h2 : XH} {y : Nat → Nat} (a : Fg h h2) (hs : Sg h.1 y) : Sg h2.1 y := by rw [a.1]; exact hs
theorem Fg.I (h : XH) (v : Int32) : Fg h (x_setI h 77 20 v) := ⟨rfl, rfl, fun r hr => sI_nq _ _ hr, fun s hs => sI_ne _ _ hs, fun _ _ _ => rfl⟩
theorem Fg.J (h : XH) {q : Nat} (k : Nat) (v : Int64) (hq : q = 92 ∨ q = 93) : Fg h (x_setJ h q k v) := ⟨rfl, rfl, fun _ _ => rfl, fun _ _ => rfl, fun r h1 h2 => sJ_nq _ _ (by omega)⟩
theorem Fg.ei {h h2 : XH} {v : Int32} (e : h2 = x_setI h 77 20 v) : Fg h h2 := by rw [e]; exact Fg.I _ _
theorem Fg.ej {h h2 : XH} {q k : Nat} {v : Int64} (e : h2 = x_setJ h q k v) (hq : q = 92 ∨ q = 93) : Fg h h2 := by rw [e]; exact Fg.J _ _ _ hq
theorem Gm.fg {h h2 : XH} {p : Nat} {L : GL} (G : Gm h p L) (F : Fg h h2) : Gm h2 p L := by
  unfold Gm
  rw [F.2.2.1 79 (by omega), F.2.2.1 91 (by omega), F.2.2.2.2 90 (by omega) (by omega)]
  exact G
theorem i_p1 {l : Int32} {k : Nat} (h : l.toInt = (k + 1 : Nat)) : (l - 1).toInt = k := by
  rw [i_sub (by rw [h, i_1]; omega) (by rw [h, i_1]; have := i_hi l; omega), h, i_1]
  omega
theorem i_pm {l : Int32} {k : Nat} (h : l.toInt = (k + 1 : Nat)) : (l + (-1)).toInt = k := by
  have em : (-1 : Int32).toInt = -1 := rfl
  rw [i_add (by rw [h, em]; omega) (by rw [h, em]; have := i_hi l; omega), h, em]
  omega
theorem gin_app1 {e : GE} {n : Int} {B : GL} (hB : ∀ q ∈ B, gck q.1 < gck e) : ∀ A : GL, (∀ p ∈ A, gck e < gck p.1) → gin e n (A ++ B) = A ++ (e, n) :: B := by
  intro A
  induction A with
  | nil =>
    intro _
    cases B with
    | nil => rfl
    | cons q B =>
      have hq := hB q List.mem_cons_self
      show gin e n (q :: B) = _
      rw [gin_c, if_neg (by omega), if_neg (fun w => by rw [w] at hq; omega)]
      rfl
  | cons p A ih =>
    intro h
    show gin e n (p :: (A ++ B)) = _
    rw [gin_c, if_pos (h p List.mem_cons_self), ih (fun q hq => h q (List.mem_cons_of_mem _ hq))]
    rfl
theorem gin_app2 {e : GE} {n t : Int} {B : GL} : ∀ A : GL, (∀ p ∈ A, gck e < gck p.1) → gin e n (A ++ (e, t) :: B) = A ++ (e, t + n) :: B := by
  intro A
  induction A with
  | nil =>
    intro _
    show gin e n ((e, t) :: B) = _
    rw [gin_c, if_neg (by dsimp only; omega), if_pos rfl]
    rfl
  | cons p A ih =>
    intro h
    show gin e n (p :: (A ++ (e, t) :: B)) = _
    rw [gin_c, if_pos (h p List.mem_cons_self), ih (fun q hq => h q (List.mem_cons_of_mem _ hq))]
    rfl
theorem ins_at {L : GL} {k : Nat} {x : GE × Int} (hk : k ≤ L.length) (i : Nat) : (L.take k ++ x :: L.drop k)[i]? = if i < k then L[i]? else if i = k then some x else L[i - 1]? := by
  have tk : (L.take k).length = k := by rw [List.length_take]; omega
  by_cases a : i < k
  · rw [if_pos a, List.getElem?_append_left (by omega), List.getElem?_take, if_pos a]
  · rw [if_neg a, List.getElem?_append_right (by omega), tk]
    by_cases b : i = k
    · rw [if_pos b, b, Nat.sub_self]; rfl
    · rw [if_neg b]
      obtain ⟨j, rfl⟩ : ∃ j, i = k + (j + 1) := ⟨i - k - 1, by omega⟩
      rw [show k + (j + 1) - k = j + 1 by omega, show k + (j + 1) - 1 = k + j by omega, List.getElem?_cons_succ, List.getElem?_drop]
theorem set_at {L : GL} {k : Nat} {x z : GE × Int} (h : L[k]? = some z) (i : Nat) : (L.take k ++ x :: L.drop (k + 1))[i]? = if i = k then some x else L[i]? := by
  have hl := (List.getElem?_eq_some_iff.mp h).1
  have tk : (L.take k).length = k := by rw [List.length_take]; omega
  by_cases a : i < k
  · rw [if_neg (by omega), List.getElem?_append_left (by omega), List.getElem?_take, if_pos a]
  · rw [List.getElem?_append_right (by omega), tk]
    by_cases b : i = k
    · rw [if_pos b, b, Nat.sub_self]; rfl
    · rw [if_neg b]
      obtain ⟨j, rfl⟩ : ∃ j, i = k + (j + 1) := ⟨i - k - 1, by omega⟩
      rw [show k + (j + 1) - k = j + 1 by omega, List.getElem?_cons_succ, List.getElem?_drop, show k + 1 + j = k + (j + 1) by omega]
theorem gtake {A : GL} {m : Nat} {p : GE × Int} (h : A[m]? = some p) : A.take (m + 1) = A.take m ++ [p] := by
  rw [List.take_add_one, h]
  rfl
theorem j_div {x c : Int64} {p : Int} (hx : 0 ≤ x.toInt) (hc : c.toInt = p) (h1 : 1 ≤ p) : (x / c).toInt = x.toInt / p := by
  have hne : c ≠ -1 := fun w => by
    rw [w] at hc
    have : (-1 : Int64).toInt = -1 := rfl
    omega
  rw [Int64.toInt_div_of_ne_right x c hne, hc, Int.tdiv_eq_ediv_of_nonneg hx]
theorem xpn4_i {p : Int64} {a : Int32} {i : Nat} {e : GE} (hp : p.toInt = gmk e) (he : gE e) (ha : a.toInt = i) (h1 : 1 ≤ i) (h4 : i ≤ 4) : (xpn4 p a).toInt = gex i e := by
  have ha2 : a = Int32.ofNat i := i_of ha (by omega)
  subst ha2
  have pb := gmk_b he
  have c401 : (401 : Int64).toInt = 401 := rfl
  have c200 : (200 : Int64).toInt = 200 := rfl
  have fin : ∀ (u : Int64) (U z : Int), u.toInt = U → 1 ≤ U → gmk e / U % 401 = 200 + z → -200 ≤ z ∧ z ≤ 200 → (p / u - p / u / 401 * 401 - 200).toInt = z := by
    intro u U z hu hU hz hzb
    have d1 : (p / u).toInt = gmk e / U := by rw [j_div (by omega) hu hU, hp]
    have d0 : 0 ≤ gmk e / U := Int.ediv_nonneg (by omega) (by omega)
    have d9 : gmk e / U ≤ gmk e := Int.ediv_le_self _ (by omega)
    have d2 : (p / u / 401).toInt = gmk e / U / 401 := by rw [j_div (by omega) c401 (by omega), d1]
    have d3 : (p / u / 401 * 401).toInt = gmk e / U / 401 * 401 := by rw [j_mul (by rw [d2, c401]; omega) (by rw [d2, c401]; omega), d2, c401]
    have d4 : (p / u - p / u / 401 * 401).toInt = 200 + z := by rw [j_sub (by rw [d1, d3]; omega) (by rw [d1, d3]; omega), d1, d3]; omega
    rw [j_sub (by rw [d4, c200]; omega) (by rw [d4, c200]; omega), d4, c200]
    omega
  obtain ⟨a, b, c, d⟩ := e
  obtain ⟨g1, g2, g3, g4⟩ := he
  dsimp only at g1 g2 g3 g4
  unfold xpn4
  unfold gmk at fin pb
  dsimp only at fin pb
  match i, h1, h4 with
  | 1, _, _ => exact fin (unt (Int32.ofNat 1)) 64481201 a rfl (by omega) (by omega) g1
  | 2, _, _ => exact fin (unt (Int32.ofNat 2)) 160801 b rfl (by omega) (by omega) g2
  | 3, _, _ => exact fin (unt (Int32.ofNat 3)) 401 c rfl (by omega) (by omega) g3
  | 4, _, _ => exact fin (unt (Int32.ofNat 4)) 1 d rfl (by omega) (by omega) g4
  | n + 5, _, h => exact absurd h (by omega)
section
variable {d : Nat} {h : XH} {y : Nat → Nat} {K : XK} {E : XE}
theorem t_X7_joins {a b : Int64} {L : GL} {e : GE} {n bb g : Int} (hd : 21 ≤ d) (hs : Sg h.1 y) (M : Mm h L) (sL : gs L) (dL : gD L) (hl : L.length < 400) (he : gE e) (ha : a.toInt = gmk e) (hb : b.toInt = n) (bL : gB bb L) (hn : -g ≤ n ∧ n ≤ g) (h0 : 0 ≤ bb) (hbg : bb + g ≤ 4611686018427387904) (kk : ∀ h2, Mm h2 (gin e n L) → Fg h h2 → K none h2) : Ca d m_X7_joins [.ref 77, .long a, .long b] h K E := by
  obtain ⟨d, rfl⟩ : ∃ e, d = e + 1 := ⟨d - 1, by omega⟩
  obtain ⟨M1, M2, M3⟩ := id M
  -- laid at k, those behind it shifted
  have shift : ∀ (k : Nat) (l5 : Int32) (u6 : Option Value), l5.toInt = k → k ≤ L.length → (∀ p ∈ L.take k, gck e < gck p.1) → (∀ p ∈ L.drop k, gck p.1 < gck e) → b_X7_joins_64 d 77 a b l5 u6 h K E := by
    intro k l5 u6 h5 hk t1 t2
    have eL : gin e n L = L.take k ++ (e, n) :: L.drop k := by
      have := gin_app1 (n := n) t2 (L.take k) t1
      rw [List.take_append_drop] at this
      exact this
    have loop : ∀ (q m : Nat) (l6 : Int32) (h1 : XH), q + k = m → m ≤ L.length → l6.toInt = m → Fg h h1 → h1.2.1 = h.2.1 → (∀ i, i < m → h1.2.2.1 92 i = h.2.2.1 92 i ∧ h1.2.2.1 93 i = h.2.2.1 93 i) → (∀ i, m < i → i ≤ L.length → h1.2.2.1 92 i = h.2.2.1 92 (i - 1) ∧ h1.2.2.1 93 i = h.2.2.1 93 (i - 1)) → b_X7_joins_70 d 77 a b l5 l6 h1 K E := by
      intro q
      induction q with
      | zero =>
        intro m l6 h1 hq hm h6 F1 eI f1 f2
        have hs1 := F1.sg hs
        have hmk : m = k := by omega
        subst hmk
        refine w_X7_joins_70 (by omega) hs1 ⟨fun _ => ⟨i_Ix h5 (by omega), fun h2 e2 => ⟨i_Ix h5 (by omega), fun h3 e3 h4 e4 => ?_⟩⟩, fun z => absurd (i_le.mpr (by omega)) z⟩
        rw [i_ix h5] at e2 e3
        have c3 : h3.2.1 = h.2.1 := by rw [e3]; show h2.2.1 = _; rw [e2]; exact eI
        rw [c3] at e4
        have F4 : Fg h h4 := ((F1.tr (Fg.ej e2 (Or.inl rfl))).tr (Fg.ej e3 (Or.inr rfl))).tr (Fg.ei e4)
        have j92 : ∀ i, h4.2.2.1 92 i = if i = m then a else h1.2.2.1 92 i := fun i => by
          rw [e4]
          show h3.2.2.1 92 i = _
          rw [e3, sJ_nq _ _ (by omega), e2]
          by_cases w : i = m
          · rw [if_pos w, w, sJ_eq]
          · rw [if_neg w, sJ_ne _ _ w]
        have j93 : ∀ i, h4.2.2.1 93 i = if i = m then b else h1.2.2.1 93 i := fun i => by
          rw [e4]
          show h3.2.2.1 93 i = _
          rw [e3]
          by_cases w : i = m
          · rw [if_pos w, w, sJ_eq]
          · rw [if_neg w, sJ_ne _ _ w, e2, sJ_nq _ _ (by omega)]
        refine kk h4 ⟨?_, ?_, fun i f t hi => ?_⟩ F4
        · rw [e4, sI_eq, i_add (by rw [i_1]; omega) (by rw [i_1]; omega), M1, i_1, eL, List.length_append, List.length_cons, List.length_take, List.length_drop]
          omega
        · rw [eL, List.length_append, List.length_cons, List.length_take, List.length_drop]
          omega
        · rw [eL, ins_at hm] at hi
          rw [j92, j93]
          by_cases w : i < m
          · rw [if_pos w] at hi
            rw [if_neg (by omega), if_neg (by omega), (f1 i w).1, (f1 i w).2]
            exact M3 i f t hi
          · rw [if_neg w] at hi
            by_cases w2 : i = m
            · rw [if_pos w2] at hi
              cases hi
              rw [if_pos w2, if_pos w2]
              exact ⟨ha, hb⟩
            · rw [if_neg w2] at hi
              have hil := (List.getElem?_eq_some_iff.mp hi).1
              rw [if_neg w2, if_neg w2, (f2 i (by omega) (by omega)).1, (f2 i (by omega) (by omega)).2]
              exact M3 (i - 1) f t hi
      | succ q ih =>
        intro m l6 h1 hq hm h6 F1 eI f1 f2
        have hs1 := F1.sg hs
        obtain ⟨m, rfl⟩ : ∃ z, m = z + 1 := ⟨m - 1, by omega⟩
        refine w_X7_joins_70 (by omega) hs1 ⟨fun z => absurd (i_le.mp z) (by omega), fun _ => ⟨i_Ix (i_p1 h6) (by omega), i_Ix h6 (by omega), fun h2 e2 => ⟨i_Ix (i_p1 h6) (by omega), i_Ix h6 (by omega), fun h3 e3 => ?_⟩⟩⟩
        rw [i_ix (i_p1 h6), i_ix h6] at e2 e3
        have j92 : ∀ i, h3.2.2.1 92 i = if i = m + 1 then h1.2.2.1 92 m else h1.2.2.1 92 i := fun i => by
          rw [e3, sJ_nq _ _ (by omega), e2]
          by_cases w : i = m + 1
          · rw [if_pos w, w, sJ_eq]
          · rw [if_neg w, sJ_ne _ _ w]
        have j93 : ∀ i, h3.2.2.1 93 i = if i = m + 1 then h1.2.2.1 93 m else h1.2.2.1 93 i := fun i => by
          rw [e3]
          by_cases w : i = m + 1
          · rw [if_pos w, w, sJ_eq, e2, sJ_nq _ _ (by omega)]
          · rw [if_neg w, sJ_ne _ _ w, e2, sJ_nq _ _ (by omega)]
        refine ih m _ h3 (by omega) (by omega) (i_pm h6) ((F1.tr (Fg.ej e2 (Or.inl rfl))).tr (Fg.ej e3 (Or.inr rfl))) (by rw [e3]; show h2.2.1 = _; rw [e2]; exact eI) (fun i hi => ?_) (fun i h1' h2' => ?_)
        · rw [j92, j93, if_neg (by omega), if_neg (by omega)]
          exact f1 i (by omega)
        · rw [j92, j93]
          by_cases w : i = m + 1
          · rw [if_pos w, if_pos w, w, Nat.add_sub_cancel]
            exact f1 m (by omega)
          · rw [if_neg w, if_neg w]
            exact f2 i (by omega) h2'
    exact w_X7_joins_64 (by omega) hs (loop (L.length - k) L.length (h.2.1 77 20) h (by omega) (Nat.le_refl _) M1 (Fg.rf _) rfl (fun _ _ => ⟨rfl, rfl⟩) (fun i a b => absurd b (by omega)))
  have find : ∀ (k : Nat) (l5 : Int32) (u6 : Option Value), l5.toInt = k → k ≤ L.length → (∀ p ∈ L.drop k, gck p.1 < gck e) → b_X7_joins_6 d 77 a b l5 u6 h K E := by
    intro k
    induction k with
    | zero =>
      intro l5 u6 h5 hk t2
      exact w_X7_joins_6 (by omega) hs ⟨fun _ => w_X7_joins_31 (by omega) hs ⟨fun _ => shift 0 l5 _ h5 (Nat.zero_le _) (fun p hp => absurd hp List.not_mem_nil) t2, fun z => absurd (i_le.mpr (by rw [i_0]; omega)) z⟩, fun z => absurd (i_le.mpr (by rw [i_0]; omega)) z⟩
    | succ k ih =>
      intro l5 u6 h5 hk t2
      obtain ⟨f, t, gt⟩ := gget (A := L) (m := k) (by omega)
      have hm := List.mem_of_getElem? gt
      obtain ⟨v1, v2⟩ := M3 k f t gt
      have gf := dL _ hm
      have bt := bL _ hm
      dsimp only at gf bt
      obtain ⟨dc, -⟩ := gs_dropc sL gt
      -- those ahead are greater
      have ahead : ∀ p ∈ L.take k, gck f < gck p.1 := by
        intro p hp
        have h9 := sL
        rw [← List.take_append_drop k L, gdrop gt] at h9
        exact (gs_app.mp h9).2.2 p hp (f, t) List.mem_cons_self
      have n50 : ¬ l5 ≤ 0 := fun z => absurd (i_le.mp z) (by rw [i_0]; omega)
      refine w_X7_joins_6 (by omega) hs ⟨fun z => absurd z n50, fun _ => ⟨i_Ix (i_p1 h5) (by omega), ?_⟩⟩
      rw [i_ix (i_p1 h5)]
      refine ⟨fun z => ?_, fun z => ?_⟩
      · rw [j_le, ha, v1] at z
        refine w_X7_joins_31 (by omega) hs ⟨fun z => absurd z n50, fun _ => ⟨i_Ix (i_p1 h5) (by omega), ?_⟩⟩
        rw [i_ix (i_p1 h5)]
        refine ⟨fun w => ?_, fun w => ⟨i_Ix (i_p1 h5) (by omega), i_Ix (i_p1 h5) (by omega), fun h1 e1 => ?_⟩⟩
        · have hne : ¬ gmk f = gmk e := fun q9 => w (Int64.toInt_inj.mp (by rw [v1, ha, q9]))
          have lt : gck e < gck f := (gck_lt he gf).mpr (by omega)
          refine shift (k + 1) l5 _ h5 hk (fun p hp => ?_) t2
          rw [gtake gt] at hp
          rcases List.mem_append.mp hp with q | q
          · have := ahead p q; omega
          · rw [List.mem_singleton.mp q]; exact lt
        · have heq := congrArg Int64.toInt (Classical.not_not.mp w)
          rw [v1, ha] at heq
          have efe : f = e := (gmk_eq gf he).mp heq
          subst efe
          have eL : gin f n L = L.take k ++ (f, t + n) :: L.drop (k + 1) := by
            have := gin_app2 (e := f) (n := n) (t := t) (B := L.drop (k + 1)) (L.take k) ahead
            rw [← gdrop gt, List.take_append_drop] at this
            exact this
          have F1 : Fg h h1 := by rw [e1]; exact Fg.J _ _ _ (Or.inr rfl)
          refine kk h1 ⟨?_, ?_, fun i g t2 hi => ?_⟩ F1
          · rw [e1, eL]
            show (h.2.1 77 20).toInt = _
            rw [M1, List.length_append, List.length_cons, List.length_take, List.length_drop]
            omega
          · rw [eL, List.length_append, List.length_cons, List.length_take, List.length_drop]
            omega
          · rw [eL, set_at gt] at hi
            rw [e1, sJ_nq _ _ (by omega)]
            by_cases w : i = k
            · rw [if_pos w] at hi
              cases hi
              rw [w, sJ_eq, j_add (by rw [v2, hb]; omega) (by rw [v2, hb]; omega), v2, hb]
              exact ⟨v1, rfl⟩
            · rw [if_neg w] at hi
              rw [sJ_ne _ _ w]
              exact M3 i g t2 hi
      · rw [j_le, ha, v1] at z
        have lt : gck f < gck e := (gck_lt gf he).mpr (by omega)
        refine ih _ _ (i_pm h5) (by omega) (fun p hp => ?_)
        rw [gdrop gt] at hp
        rcases List.mem_cons.mp hp with q | q
        · rw [q]; exact lt
        · exact t2 p q
  exact w_X7_joins (by omega) hs (find L.length (h.2.1 77 20) none M1 (Nat.le_refl _) (fun p hp => by rw [List.drop_length] at hp; exact absurd hp List.not_mem_nil))
theorem t_X7_fits {L : GL} (hd : 21 ≤ d) (hs : Sg h.1 y) (M : Mm h L) (dL : gD L) (k1 : gfit (gnz L) → ∀ h2, Mm h2 (gnz L) → Fg h h2 → K (some (.int 1)) h2) (k0 : ¬ gfit (gnz L) → ∀ h2, Mm h2 (gnz L) → Fg h h2 → K (some (.int 0)) h2) : Ca d m_X7_fits [.ref 77] h K E := by
  obtain ⟨d, rfl⟩ : ∃ e, d = e + 1 := ⟨d - 1, by omega⟩
  obtain ⟨M1, M2, M3⟩ := id M
  have e20 : (20 : Int32).toInt = 20 := rfl
  have eP : (100000000 : Int64).toInt = 100000000 := rfl
  have eN : (-100000000 : Int64).toInt = -100000000 := rfl
  have e9 : (99 : Int64).toInt = 99 := rfl
  have e8 : (-99 : Int64).toInt = -99 := rfl
  have e5 : (5 : Int32).toInt = 5 := rfl
  have ok : GE × Int → Prop := fun p => (-100000000 ≤ p.2 ∧ p.2 ≤ 100000000) ∧ e99 p.1
  have main : ∀ (q s : Nat) (l1 l2 l3 : Int32) (u4 : Option Value) (h1 : XH), q + s = L.length → l3.toInt = s → l1.toInt = (gnz (L.take s)).length → Fg h h1 → h1.2.1 = h.2.1 → (∀ i, s ≤ i → h1.2.2.1 92 i = h.2.2.1 92 i ∧ h1.2.2.1 93 i = h.2.2.1 93 i) → (∀ (k : Nat) (e : GE) (n : Int), (gnz (L.take s))[k]? = some (e, n) → (h1.2.2.1 92 k).toInt = gmk e ∧ (h1.2.2.1 93 k).toInt = n) → (l2 = 1 ∧ (∀ p ∈ gnz (L.take s), (-100000000 ≤ p.2 ∧ p.2 ≤ 100000000) ∧ e99 p.1) ∨ l2 = 0 ∧ ¬ gfit (gnz L)) → b_X7_fits_6 d 77 l1 l2 l3 u4 h1 K E := by
    intro q
    induction q with
    | zero =>
      intro s l1 l2 l3 u4 h1 hq h3 h1l F1 eI f1 f2 J
      have hs1 := F1.sg hs
      have hsl : L.take s = L := List.take_of_length_le (by omega)
      rw [hsl] at h1l f2 J
      have ln := len_gnz L
      refine w_X7_fits_6 (by omega) hs1 ⟨fun _ h2 e2 => ?_, fun z => absurd (i_le.mpr (by rw [eI]; omega)) z⟩
      have F2 : Fg h h2 := F1.tr (by rw [e2]; exact Fg.I _ _)
      have MM : Mm h2 (gnz L) := ⟨by rw [e2, sI_eq]; exact h1l, by omega, fun k e n hk => by rw [e2]; exact f2 k e n hk⟩
      refine ⟨fun z => ?_, fun z => ⟨fun w => ?_, fun w => ?_⟩⟩
      · rcases J with ⟨j1, _⟩ | ⟨_, j2⟩
        · rw [z] at j1; exact absurd j1.symm n1_0
        · exact k0 j2 h2 MM F2
      · rw [i_lt, e20, h1l] at w
        exact k0 (fun v => by have := v.1; omega) h2 MM F2
      · rw [i_lt, e20, h1l] at w
        rcases J with ⟨_, j2⟩ | ⟨j1, _⟩
        · exact k1 ⟨by omega, j2⟩ h2 MM F2
        · exact absurd j1 z
    | succ q ih =>
      intro s l1 l2 l3 u4 h1 hq h3 h1l F1 eI f1 f2 J
      have hs1 := F1.sg hs
      have nx : (l3 + 1).toInt = (s + 1 : Nat) := by rw [i_add (by rw [i_1]; omega) (by rw [i_1]; omega), h3, i_1]; rfl
      obtain ⟨e, t, g⟩ := gget (A := L) (m := s) (by omega)
      have hm := List.mem_of_getElem? g
      obtain ⟨v1, v2⟩ := M3 s e t g
      have ge := dL _ hm
      dsimp only at ge
      have w1 : (h1.2.2.1 92 s).toInt = gmk e := by rw [(f1 s (Nat.le_refl _)).1]; exact v1
      have w2 : (h1.2.2.1 93 s).toInt = t := by rw [(f1 s (Nat.le_refl _)).2]; exact v2
      have ln : (gnz (L.take s)).length ≤ s := by
        have := len_gnz (L.take s)
        rw [List.length_take] at this
        omega
      have tk : gnz (L.take (s + 1)) = gnz (L.take s) ++ g1 e t := by rw [gtake g, gnz_app, gnz_1]
      refine w_X7_fits_6 (by omega) hs1 ⟨fun z => absurd (i_le.mp z) (by rw [eI]; omega), fun _ => ⟨i_Ix h3 (by omega), ?_⟩⟩
      rw [i_ix h3]
      refine ⟨fun z => ?_, fun z => ⟨i_Ix h3 (by omega), i_Ix h1l (by omega), fun h2 e2 => ⟨i_Ix h3 (by omega), i_Ix h1l (by omega), fun h3' e3 => ?_⟩⟩⟩
      · have t0 : t = 0 := by rw [← w2, z]; rfl
        have eg : g1 e t = [] := by rw [g1, if_pos t0]
        rw [eg, List.append_nil] at tk
        exact w_X7_fits_128 (by omega) hs1 (ih (s + 1) l1 l2 (l3 + 1) _ h1 (by omega) nx (by rw [tk]; exact h1l) F1 eI (fun i hi => f1 i (by omega)) (by rw [tk]; exact f2) (by rw [tk]; exact J))
      · have tn : ¬ t = 0 := fun q9 => z (Int64.toInt_inj.mp (by rw [w2, q9]; rfl))
        have eg : g1 e t = [(e, t)] := by rw [g1, if_neg tn]
        rw [eg] at tk
        rw [i_ix h1l] at e2 e3
        generalize hN : gnz (L.take s) = N at *
        have c2 : h2.2.2.1 93 = h1.2.2.1 93 := by rw [e2]; exact sJ_nq _ _ (by omega)
        rw [c2] at e3
        have j92 : ∀ i, h3'.2.2.1 92 i = if i = N.length then h1.2.2.1 92 s else h1.2.2.1 92 i := fun i => by
          rw [e3, sJ_nq _ _ (by omega), e2]
          by_cases w : i = N.length
          · rw [if_pos w, w, sJ_eq]
          · rw [if_neg w, sJ_ne _ _ w]
        have j93 : ∀ i, h3'.2.2.1 93 i = if i = N.length then h1.2.2.1 93 s else h1.2.2.1 93 i := fun i => by
          rw [e3]
          by_cases w : i = N.length
          · rw [if_pos w, w, sJ_eq]
          · rw [if_neg w, sJ_ne _ _ w, c2]
        have F3 : Fg h h3' := (F1.tr (Fg.ej e2 (Or.inl rfl))).tr (Fg.ej e3 (Or.inr rfl))
        have eI3 : h3'.2.1 = h.2.1 := by rw [e3]; show h2.2.1 = _; rw [e2]; exact eI
        have hs3 := F3.sg hs
        have nl : (l1 + 1).toInt = (N.length + 1 : Nat) := by rw [i_add (by rw [i_1]; omega) (by rw [i_1]; omega), h1l, i_1]; rfl
        have k92 : (h3'.2.2.1 92 (ix l1)).toInt = gmk e := by rw [i_ix h1l, j92, if_pos rfl]; exact w1
        have k93 : (h3'.2.2.1 93 (ix l1)).toInt = t := by rw [i_ix h1l, j93, if_pos rfl]; exact w2
        -- behind the four exponents
        have fin : ∀ (l2' : Int32) (u4 : Option Value), (l2' = 1 ∧ (∀ p ∈ N ++ [(e, t)], (-100000000 ≤ p.2 ∧ p.2 ≤ 100000000) ∧ e99 p.1) ∨ l2' = 0 ∧ ¬ gfit (gnz L)) → b_X7_fits_128 d 77 (l1 + 1) l2' l3 u4 h3' K E := by
          intro l2' u4 J2
          refine w_X7_fits_128 (by omega) hs3 (ih (s + 1) (l1 + 1) l2' (l3 + 1) _ h3' (by omega) nx ?_ F3 eI3 (fun i hi => ?_) (fun k f n hk => ?_) (by rw [tk]; exact J2))
          · rw [tk, List.length_append]; exact nl
          · rw [j92, j93, if_neg (by omega), if_neg (by omega)]
            exact f1 i (by omega)
          · rw [tk] at hk
            rw [j92, j93]
            by_cases w : k < N.length
            · rw [List.getElem?_append_left w] at hk
              rw [if_neg (by omega), if_neg (by omega)]
              exact f2 k f n hk
            · have hkl := (List.getElem?_eq_some_iff.mp hk).1
              rw [List.length_append] at hkl
              simp only [List.length_singleton] at hkl
              have w2' : k = N.length := by omega
              rw [List.getElem?_append_right (by omega), w2', Nat.sub_self] at hk
              cases hk
              rw [if_pos w2', if_pos w2']
              exact ⟨w1, w2⟩
        have memL : (e, t) ∈ gnz L := mem_gnz.mpr ⟨hm, tn⟩
        have inner : ∀ (r i : Nat) (l2' l4 : Int32), r + i = 5 → 1 ≤ i → l4.toInt = i → (l2' = 1 ∧ (∀ p ∈ N, (-100000000 ≤ p.2 ∧ p.2 ≤ 100000000) ∧ e99 p.1) ∧ (-100000000 ≤ t ∧ t ≤ 100000000) ∧ (∀ j, 1 ≤ j → j < i → -99 ≤ gex j e ∧ gex j e ≤ 99) ∨ l2' = 0 ∧ ¬ gfit (gnz L)) → b_X7_fits_80 d 77 l1 l2' l3 l4 h3' K E := by
          intro r
          induction r with
          | zero =>
            intro i l2' l4 hr h1i h4 J2
            refine w_X7_fits_80 (by omega) hs3 ⟨fun _ => fin l2' _ ?_, fun w => absurd (i_le.mpr (by rw [e5]; omega)) w⟩
            rcases J2 with ⟨j1, j2, j3, j4⟩ | j1
            · refine Or.inl ⟨j1, fun p hp => ?_⟩
              rcases List.mem_append.mp hp with w | w
              · exact j2 p w
              · rw [List.mem_singleton.mp w]
                exact ⟨j3, j4 1 (by omega) (by omega), j4 2 (by omega) (by omega), j4 3 (by omega) (by omega), j4 4 (by omega) (by omega)⟩
            · exact Or.inr j1
          | succ r ihr =>
            intro i l2' l4 hr h1i h4 J2
            have nx4 : (l4 + 1).toInt = (i + 1 : Nat) := by rw [i_add (by rw [i_1]; omega) (by rw [i_1]; omega), h4, i_1]; rfl
            have xv := xpn4_i k92 ge h4 h1i (by omega)
            have no : ¬ gfit (gnz L) → ∀ u2, b_X7_fits_117 d 77 l1 u2 l3 l4 h3' K E := fun w u2 => w_X7_fits_117 (by omega) hs3 (w_X7_fits_118 (by omega) hs3 (ihr (i + 1) 0 _ (by omega) (by omega) nx4 (Or.inr ⟨rfl, w⟩)))
            refine w_X7_fits_80 (by omega) hs3 ⟨fun w => absurd (i_le.mp w) (by rw [e5]; omega), fun _ => ⟨fun w => no ?_ _, fun w => ⟨i_Ix h1l (by omega), fun v => w_X7_fits_118 (by omega) hs3 (ihr (i + 1) 1 _ (by omega) (by omega) nx4 ?_), fun v => no (fun q9 => v ?_) _⟩⟩⟩
            · rcases J2 with ⟨j1, _⟩ | ⟨_, j2⟩
              · rw [w] at j1; exact absurd j1.symm n1_0
              · exact j2
            · rw [j_le, j_le, xv, e8, e9] at v
              rcases J2 with ⟨j1, j2, j3, j4⟩ | ⟨j1, j2⟩
              · refine Or.inl ⟨rfl, j2, j3, fun j a b => ?_⟩
                by_cases q9 : j = i
                · rw [q9]; exact v
                · exact j4 j a (by omega)
              · exact absurd j1 w
            · rw [j_le, j_le, xv, e8, e9]
              obtain ⟨a1, a2, a3, a4⟩ := (q9.2 _ memL).2
              match i, h1i, (by omega : i ≤ 4) with
              | 1, _, _ => exact a1
              | 2, _, _ => exact a2
              | 3, _, _ => exact a3
              | 4, _, _ => exact a4
              | n + 5, _, h => exact absurd h (by omega)
        have no75 : ¬ gfit (gnz L) → ∀ u2 u4, b_X7_fits_75 d 77 l1 u2 l3 u4 h3' K E := fun w u2 u4 => w_X7_fits_75 (by omega) hs3 (w_X7_fits_76 (by omega) hs3 (inner 4 1 0 1 (by omega) (by omega) rfl (Or.inr ⟨rfl, w⟩)))
        refine ⟨fun w => no75 ?_ _ _, fun w => ⟨i_Ix h1l (by omega), fun v => w_X7_fits_76 (by omega) hs3 (inner 4 1 1 1 (by omega) (by omega) rfl ?_), fun v => no75 (fun q9 => v ?_) _ _⟩⟩
        · rcases J with ⟨j1, _⟩ | ⟨_, j2⟩
          · rw [w] at j1; exact absurd j1.symm n1_0
          · exact j2
        · rw [j_le, j_le, k93, eP, eN] at v
          rcases J with ⟨j1, j2⟩ | ⟨j1, _⟩
          · exact Or.inl ⟨rfl, j2, v, fun j a b => absurd b (by omega)⟩
          · exact absurd j1 w
        · rw [j_le, j_le, k93, eP, eN]
          exact (q9.2 _ memL).1
  exact w_X7_fits (by omega) hs (main L.length 0 0 1 0 none h (Nat.add_zero _) rfl rfl (Fg.rf _) rfl (fun _ _ => ⟨rfl, rfl⟩) (fun k e n hk => by cases hk) (Or.inl ⟨rfl, fun p hp => absurd hp List.not_mem_nil⟩))
end
