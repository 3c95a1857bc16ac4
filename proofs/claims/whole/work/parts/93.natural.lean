/-! ===== layer 4: the live bound: the natural sum and product ===== -/
theorem na_n (A : List OP) : naL A [] = A := by cases A <;> rfl
theorem na_z : ∀ B : List OP, naL [] B = B := by
  intro B
  induction B with
  | nil => rfl
  | cons q B ih =>
    obtain ⟨f, m⟩ := q
    show (f, m + 0) :: naL [] B = _
    rw [ih]
    rfl
theorem na_in : ∀ (n : Nat) (A B : List OP), A.length + B.length ≤ n → ∀ q, (q ∈ A ∨ q ∈ B) → ∃ p, p ∈ naL A B ∧ p.1 = q.1 := by
  intro n
  induction n with
  | zero =>
    intro A B h q hq
    cases A with
    | nil =>
      cases B with
      | nil => rcases hq with w | w <;> exact absurd w List.not_mem_nil
      | cons p B => exact absurd h (by show ¬ (0 + (B.length + 1) ≤ 0); omega)
    | cons p A => exact absurd h (by show ¬ (A.length + 1 + _ ≤ 0); omega)
  | succ n ih =>
    intro A B h q hq
    cases A with
    | nil =>
      rw [na_z]
      rcases hq with w | w
      · exact absurd w List.not_mem_nil
      · exact ⟨q, w, rfl⟩
    | cons p A =>
      cases B with
      | nil =>
        rw [na_n]
        rcases hq with w | w
        · exact ⟨q, w, rfl⟩
        · exact absurd w List.not_mem_nil
      | cons r B =>
        obtain ⟨e, k⟩ := p
        obtain ⟨f, m⟩ := r
        have h2 : A.length + 1 + (B.length + 1) ≤ n + 1 := h
        rw [na_cons]
        by_cases w1 : oc e f = 1
        · rw [if_pos w1]
          have step : (q ∈ A ∨ q ∈ (f, m) :: B) → _ := ih A ((f, m) :: B) (by show A.length + (B.length + 1) ≤ n; omega) q
          rcases hq with v | v
          · rcases List.mem_cons.mp v with u | u
            · exact ⟨(e, k), List.mem_cons_self, by rw [u]⟩
            · obtain ⟨p, p1, p2⟩ := step (Or.inl u)
              exact ⟨p, List.mem_cons_of_mem _ p1, p2⟩
          · obtain ⟨p, p1, p2⟩ := step (Or.inr v)
            exact ⟨p, List.mem_cons_of_mem _ p1, p2⟩
        · rw [if_neg w1]
          by_cases w2 : oc e f = 0
          · rw [if_pos w2]
            have ee := oc_eq _ _ w2
            have step : (q ∈ A ∨ q ∈ B) → _ := ih A B (by omega) q
            have fin : (q ∈ A ∨ q ∈ B) → ∃ p, p ∈ (f, m + k) :: naL A B ∧ p.1 = q.1 := fun z => by
              obtain ⟨p, p1, p2⟩ := step z
              exact ⟨p, List.mem_cons_of_mem _ p1, p2⟩
            rcases hq with v | v
            · rcases List.mem_cons.mp v with u | u
              · exact ⟨(f, m + k), List.mem_cons_self, by rw [u]; exact ee.symm⟩
              · exact fin (Or.inl u)
            · rcases List.mem_cons.mp v with u | u
              · exact ⟨(f, m + k), List.mem_cons_self, by rw [u]⟩
              · exact fin (Or.inr u)
          · rw [if_neg w2]
            have step : (q ∈ (e, k) :: A ∨ q ∈ B) → _ := ih ((e, k) :: A) B (by show A.length + 1 + B.length ≤ n; omega) q
            rcases hq with v | v
            · obtain ⟨p, p1, p2⟩ := step (Or.inl v)
              exact ⟨p, List.mem_cons_of_mem _ p1, p2⟩
            · rcases List.mem_cons.mp v with u | u
              · exact ⟨(f, m), List.mem_cons_self, by rw [u]⟩
              · obtain ⟨p, p1, p2⟩ := step (Or.inr u)
                exact ⟨p, List.mem_cons_of_mem _ p1, p2⟩
theorem na_ex {A B y : O} : ex (naO A B) y ↔ ex A y ∨ ex B y := by
  constructor
  · intro h
    obtain ⟨p, hp, ep⟩ := ex_mk.mp h
    obtain ⟨q, hq, e⟩ := mem_na hp
    rcases hq with w | w
    · exact Or.inl ⟨q, w, by rw [e, ep]⟩
    · exact Or.inr ⟨q, w, by rw [e, ep]⟩
  · intro h
    have key : ∀ q, (q ∈ pl A ∨ q ∈ pl B) → q.1 = y → ex (naO A B) y := fun q hq e => by
      obtain ⟨p, p1, p2⟩ := na_in _ (pl A) (pl B) (Nat.le_refl _) q hq
      exact ex_mk.mpr ⟨p, p1, by rw [p2, e]⟩
    rcases h with ⟨q, q1, q2⟩ | ⟨q, q1, q2⟩
    · exact key q (Or.inl q1) q2
    · exact key q (Or.inr q1) q2
theorem la_sub {A T : O} (gA : hgd A) (gT : hgd T) (h : ex A (la T)) (k : ex T (la A)) : la T = la A := by
  rcases ex_or gA h with w | w
  · exact w
  · rcases ex_or gT k with v | v
    · exact v.symm
    · have := oc_asym v; omega
theorem GW_na {A B : O} {F : O → Nat} (gA : hgd A) (gB : hgd B) (gT : hgd (naO A B)) (a : HW A F) (b : HW B F) : GW (naO A B) F := by
  by_cases nA : A = .leaf
  · have : naO A B = B := by
      rw [nA]
      unfold naO
      rw [show pl .leaf = [] from rfl, na_z, mk_pl]
    rw [this]; exact b.g
  by_cases nB : B = .leaf
  · have : naO A B = A := by
      rw [nB]
      unfold naO
      rw [show pl .leaf = [] from rfl, na_n, mk_pl]
    rw [this]; exact a.g
  have xT : ex (naO A B) (la (naO A B)) := ex_la (ex_nl (na_ex.mpr (Or.inl (ex_la nA))))
  rcases na_ex.mp xT with w | w
  · exact GW_join gB b a (fun z hz => (na_ex.mp hz).symm) (la_sub gA gT w (na_ex.mpr (Or.inl (ex_la nA))))
  · exact GW_join gA a b (fun z hz => na_ex.mp hz) (la_sub gB gT w (na_ex.mpr (Or.inr (ex_la nB))))
theorem add_ex {A B y : O} (h : ex (addO A B) y) : ex A y ∨ ex B y := by
  obtain ⟨p, hp, ep⟩ := ex_mk.mp h
  obtain ⟨q, hq, e⟩ := mem_add hp
  rcases hq with w | w
  · exact Or.inl ⟨q, w, by rw [e, ep]⟩
  · exact Or.inr ⟨q, w, by rw [e, ep]⟩
theorem la_add {A B : O} (h : ¬ B = .leaf) : la (addO A B) = la B := by
  cases B with
  | leaf => exact absurd rfl h
  | inner n k v f r =>
    have e1 : pl (addO A (.inner n k v f r)) = (pl A).take (abv f (pl A)) ++ (f, n + smt f ((pl A).drop (abv f (pl A)))) :: pl r := pl_mk _
    by_cases w : r = .leaf
    · rw [la_eq (A := (pl A).take (abv f (pl A))) (p := (f, n + smt f ((pl A).drop (abv f (pl A))))) (by rw [e1, w]; rfl), la_eq (A := []) (p := (f, n)) (by rw [w]; rfl)]
    · obtain ⟨R, p, e⟩ := pl_snoc w
      rw [la_eq (A := (pl A).take (abv f (pl A)) ++ (f, n + smt f ((pl A).drop (abv f (pl A)))) :: R) (p := p) (by rw [e1, e, List.append_assoc]; rfl), la_eq (A := (f, n) :: R) (p := p) (by show (f, n) :: pl r = _; rw [e]; rfl)]
theorem GW_add {A B : O} {F : O → Nat} (gA : hgd A) (a : HW A F) (b : HW B F) : GW (addO A B) F := by
  by_cases nB : B = .leaf
  · rw [nB, addO_leaf]; exact a.g
  · exact GW_join gA a b (fun z hz => add_ex hz) (la_add nB)
theorem na_comm : ∀ (n : Nat) (A B : List OP), A.length + B.length ≤ n → naL A B = naL B A := by
  intro n
  induction n with
  | zero =>
    intro A B h
    cases A with
    | nil => rw [na_z, na_n]
    | cons p A => exact absurd h (by show ¬ (A.length + 1 + _ ≤ 0); omega)
  | succ n ih =>
    intro A B h
    cases A with
    | nil => rw [na_z, na_n]
    | cons p A =>
      cases B with
      | nil => rw [na_z, na_n]
      | cons r B =>
        obtain ⟨e, k⟩ := p
        obtain ⟨f, m⟩ := r
        have h2 : A.length + 1 + (B.length + 1) ≤ n + 1 := h
        rw [na_cons, na_cons]
        have v := oc_val e f
        have s := oc_sw e f
        by_cases w1 : oc e f = 1
        · rw [if_pos w1, if_neg (by omega), if_neg (by omega), ih A ((f, m) :: B) (by show A.length + (B.length + 1) ≤ n; omega)]
        · rw [if_neg w1]
          by_cases w2 : oc e f = 0
          · rw [if_pos w2, if_neg (by omega), if_pos (by omega), ih A B (by omega), oc_eq _ _ w2, Nat.add_comm]
          · rw [if_neg w2, if_pos (by omega), ih ((e, k) :: A) B (by show A.length + 1 + B.length ≤ n; omega)]
theorem ocL_ne {e f : O} {n m : Nat} {A B : List OP} (h : ocL ((e, n) :: A) ((f, m) :: B) = 1) : oc e f = 1 ∨ (e = f ∧ (m < n ∨ (n = m ∧ ocL A B = 1))) := by
  have h2 : (if oc e f = 0 then (if n < m then -1 else if m < n then 1 else ocL A B) else oc e f) = 1 := h
  by_cases w : oc e f = 0
  · rw [if_pos w] at h2
    refine Or.inr ⟨oc_eq _ _ w, ?_⟩
    by_cases v : n < m
    · rw [if_pos v] at h2; omega
    · rw [if_neg v] at h2
      by_cases u : m < n
      · exact Or.inl u
      · rw [if_neg u] at h2
        exact Or.inr ⟨by omega, h2⟩
  · rw [if_neg w] at h2; exact Or.inl h2
theorem ocL_nil {A : List OP} : ¬ ocL [] A = 1 := by
  cases A with
  | nil => show ¬ (0 : Int) = 1; omega
  | cons p A => show ¬ (-1 : Int) = 1; omega
theorem na_mono : ∀ (n : Nat) (A A2 B : List OP), A.length + A2.length + B.length ≤ n → (∀ p, p ∈ A → 1 ≤ p.2) → ocL A A2 = 1 → ocL (naL A B) (naL A2 B) = 1 := by
  intro n
  induction n with
  | zero =>
    intro A A2 B h _ g
    cases A with
    | nil => exact absurd g ocL_nil
    | cons p A => exact absurd h (by show ¬ (A.length + 1 + _ + _ ≤ 0); omega)
  | succ n ih =>
    intro A A2 B h hA g
    cases B with
    | nil => rw [na_n, na_n]; exact g
    | cons r B =>
      obtain ⟨f, m⟩ := r
      cases A with
      | nil => exact absurd g ocL_nil
      | cons p A =>
        obtain ⟨e, k⟩ := p
        have k1 : 1 ≤ k := hA (e, k) List.mem_cons_self
        have v1 := oc_val e f
        cases A2 with
        | nil =>
          have h2 : A.length + 1 + 0 + (B.length + 1) ≤ n + 1 := h
          rw [na_z, na_cons]
          by_cases w1 : oc e f = 1
          · rw [if_pos w1]; exact ocL_hd w1
          · rw [if_neg w1]
            by_cases w2 : oc e f = 0
            · rw [if_pos w2]; exact ocL_tm (by omega)
            · rw [if_neg w2, ocL_eq]
              have := ih ((e, k) :: A) [] B (by show A.length + 1 + 0 + B.length ≤ n; omega) hA rfl
              rw [na_z] at this
              exact this
        | cons p2 A2 =>
          obtain ⟨e2, k2⟩ := p2
          have h2 : A.length + 1 + (A2.length + 1) + (B.length + 1) ≤ n + 1 := h
          have v2 := oc_val e2 f
          rw [na_cons, na_cons]
          rcases ocL_ne g with w | ⟨w, u⟩
          · by_cases c1 : oc e f = 1
            · rw [if_pos c1]
              by_cases d1 : oc e2 f = 1
              · rw [if_pos d1]; exact ocL_hd w
              · rw [if_neg d1]
                by_cases d2 : oc e2 f = 0
                · rw [if_pos d2]; exact ocL_hd c1
                · rw [if_neg d2]; exact ocL_hd c1
            · rw [if_neg c1]
              have d1 : ¬ oc e2 f = 1 := fun z => c1 (oc_tr _ _ _ w z)
              rw [if_neg d1]
              by_cases c2 : oc e f = 0
              · rw [if_pos c2]
                have d2 : ¬ oc e2 f = 0 := fun z => by
                  rw [oc_eq _ _ z, c2] at w; omega
                rw [if_neg d2]
                exact ocL_tm (by omega)
              · rw [if_neg c2]
                have d2 : ¬ oc e2 f = 0 := fun z => by
                  rw [oc_eq _ _ z] at w; omega
                rw [if_neg d2, ocL_eq]
                exact ih ((e, k) :: A) ((e2, k2) :: A2) B (by show A.length + 1 + (A2.length + 1) + B.length ≤ n; omega) hA g
          · subst w
            by_cases c1 : oc e f = 1
            · rw [if_pos c1, if_pos c1]
              rcases u with u | ⟨u1, u2⟩
              · exact ocL_tm u
              · rw [← u1, ocL_eq]
                exact ih A A2 ((f, m) :: B) (by show A.length + A2.length + (B.length + 1) ≤ n; omega) (fun p hp => hA p (List.mem_cons_of_mem _ hp)) u2
            · rw [if_neg c1, if_neg c1]
              by_cases c2 : oc e f = 0
              · rw [if_pos c2, if_pos c2]
                rcases u with u | ⟨u1, u2⟩
                · exact ocL_tm (by omega)
                · rw [← u1, ocL_eq]
                  exact ih A A2 B (by omega) (fun p hp => hA p (List.mem_cons_of_mem _ hp)) u2
              · rw [if_neg c2, if_neg c2, ocL_eq]
                exact ih ((e, k) :: A) ((e, k2) :: A2) B (by show A.length + 1 + (A2.length + 1) + B.length ≤ n; omega) hA g
theorem srt_one : ∀ {A : List OP}, srt A → ∀ p, p ∈ A → 1 ≤ p.2 := by
  intro A
  induction A with
  | nil => intro _ p hp; exact absurd hp List.not_mem_nil
  | cons q A ih =>
    intro h p hp
    rcases List.mem_cons.mp hp with z | z
    · rw [z]; exact h.1
    · exact ih h.2.2 p z
theorem naO_l {a b c : O} (ha : nf a) (h : oc a b = 1) : oc (naO a c) (naO b c) = 1 := by
  rw [ocL_pl] at h ⊢
  unfold naO
  rw [pl_mk, pl_mk]
  exact na_mono _ _ _ _ (Nat.le_refl _) (srt_one (nf_srt _ ha)) h
theorem naO_c (a b : O) : naO a b = naO b a := by
  unfold naO
  rw [na_comm _ _ _ (Nat.le_refl _)]
theorem naO_r {a b c : O} (ha : nf a) (h : oc a b = 1) : oc (naO c a) (naO c b) = 1 := by
  rw [naO_c c a, naO_c c b]
  exact naO_l ha h
theorem ins_1 {e : O} {n : Nat} : ∀ P : List OP, (∃ p, p ∈ ins e n P ∧ p.1 = e) ∧ ∀ q, q ∈ P → ∃ p, p ∈ ins e n P ∧ p.1 = q.1 := by
  intro P
  induction P with
  | nil => exact ⟨⟨(e, n), List.mem_cons_self, rfl⟩, fun q hq => absurd hq List.not_mem_nil⟩
  | cons r P ih =>
    obtain ⟨⟨p, p1, p2⟩, i2⟩ := ih
    unfold ins
    by_cases w : oc r.1 e = 1
    · rw [if_pos w]
      refine ⟨⟨p, List.mem_cons_of_mem _ p1, p2⟩, fun q hq => ?_⟩
      rcases List.mem_cons.mp hq with z | z
      · exact ⟨r, List.mem_cons_self, by rw [z]⟩
      · obtain ⟨s, s1, s2⟩ := i2 q z
        exact ⟨s, List.mem_cons_of_mem _ s1, s2⟩
    · rw [if_neg w]
      by_cases v : oc r.1 e = 0
      · rw [if_pos v]
        refine ⟨⟨_, List.mem_cons_self, oc_eq _ _ v⟩, fun q hq => ?_⟩
        rcases List.mem_cons.mp hq with z | z
        · exact ⟨_, List.mem_cons_self, by rw [z]⟩
        · exact ⟨q, List.mem_cons_of_mem _ z, rfl⟩
      · rw [if_neg v]
        exact ⟨⟨_, List.mem_cons_self, rfl⟩, fun q hq => ⟨q, List.mem_cons_of_mem _ hq, rfl⟩⟩
theorem row_1 {e : O} {n : Nat} : ∀ (B P : List OP), (∀ p, p ∈ nmRow e n B P → (∃ q, q ∈ B ∧ p.1 = naO e q.1) ∨ ∃ q, q ∈ P ∧ q.1 = p.1) ∧ (∀ q, q ∈ B → ∃ p, p ∈ nmRow e n B P ∧ p.1 = naO e q.1) ∧ ∀ q, q ∈ P → ∃ p, p ∈ nmRow e n B P ∧ p.1 = q.1 := by
  intro B
  induction B with
  | nil => intro P; exact ⟨fun p hp => Or.inr ⟨p, hp, rfl⟩, fun q hq => absurd hq List.not_mem_nil, fun q hq => ⟨q, hq, rfl⟩⟩
  | cons r B ih =>
    intro P
    obtain ⟨f, m⟩ := r
    obtain ⟨i1, i2, i3⟩ := ih (ins (naO e f) (n * m) P)
    obtain ⟨j1, j2⟩ := ins_1 (e := naO e f) (n := n * m) P
    show (∀ p, p ∈ nmRow e n B (ins (naO e f) (n * m) P) → _) ∧ (∀ q, q ∈ (f, m) :: B → ∃ p, p ∈ nmRow e n B (ins (naO e f) (n * m) P) ∧ _) ∧ ∀ q, q ∈ P → ∃ p, p ∈ nmRow e n B (ins (naO e f) (n * m) P) ∧ _
    refine ⟨fun p hp => ?_, fun q hq => ?_, fun q hq => ?_⟩
    · rcases i1 p hp with ⟨q, q1, q2⟩ | ⟨q, q1, q2⟩
      · exact Or.inl ⟨q, List.mem_cons_of_mem _ q1, q2⟩
      · rcases mem_ins q1 with w | ⟨s, s1, s2⟩
        · exact Or.inl ⟨(f, m), List.mem_cons_self, by rw [← q2, w]⟩
        · exact Or.inr ⟨s, s1, by rw [s2, q2]⟩
    · rcases List.mem_cons.mp hq with z | z
      · obtain ⟨p, p1, p2⟩ := j1
        obtain ⟨s, s1, s2⟩ := i3 p p1
        exact ⟨s, s1, by rw [s2, p2, z]⟩
      · exact i2 q z
    · obtain ⟨p, p1, p2⟩ := j2 q hq
      obtain ⟨s, s1, s2⟩ := i3 p p1
      exact ⟨s, s1, by rw [s2, p2]⟩
theorem nm_1 {B : List OP} : ∀ (A P : List OP), (∀ p, p ∈ nmL A B P → (∃ q r, q ∈ A ∧ r ∈ B ∧ p.1 = naO q.1 r.1) ∨ ∃ q, q ∈ P ∧ q.1 = p.1) ∧ (∀ q r, q ∈ A → r ∈ B → ∃ p, p ∈ nmL A B P ∧ p.1 = naO q.1 r.1) ∧ ∀ q, q ∈ P → ∃ p, p ∈ nmL A B P ∧ p.1 = q.1 := by
  intro A
  induction A with
  | nil => intro P; exact ⟨fun p hp => Or.inr ⟨p, hp, rfl⟩, fun q r hq => absurd hq List.not_mem_nil, fun q hq => ⟨q, hq, rfl⟩⟩
  | cons s A ih =>
    intro P
    obtain ⟨e, n⟩ := s
    obtain ⟨i1, i2, i3⟩ := ih (nmRow e n B P)
    obtain ⟨j1, j2, j3⟩ := row_1 (e := e) (n := n) B P
    show (∀ p, p ∈ nmL A B (nmRow e n B P) → _) ∧ (∀ q r, q ∈ (e, n) :: A → r ∈ B → ∃ p, p ∈ nmL A B (nmRow e n B P) ∧ _) ∧ ∀ q, q ∈ P → ∃ p, p ∈ nmL A B (nmRow e n B P) ∧ _
    refine ⟨fun p hp => ?_, fun q r hq hr => ?_, fun q hq => ?_⟩
    · rcases i1 p hp with ⟨q, r, q1, q2, q3⟩ | ⟨q, q1, q2⟩
      · exact Or.inl ⟨q, r, List.mem_cons_of_mem _ q1, q2, q3⟩
      · rcases j1 q q1 with ⟨r, r1, r2⟩ | ⟨r, r1, r2⟩
        · exact Or.inl ⟨(e, n), r, List.mem_cons_self, r1, by rw [← q2, r2]⟩
        · exact Or.inr ⟨r, r1, by rw [r2, q2]⟩
    · rcases List.mem_cons.mp hq with z | z
      · obtain ⟨p, p1, p2⟩ := j2 r hr
        obtain ⟨t, t1, t2⟩ := i3 p p1
        exact ⟨t, t1, by rw [t2, p2, z]⟩
      · exact i2 q r z hr
    · obtain ⟨p, p1, p2⟩ := j3 q hq
      obtain ⟨t, t1, t2⟩ := i3 p p1
      exact ⟨t, t1, by rw [t2, p2]⟩
theorem nm_ex {A B z : O} : ex (nmO A B) z ↔ ∃ a b, ex A a ∧ ex B b ∧ z = naO a b := by
  obtain ⟨i1, i2, -⟩ := nm_1 (B := pl B) (pl A) []
  constructor
  · intro h
    obtain ⟨p, hp, ep⟩ := ex_mk.mp h
    rcases i1 p hp with ⟨q, r, q1, q2, q3⟩ | ⟨q, q1, -⟩
    · exact ⟨q.1, r.1, ⟨q, q1, rfl⟩, ⟨r, q2, rfl⟩, by rw [← ep, q3]⟩
    · exact absurd q1 List.not_mem_nil
  · rintro ⟨a, b, ⟨q, q1, q2⟩, ⟨r, r1, r2⟩, e⟩
    obtain ⟨p, p1, p2⟩ := i2 q r q1 r1
    exact ex_mk.mpr ⟨p, p1, by rw [p2, q2, r2, e]⟩
theorem GW_nm {A B : O} {F : O → Nat} (gA : hgd A) (gB : hgd B) (gT : hgd (nmO A B)) (a : HW A F) (b : HW B F) : GW (nmO A B) F := by
  by_cases nT : nmO A B = .leaf
  · rw [nT]; exact (HW_leaf F).g
  obtain ⟨a0, b0, x1, x2, -⟩ := nm_ex.mp (ex_la nT)
  have xA := ex_la (ex_nl x1)
  have xB := ex_la (ex_nl x2)
  have lT : la (nmO A B) = naO (la A) (la B) := by
    refine la_min gT (nm_ex.mpr ⟨_, _, xA, xB, rfl⟩) (fun z hz => ?_)
    obtain ⟨c, d, c1, c2, c3⟩ := nm_ex.mp hz
    rw [c3]
    rcases ex_or gA c1 with w | w
    · rw [w]
      rcases ex_or gB c2 with v | v
      · rw [v]; exact Or.inl rfl
      · exact Or.inr (naO_r (hgd_ex gB c2).1.1 v)
    · have h1 := naO_l (c := d) (hgd_ex gA c1).1.1 w
      rcases ex_or gB c2 with v | v
      · rw [v] at h1 ⊢; exact Or.inr h1
      · exact Or.inr (oc_tr _ _ _ h1 (naO_r (hgd_ex gB c2).1.1 v))
  refine GW_4 gT (fun y hy => ?_)
  obtain ⟨a1, a2, a3, -⟩ := a y hy
  obtain ⟨b1, b2, b3, -⟩ := b y hy
  rw [lT]
  refine ⟨fun e f u w s => ?_, fun u => ?_, fun e u w s => ?_⟩
  · obtain ⟨c, d, c1, c2, c3⟩ := nm_ex.mp u
    rw [c3] at w
    rcases na_ex.mp w with w | w
    · exact a1 c f c1 w s
    · exact b1 d f c2 w s
  · rcases na_ex.mp u with w | w
    · exact a2 w
    · exact b2 w
  · obtain ⟨c, d, c1, c2, c3⟩ := nm_ex.mp u
    rw [c3] at w
    rcases na_ex.mp w with w | w
    · exact a3 c c1 w (fun v => s (na_ex.mpr (Or.inl v)))
    · exact b3 d c2 w (fun v => s (na_ex.mpr (Or.inr v)))
