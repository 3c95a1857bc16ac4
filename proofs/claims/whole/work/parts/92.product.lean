/-! ===== layer 4: the live bound: the product ===== -/
theorem ex_or {T z : O} (h : hgd T) (g : ex T z) : z = la T ∨ oc z (la T) = 1 := by
  obtain ⟨A, p, e⟩ := pl_snoc (ex_nl g)
  obtain ⟨q, hq, eq⟩ := g
  rw [la_eq e]
  rw [e] at hq
  rcases List.mem_append.mp hq with w | w
  · rw [← eq]; exact Or.inr (snoc_gt h e q w)
  · rw [← eq, List.mem_singleton.mp w]; exact Or.inl rfl
theorem la_min {T m : O} (h : hgd T) (g : ex T m) (k : ∀ z, ex T z → z = m ∨ oc z m = 1) : la T = m := by
  rcases k _ (ex_la (ex_nl g)) with w | w
  · exact w
  · rcases ex_or h g with v | v
    · exact v.symm
    · have := oc_asym v; omega
theorem ex_mk {L : List OP} {z : O} : ex (mk L) z ↔ ∃ p, p ∈ L ∧ p.1 = z := by
  unfold ex
  rw [pl_mk]
/-- the first exponent -/
def hdx : O → O
  | .leaf => .leaf
  | .inner _ _ _ e _ => e
theorem ex_hd {x : O} (h : ¬ x = .leaf) : ex x (hdx x) := by
  cases x with
  | leaf => exact absurd rfl h
  | inner n k v e r => exact ⟨(e, n), List.mem_cons_self, rfl⟩
theorem hd_mono {b c : O} (hb : ¬ b = .leaf) (hc : ¬ c = .leaf) (h : oc b c = 1) : hdx b = hdx c ∨ oc (hdx b) (hdx c) = 1 := by
  cases b with
  | leaf => exact absurd rfl hb
  | inner n k v e r =>
    cases c with
    | leaf => exact absurd rfl hc
    | inner m k2 v2 f s =>
      rw [oc_ii] at h
      by_cases w : oc e f = 0
      · exact Or.inl (oc_eq _ _ w)
      · rw [if_neg w] at h; exact Or.inr h
theorem abv_mem {f : O} : ∀ {A : List OP} {q : OP}, srt A → q ∈ A → oc q.1 f = 1 → q ∈ A.take (abv f A) := by
  intro A
  induction A with
  | nil => intro q _ h _; exact absurd h List.not_mem_nil
  | cons p A ih =>
    intro q s h g
    unfold abv
    by_cases w : oc p.1 f = 1
    · rw [if_pos w, List.take_succ_cons]
      rcases List.mem_cons.mp h with v | v
      · rw [v]; exact List.mem_cons_self
      · exact List.mem_cons_of_mem _ (ih s.2.2 v g)
    · rcases List.mem_cons.mp h with v | v
      · rw [v] at g; exact absurd g w
      · exact absurd (oc_tr _ _ _ (s.2.1 q v) g) w
theorem add_1 {e b y : O} (hb : ¬ b = .leaf) (h : ex (addO e b) y) : ex b y ∨ (ex e y ∧ oc y (hdx b) = 1) := by
  cases b with
  | leaf => exact absurd rfl hb
  | inner n k v f r =>
    obtain ⟨p, hp, ep⟩ := ex_mk.mp h
    rw [← ep]
    rcases List.mem_append.mp hp with w | w
    · exact Or.inr ⟨⟨p, List.mem_of_mem_take w, rfl⟩, abv_take f _ p w⟩
    · rcases List.mem_cons.mp w with z | z
      · rw [z]; exact Or.inl ⟨(f, n), List.mem_cons_self, rfl⟩
      · exact Or.inl ⟨p, List.mem_cons_of_mem _ z, rfl⟩
theorem add_2 {e b y : O} (h : ex b y) : ex (addO e b) y := by
  cases b with
  | leaf => exact (ex_leaf h).elim
  | inner n k v f r =>
    obtain ⟨p, hp, ep⟩ := h
    rcases List.mem_cons.mp hp with z | z
    · exact ex_mk.mpr ⟨_, List.mem_append.mpr (Or.inr List.mem_cons_self), by rw [← ep, z]⟩
    · exact ex_mk.mpr ⟨p, List.mem_append.mpr (Or.inr (List.mem_cons_of_mem _ z)), ep⟩
theorem add_3 {e b y : O} (he : nf e) (hb : ¬ b = .leaf) (h : ex e y) (g : oc y (hdx b) = 1) : ex (addO e b) y := by
  cases b with
  | leaf => exact absurd rfl hb
  | inner n k v f r =>
    obtain ⟨p, hp, ep⟩ := h
    rw [← ep] at g
    exact ex_mk.mpr ⟨p, List.mem_append.mpr (Or.inl (abv_mem (nf_srt _ he) hp g)), ep⟩
theorem add_gt {e b : O} (hb : nf b) (h : ¬ b = .leaf) : oc (addO e b) e = 1 := by
  have h3 : oc (addO e b) (addO e .leaf) = 1 := addO_mono hb trivial (oc_leaf h)
  rw [addO_leaf] at h3
  exact h3
theorem mem_mul2 {e : O} {n : Nat} {A : List OP} : ∀ {B : List OP} {q : OP}, q ∈ B → (¬ q.1 = .leaf → ∃ p, p ∈ mulL ((e, n) :: A) B ∧ p.1 = addO e q.1) ∧ (q.1 = .leaf → ∀ r, r ∈ (e, n) :: A → ∃ p, p ∈ mulL ((e, n) :: A) B ∧ p.1 = r.1) := by
  intro B
  induction B with
  | nil => intro q h; exact absurd h List.not_mem_nil
  | cons r B ih =>
    intro q h
    obtain ⟨b, m⟩ := r
    cases b with
    | leaf =>
      have e1 : mulL ((e, n) :: A) ((.leaf, m) :: B) = ((e, n * m) :: A) ++ mulL ((e, n) :: A) B := rfl
      rw [e1]
      rcases List.mem_cons.mp h with w | w
      · rw [w]
        refine ⟨fun v => absurd rfl v, fun _ r hr => ?_⟩
        rcases List.mem_cons.mp hr with z | z
        · exact ⟨(e, n * m), List.mem_append.mpr (Or.inl List.mem_cons_self), by rw [z]⟩
        · exact ⟨r, List.mem_append.mpr (Or.inl (List.mem_cons_of_mem _ z)), rfl⟩
      · obtain ⟨i1, i2⟩ := ih w
        refine ⟨fun v => ?_, fun v r hr => ?_⟩
        · obtain ⟨p, p1, p2⟩ := i1 v
          exact ⟨p, List.mem_append.mpr (Or.inr p1), p2⟩
        · obtain ⟨p, p1, p2⟩ := i2 v r hr
          exact ⟨p, List.mem_append.mpr (Or.inr p1), p2⟩
    | inner k u v f s =>
      have e1 : mulL ((e, n) :: A) ((.inner k u v f s, m) :: B) = [(addO e (.inner k u v f s), m)] ++ mulL ((e, n) :: A) B := rfl
      rw [e1]
      rcases List.mem_cons.mp h with w | w
      · rw [w]
        exact ⟨fun _ => ⟨_, List.mem_append.mpr (Or.inl List.mem_cons_self), rfl⟩, fun v => absurd v (fun z => by cases z)⟩
      · obtain ⟨i1, i2⟩ := ih w
        refine ⟨fun v => ?_, fun v r hr => ?_⟩
        · obtain ⟨p, p1, p2⟩ := i1 v
          exact ⟨p, List.mem_append.mpr (Or.inr p1), p2⟩
        · obtain ⟨p, p1, p2⟩ := i2 v r hr
          exact ⟨p, List.mem_append.mpr (Or.inr p1), p2⟩
theorem HW_leaf (F : O → Nat) : HW .leaf F := HW_fin (fun _ he => False.elim he)
/-- the exponents that are not the last, 4 for each -/
theorem GW_4 {T : O} {F : O → Nat} (g : hgd T) (h : ∀ y, ¬ y = .leaf → (∀ e f, ex T e → ex e f → inS f y → 8 ≤ F y) ∧ (ex (la T) y → 8 ≤ F y + dep y) ∧ (∀ e, ex T e → ex e y → ¬ ex (la T) y → 8 ≤ F y)) : GW T F := by
  by_cases w : T = .leaf
  · rw [w]; exact (HW_leaf F).g
  obtain ⟨A, p, e⟩ := pl_snoc w
  refine ⟨gmp (fun _ => 4) A, ?_, fun y hy => ?_⟩
  · have h1 := gmp_le (f := fun _ => 4) (b := 4) (L := A) (fun q _ => Nat.le_refl _)
    have h2 := hgd_len g
    rw [e, List.length_append] at h2
    have : [p].length = 1 := rfl
    omega
  · obtain ⟨a1, a2, a3⟩ := h y hy
    dsimp only
    refine ⟨fun e f u v r => ?_, fun u => ?_, fun e u v r => ?_, fun u v => ?_⟩
    · have := a1 e f u v r; omega
    · have := a2 u; omega
    · have := a3 e u v r; omega
    · obtain ⟨q, hq, eq⟩ := u
      rw [e] at hq
      rw [la_eq e] at v
      rcases List.mem_append.mp hq with z | z
      · have : 4 ≤ gsum (gmp (fun _ => 4) A) y := by
          rw [← eq]; exact gs_mem (gmp_mem (f := fun _ => 4) z)
        omega
      · rw [List.mem_singleton.mp z] at eq; exact absurd eq.symm v
theorem mulO_leaf (B : O) : mulO .leaf B = .leaf := by
  have : ∀ B, mulL [] B = [] := by
    intro B
    induction B with
    | nil => rfl
    | cons r B ih =>
      obtain ⟨b, m⟩ := r
      cases b with
      | leaf => show [] ++ mulL [] B = []; rw [ih]; rfl
      | inner => show [] ++ mulL [] B = []; rw [ih]; rfl
  unfold mulO
  rw [show pl .leaf = [] from rfl, this]
  rfl
theorem GW_mul {A B : O} {F : O → Nat} (gA : hgd A) (gB : hgd B) (gT : hgd (mulO A B)) (a : HW A F) (b : HW B F) : GW (mulO A B) F := by
  cases A with
  | leaf => rw [mulO_leaf]; exact (HW_leaf F).g
  | inner n k v e r =>
  by_cases nB : B = .leaf
  · rw [nB]; show GW .leaf F; exact (HW_leaf F).g
  have nA : ¬ Std.DTreeMap.Internal.Impl.inner n k v e r = .leaf := fun z => by cases z
  generalize hA : Std.DTreeMap.Internal.Impl.inner n k v e r = A at *
  have pA : pl A = (e, n) :: pl r := by rw [← hA]; rfl
  have xe : ex A e := ⟨(e, n), by rw [pA]; exact List.mem_cons_self, rfl⟩
  have ge := hgd_ex gA xe
  have mem : ∀ z, ex (mulO A B) z → (∃ c, ex B c ∧ ¬ c = .leaf ∧ z = addO e c) ∨ (ex A z ∧ ex B .leaf) := by
    intro z hz
    obtain ⟨p, hp, ep⟩ := ex_mk.mp hz
    rw [pA] at hp
    rcases mem_mul hp with ⟨q, q1, q2⟩ | ⟨q, q1, q2, m, q3⟩
    · by_cases w : q.1 = .leaf
      · rw [w, addO_leaf] at q2
        exact Or.inr ⟨by rw [← ep, q2]; exact xe, q, q1, w⟩
      · exact Or.inl ⟨q.1, ⟨q, q1, rfl⟩, w, by rw [← ep, q2]⟩
    · exact Or.inr ⟨⟨q, by rw [pA]; exact List.mem_cons_of_mem _ q1, by rw [← q2]; exact ep⟩, _, q3, rfl⟩
  have mem1 : ∀ c, ex B c → ¬ c = .leaf → ex (mulO A B) (addO e c) := by
    rintro c ⟨q, q1, q2⟩ hc
    rw [← q2] at hc
    obtain ⟨p, p1, p2⟩ := (mem_mul2 (e := e) (n := n) (A := pl r) q1).1 hc
    rw [← pA] at p1
    exact ex_mk.mpr ⟨p, p1, by rw [p2, q2]⟩
  have mem2 : ex B .leaf → ∀ z, ex A z → ex (mulO A B) z := by
    rintro ⟨q, q1, q2⟩ z ⟨s, s1, s2⟩
    rw [pA] at s1
    obtain ⟨p, p1, p2⟩ := (mem_mul2 (e := e) (n := n) (A := pl r) q1).2 q2 s s1
    rw [← pA] at p1
    exact ex_mk.mpr ⟨p, p1, by rw [p2, s2]⟩
  have lB : ex B (la B) := ex_la nB
  refine GW_4 gT (fun y hy => ?_)
  obtain ⟨a1, a2, a3, -⟩ := a y hy
  obtain ⟨b1, b2, b3, -⟩ := b y hy
  have c3 : ∀ e1 f, ex (mulO A B) e1 → ex e1 f → inS f y → 8 ≤ F y := by
    intro e1 f u w s
    rcases mem e1 u with ⟨c, c1, c2, c3⟩ | ⟨c1, -⟩
    · rw [c3] at w
      rcases add_1 c2 w with w | w
      · exact b1 c f c1 w s
      · exact a1 e f xe w.1 s
    · exact a1 e1 f c1 w s
  by_cases fin : la B = .leaf
  · have xl : ex B .leaf := by rw [fin] at lB; exact lB
    have lT : la (mulO A B) = la A := by
      refine la_min gT (mem2 xl _ (ex_la nA)) (fun z hz => ?_)
      rcases mem z hz with ⟨c, c1, c2, c3⟩ | ⟨c1, -⟩
      · have h1 := add_gt (e := e) (hgd_ex gB c1).1.1 c2
        rw [← c3] at h1
        rcases ex_or gA xe with w | w
        · rw [← w]; exact Or.inr h1
        · exact Or.inr (oc_tr _ _ _ h1 w)
      · exact ex_or gA c1
    rw [lT]
    refine ⟨c3, a2, fun e1 u w s => ?_⟩
    rcases mem e1 u with ⟨c, c1, c2, c3⟩ | ⟨c1, -⟩
    · rw [c3] at w
      rcases add_1 c2 w with w | w
      · exact b3 c c1 w (by rw [fin]; exact fun v => ex_leaf v)
      · exact a3 e xe w.1 s
    · exact a3 e1 c1 w s
  · have nl : ¬ ex B .leaf := fun w => by
      rcases ex_or gB w with z | z
      · exact fin z.symm
      · exact oc_lmax z
    have lT : la (mulO A B) = addO e (la B) := by
      refine la_min gT (mem1 _ lB fin) (fun z hz => ?_)
      rcases mem z hz with ⟨c, c1, c2, c3⟩ | ⟨-, c1⟩
      · rw [c3]
        rcases ex_or gB c1 with w | w
        · rw [w]; exact Or.inl rfl
        · exact Or.inr (addO_mono (hgd_ex gB c1).1.1 (hgd_ex gB lB).1.1 w)
      · exact absurd c1 nl
    rw [lT]
    refine ⟨c3, fun u => ?_, fun e1 u w s => ?_⟩
    · rcases add_1 fin u with w | w
      · exact b2 w
      · by_cases z : ex (la A) y
        · exact a2 z
        · have := a3 e xe w.1 z; omega
    · rcases mem e1 u with ⟨c, c1, c2, c3⟩ | ⟨-, c1⟩
      · have nb : ¬ ex (la B) y := fun z => s (add_2 z)
        rw [c3] at w
        have first : ex c y → 8 ≤ F y := fun w => b3 c c1 w nb
        rcases add_1 c2 w with w | ⟨w1, w2⟩
        · exact first w
        · rcases ex_or gB c1 with z | z
          · rw [z] at w2; exact absurd (add_3 ge.1.1 fin w1 w2) s
          · rcases hd_mono c2 fin z with z | z
            · rw [z] at w2; exact absurd (add_3 ge.1.1 fin w1 w2) s
            · exact absurd (add_3 ge.1.1 fin w1 (oc_tr _ _ _ w2 z)) s
      · exact absurd c1 nl
