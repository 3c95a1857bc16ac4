/-! ===== layer 3: what the law of p28 looks at ===== -/
theorem csg_sw (x z : Int) : csg z x = - csg x z := by
  unfold csg
  by_cases a : x < z
  · rw [if_pos a, if_neg (by omega), if_neg (by omega)]; rfl
  · by_cases b : x = z
    · rw [if_neg a, if_pos b, if_neg (by omega), if_pos (by omega)]; rfl
    · rw [if_neg a, if_neg b, if_pos (by omega)]
theorem csg_lt {x z : Int} (h : x < z) : csg x z = -1 := if_pos h
theorem csg_gt {x z : Int} (h : z < x) : csg x z = 1 := by
  unfold csg
  rw [if_neg (by omega), if_neg (by omega)]
theorem csg_eq (x : Int) : csg x x = 0 := by
  unfold csg
  rw [if_neg (by omega), if_pos rfl]
theorem csg_z {x z : Int} (h : csg x z = 0) : x = z := by
  rcases Int.lt_trichotomy x z with a | a | a
  · rw [csg_lt a] at h; omega
  · exact a
  · rw [csg_gt a] at h; omega
theorem csg_v (x z : Int) : -1 ≤ csg x z ∧ csg x z ≤ 1 := by
  rcases Int.lt_trichotomy x z with a | a | a
  · rw [csg_lt a]; omega
  · subst a; rw [csg_eq]; omega
  · rw [csg_gt a]; omega
theorem gcp_sw : ∀ A B : GL, gcp B A = - gcp A B := by
  intro A
  induction A with
  | nil =>
    intro B
    cases B with
    | nil => rfl
    | cons q B => exact csg_sw 0 q.2
  | cons p A ih =>
    intro B
    cases B with
    | nil => exact csg_sw p.2 0
    | cons q B =>
      show (if gck p.1 < gck q.1 then csg q.2 0 else if gck q.1 < gck p.1 then csg 0 p.2 else if q.2 = p.2 then gcp B A else csg q.2 p.2) = -(if gck q.1 < gck p.1 then csg p.2 0 else if gck p.1 < gck q.1 then csg 0 q.2 else if p.2 = q.2 then gcp A B else csg p.2 q.2)
      by_cases a : gck p.1 < gck q.1
      · rw [if_pos a, if_neg (by omega), if_pos a]; exact csg_sw _ _
      · by_cases b : gck q.1 < gck p.1
        · rw [if_neg a, if_pos b, if_pos b]; exact csg_sw _ _
        · rw [if_neg a, if_neg b, if_neg b, if_neg a]
          by_cases e : p.2 = q.2
          · rw [if_pos e.symm, if_pos e]; exact ih B
          · rw [if_neg (fun z => e z.symm), if_neg e]; exact csg_sw _ _
theorem gcp_v : ∀ A B : GL, -1 ≤ gcp A B ∧ gcp A B ≤ 1 := by
  intro A
  induction A with
  | nil =>
    intro B
    cases B with
    | nil => show -1 ≤ (0 : Int) ∧ (0 : Int) ≤ 1; omega
    | cons q B => exact csg_v 0 q.2
  | cons p A ih =>
    intro B
    cases B with
    | nil => exact csg_v p.2 0
    | cons q B =>
      show -1 ≤ (if gck q.1 < gck p.1 then csg p.2 0 else if gck p.1 < gck q.1 then csg 0 q.2 else if p.2 = q.2 then gcp A B else csg p.2 q.2) ∧ (if gck q.1 < gck p.1 then csg p.2 0 else if gck p.1 < gck q.1 then csg 0 q.2 else if p.2 = q.2 then gcp A B else csg p.2 q.2) ≤ 1
      have h1 := csg_v p.2 0
      have h2 := csg_v 0 q.2
      have h3 := csg_v p.2 q.2
      have h4 := ih B
      repeat' split
      all_goals assumption
theorem gcp_self (A : GL) : gcp A A = 0 := by
  have := gcp_sw A A
  omega
/-- the figure by which the law holds a growth's parts in their order -/
def gpw (e : GE) : Int := 1000 * (1000 * (1000 * (1000 * 0 + e.1 + 500) + e.2.1 + 500) + e.2.2.1 + 500) + e.2.2.2 + 500
theorem gpw_lt {p q : GE} (hp : e99 p) (hq : e99 q) (h : gck p < gck q) : gpw p < gpw q := by
  obtain ⟨⟨a1, a2⟩, ⟨a3, a4⟩, ⟨a5, a6⟩, a7, a8⟩ := hp
  obtain ⟨⟨b1, b2⟩, ⟨b3, b4⟩, ⟨b5, b6⟩, b7, b8⟩ := hq
  unfold gck at h
  unfold gpw
  by_cases c1 : p.1 < q.1
  · omega
  · have e1 : p.1 = q.1 := by omega
    by_cases c2 : p.2.1 < q.2.1
    · omega
    · have e2 : p.2.1 = q.2.1 := by omega
      by_cases c3 : p.2.2.1 < q.2.2.1
      · omega
      · have e3 : p.2.2.1 = q.2.2.1 := by omega
        omega
/-! ===== natural sums are not below ===== -/
theorem ocL_self (A : List OP) : ocL A A = 0 := by
  have h := oc_self (mk A)
  rw [ocL_pl, pl_mk] at h
  exact h
theorem na_ge_l {A B : List OP} (h : srt B) : 0 ≤ ocL (naL A B) A := by
  cases B with
  | nil => show 0 ≤ ocL A A; rw [ocL_self]; omega
  | cons p B =>
    obtain ⟨f, m⟩ := p
    have := add_gt_self (A := A) (B := naL (rst f (A.drop (abv f A))) B) (f := f) (m := m) h.1
    show 0 ≤ ocL (A.take (abv f A) ++ (f, m + smt f (A.drop (abv f A))) :: naL (rst f (A.drop (abv f A))) B) A
    omega
theorem na_ge_r : ∀ (B A : List OP), 0 ≤ ocL (naL A B) B := by
  intro B
  induction B with
  | nil =>
    intro A
    show 0 ≤ ocL A []
    cases A with
    | nil => show (0 : Int) ≤ 0; omega
    | cons p A => show (0 : Int) ≤ 1; omega
  | cons q B ih =>
    intro A
    obtain ⟨f, m⟩ := q
    show 0 ≤ ocL (A.take (abv f A) ++ (f, m + smt f (A.drop (abv f A))) :: naL (rst f (A.drop (abv f A))) B) ((f, m) :: B)
    have key : ∀ (s : Nat) (C : List OP), 0 ≤ ocL ((f, m + s) :: naL C B) ((f, m) :: B) := by
      intro s C
      rcases Nat.eq_zero_or_pos s with z | z
      · subst z
        rw [Nat.add_zero, ocL_eq]
        exact ih C
      · rw [ocL_tm (by omega)]; omega
    cases A with
    | nil => exact key _ _
    | cons p A =>
      by_cases h : oc p.1 f = 1
      · have e : abv f (p :: A) = abv f A + 1 := if_pos h
        rw [e]
        show 0 ≤ ocL (p :: (A.take (abv f A) ++ _)) _
        obtain ⟨e2, n2⟩ := p
        rw [ocL_hd h]; omega
      · have e : abv f (p :: A) = 0 := if_neg h
        rw [e]
        exact key _ _
theorem naO_ge {x y : O} (hy : nf y) : 0 ≤ oc (naO x y) x ∧ 0 ≤ oc (naO x y) y := by
  rw [ocL_pl, ocL_pl, naO, pl_mk]
  exact ⟨na_ge_l (nf_srt _ hy), na_ge_r _ _⟩
/-! ===== powers in their order ===== -/
theorem srt_at : ∀ {L : List OP} {k : Nat} {p q : OP}, srt L → L[k]? = some p → L[k + 1]? = some q → oc p.1 q.1 = 1 := by
  intro L
  induction L with
  | nil => intro k p q _ h; cases h
  | cons r L ih =>
    intro k p q h h1 h2
    cases k with
    | zero =>
      cases h1
      exact h.2.1 q (List.mem_of_getElem? (i := 0) h2)
    | succ k => exact ih h.2.2 h1 h2
theorem srt_1 : ∀ {L : List OP} {p : OP}, srt L → p ∈ L → 1 ≤ p.2 := by
  intro L
  induction L with
  | nil => intro p _ h; cases h
  | cons r L ih =>
    intro p h hp
    rcases List.mem_cons.mp hp with e | e
    · subst e; exact h.1
    · exact ih h.2.2 e
theorem gs_at : ∀ {L : GL} {k : Nat} {p q : GE × Int}, gs L → L[k]? = some p → L[k + 1]? = some q → gck q.1 < gck p.1 := by
  intro L
  induction L with
  | nil => intro k p q _ h; cases h
  | cons r L ih =>
    intro k p q h h1 h2
    cases k with
    | zero =>
      cases h1
      exact h.1 q (List.mem_of_getElem? (i := 0) h2)
    | succ k => exact ih h.2 h1 h2
/-! ===== descents ===== -/
theorem dsF_z (n f s : Nat) : dsF n f s .leaf = some (.leaf, s) := by
  cases f with
  | zero => rfl
  | succ f => rw [dsF, ouif_t rfl]
theorem dsF_le {n : Nat} : ∀ (f s : Nat) (x z : O) (t : Nat), dsF n f s x = some (z, t) → s ≤ t ∧ t ≤ s + f := by
  intro f
  induction f with
  | zero => intro s x z t h; cases h; omega
  | succ f ih =>
    intro s x z t h
    by_cases a : x = .leaf
    · rw [dsF, ouif_t a] at h; cases h; omega
    · by_cases b : stpok (n + s) 5 x
      · rw [dsF, ouif_f a, ouif_t b] at h
        have := ih _ _ _ _ h
        omega
      · rw [dsF, ouif_f a, ouif_f b] at h; cases h
theorem dsF_v {n : Nat} : ∀ (f s : Nat) (x : O) (k : Nat), dsF n f s x = some (.leaf, s + k) → (∀ g, k ≤ g → dsF n g s x = some (.leaf, s + k)) ∧ ∀ g, g < k → ∃ z, ¬ z = .leaf ∧ dsF n g s x = some (z, s + g) := by
  intro f
  induction f with
  | zero =>
    intro s x k h
    have h2 : some (x, s) = some ((.leaf : O), s + k) := h
    have hx : x = .leaf := congrArg (fun o : Option (O × Nat) => (o.getD (.leaf, 0)).1) h2
    have hk : k = 0 := by
      have := congrArg (fun o : Option (O × Nat) => (o.getD (.leaf, 0)).2) h2
      have : s = s + k := this
      omega
    subst hx hk
    exact ⟨fun g _ => dsF_z n g s, fun g hg => absurd hg (by omega)⟩
  | succ f ih =>
    intro s x k h
    by_cases a : x = .leaf
    · rw [dsF, ouif_t a] at h
      have hk : k = 0 := by
        have := congrArg (fun o : Option (O × Nat) => (o.getD (.leaf, 0)).2) h
        have : s = s + k := this
        omega
      subst a hk
      exact ⟨fun g _ => dsF_z n g s, fun g hg => absurd hg (by omega)⟩
    · by_cases b : stpok (n + s) 5 x
      · rw [dsF, ouif_f a, ouif_t b] at h
        obtain ⟨k, rfl⟩ : ∃ q, k = q + 1 := ⟨k - 1, by have := dsF_le _ _ _ _ _ h; omega⟩
        have e : s + (k + 1) = s + 1 + k := by omega
        rw [e] at h ⊢
        obtain ⟨i1, i2⟩ := ih _ _ _ h
        refine ⟨fun g hg => ?_, fun g hg => ?_⟩
        · obtain ⟨g, rfl⟩ : ∃ q, g = q + 1 := ⟨g - 1, by omega⟩
          rw [dsF, ouif_f a, ouif_t b]
          exact i1 g (by omega)
        · cases g with
          | zero => exact ⟨x, a, rfl⟩
          | succ g =>
            rw [dsF, ouif_f a, ouif_t b]
            obtain ⟨z, z1, z2⟩ := i2 g (by omega)
            exact ⟨z, z1, by rw [z2, show s + 1 + g = s + (g + 1) by omega]⟩
      · rw [dsF, ouif_f a, ouif_f b] at h; cases h
/-- what a descent tells, with 40 steps at most -/
theorem ds_law {n : Nat} {x : O} (h : ¬ dsF n 40 0 x = none) : (-1 ≤ dsV (dsF n 40 0 x) ∧ dsV (dsF n 40 0 x) ≤ 40) ∧ (dsV (dsF n 40 0 x) = 0 → x = .leaf) ∧
    ∀ t : Nat, 1 ≤ t → dsV (dsF n 40 0 x) = t → (¬ dsF n t 0 x = none ∧ dsV (dsF n t 0 x) = t) ∧ ¬ dsF n (t - 1) 0 x = none ∧ dsV (dsF n (t - 1) 0 x) = -1 := by
  cases e : dsF n 40 0 x with
  | none => exact absurd e h
  | some r =>
    obtain ⟨z, s⟩ := r
    have hs := dsF_le _ _ _ _ _ e
    by_cases hz : z = .leaf
    · subst hz
      have hv : dsV (some ((.leaf : O), s)) = s := ouif_t rfl
      rw [hv]
      obtain ⟨v1, v2⟩ := dsF_v 40 0 x s (by rw [Nat.zero_add]; exact e)
      rw [Nat.zero_add] at v1
      refine ⟨by omega, fun w => ?_, fun t ht et => ?_⟩
      · have hs0 : s = 0 := by omega
        have := v1 0 (by omega)
        rw [hs0] at this
        have h2 : some (x, 0) = some ((.leaf : O), 0) := this
        cases h2; rfl
      · have ht2 : s = t := by omega
        subst ht2
        refine ⟨⟨by rw [v1 _ (Nat.le_refl _)]; exact fun w => (by cases w), by rw [v1 _ (Nat.le_refl _)]; exact hv⟩, ?_⟩
        obtain ⟨z, z1, z2⟩ := v2 (s - 1) (by omega)
        rw [z2]
        exact ⟨fun w => (by cases w), ouif_f z1⟩
    · have hv : dsV (some (z, s)) = -1 := ouif_f hz
      rw [hv]
      exact ⟨by omega, fun w => absurd w (by decide), fun t ht et => absurd et (by omega)⟩
/-! ===== numbers: their signs, and the simplest between ===== -/
theorem born_law {t : Int} (ht : fitN t) : ∃ B : Nat, (tw 300 t (wA 0)).2.2.2 = B ∧ B ≤ 276 ∧ (tw B t (wA 0)).1 = t ∧ (B = 0 → t = 0) ∧ (¬ B = 0 → ¬ t = 0 ∧ ¬ (tw (B - 1) t (wA 0)).1 = t) := by
  have hr : -268435456 ≤ t ∧ t ≤ 268435456 := ht
  have h0 := tQ_0 t
  have hup := tw_up hr 300 276 (wA 0) h0
  have e1 : (tw 300 t (wA 0)).1 = t := (tw_st hr 276 (wA 0) h0 300 (by omega)).1
  have z0 : (wA 0).2.2.2 = 0 := rfl
  have b1 : ∀ k, (tw k t (wA 0)).1 = t → (tw 300 t (wA 0)).2.2.2 ≤ k := fun k hk => by
    have := (tw_sg hr k 276 300 (wA 0) 0 h0 (by omega)).1 hk
    omega
  have b2 : ∀ k, ¬ (tw k t (wA 0)).1 = t → k < (tw 300 t (wA 0)).2.2.2 := fun k hk => by
    have := ((tw_sg hr k 276 300 (wA 0) 0 h0 (by omega)).2 hk).1
    omega
  refine ⟨_, rfl, hup.2, Classical.byContradiction (fun z => ?_), fun z => ?_, fun z => ⟨fun w => ?_, fun w => ?_⟩⟩
  · have := b2 _ z; omega
  · refine Classical.byContradiction (fun w => ?_)
    have := b2 0 (fun q => w q.symm)
    omega
  · have := b1 0 w.symm
    omega
  · have := b1 _ w; omega
theorem fnw_in {l u : Int} (hb : bLU l u) : ∀ (F f : Nat) (w w2 : WS), bQ f l u w → f ≤ F → fnw l u F w = some w2 → l < w2.1 ∧ w2.1 < u := by
  intro F
  induction F with
  | zero =>
    intro f w w2 h hf e
    by_cases hn : w.1 ≤ l ∨ u ≤ w.1
    · obtain ⟨f2, e2, _⟩ := bQ_s hb h hn
      omega
    · have e2 : some w = some w2 := e
      cases e2
      omega
  | succ F ih =>
    intro f w w2 h hf e
    have e2 : (if w.1 ≤ l ∨ u ≤ w.1 then (match wgo (decide (w.1 ≤ l)) w with
      | some w2 => fnw l u F w2
      | none => none) else some w) = some w2 := e
    by_cases hn : w.1 ≤ l ∨ u ≤ w.1
    · rw [if_pos hn] at e2
      obtain ⟨f2, e3, g⟩ := bQ_s hb h hn
      rcases g with g | ⟨w3, g1, g2, _⟩
      · rw [g] at e2; cases e2
      · rw [g1] at e2
        exact ih f2 w3 w2 g2 (by omega) e2
    · rw [if_neg hn] at e2
      cases e2
      omega
theorem wgo_c {up : Bool} {w w2 : WS} (h : wgo up w = some w2) : w2.2.2.2 = w.2.2.2 + 1 := by
  cases up with
  | true =>
    rw [wgo_t] at h
    split at h
    · cases h; rfl
    · split at h
      · cases h; rfl
      · cases h
  | false =>
    rw [wgo_f] at h
    split at h
    · cases h; rfl
    · split at h
      · cases h; rfl
      · cases h
theorem fnw_s {l u : Int} {F : Nat} {w w2 : WS} (hn : w.1 ≤ l ∨ u ≤ w.1) (e : fnw l u (F + 1) w = some w2) : ∃ w3, wgo (decide (w.1 ≤ l)) w = some w3 ∧ fnw l u F w3 = some w2 := by
  have e2 : (if w.1 ≤ l ∨ u ≤ w.1 then (match wgo (decide (w.1 ≤ l)) w with
    | some w2 => fnw l u F w2
    | none => none) else some w) = some w2 := e
  rw [if_pos hn] at e2
  cases g : wgo (decide (w.1 ≤ l)) w with
  | none => rw [g] at e2; cases e2
  | some w3 => rw [g] at e2; exact ⟨w3, rfl, e2⟩
theorem fnw_n {l u : Int} {F : Nat} {w w2 : WS} (hn : ¬ (w.1 ≤ l ∨ u ≤ w.1)) (e : fnw l u F w = some w2) : w2 = w := by
  cases F with
  | zero =>
    have e2 : some w = some w2 := e
    cases e2; rfl
  | succ F =>
    have e2 : (if w.1 ≤ l ∨ u ≤ w.1 then (match wgo (decide (w.1 ≤ l)) w with
      | some w2 => fnw l u F w2
      | none => none) else some w) = some w2 := e
    rw [if_neg hn] at e2
    cases e2; rfl
theorem fnw_c {l u : Int} : ∀ (F : Nat) (w w2 : WS), fnw l u F w = some w2 → w.2.2.2 ≤ w2.2.2.2 := by
  intro F
  induction F with
  | zero => intro w w2 e; have e2 : some w = some w2 := e; cases e2; exact Nat.le_refl _
  | succ F ih =>
    intro w w2 e
    by_cases hn : w.1 ≤ l ∨ u ≤ w.1
    · obtain ⟨w3, g1, g2⟩ := fnw_s hn e
      have := ih _ _ g2
      have := wgo_c g1
      omega
    · rw [fnw_n hn e]; exact Nat.le_refl _
/-- the way between two is the way to what lies there -/
theorem fnw_tw {l u : Int} (hl : l < u) : ∀ (F : Nat) (w w2 : WS), fnw l u F w = some w2 → l < w2.1 → w2.1 < u → tw F w2.1 w = w2 := by
  intro F
  induction F with
  | zero => intro w w2 e _ _; have e2 : some w = some w2 := e; cases e2; rfl
  | succ F ih =>
    intro w w2 e h1 h2
    by_cases hn : w.1 ≤ l ∨ u ≤ w.1
    · obtain ⟨w3, g1, g2⟩ := fnw_s hn e
      have hd : decide (w.1 < w2.1) = decide (w.1 ≤ l) := by
        by_cases z : w.1 ≤ l
        · rw [decide_eq_true z, decide_eq_true (by omega)]
        · rw [decide_eq_false z, decide_eq_false (by omega)]
      rw [tw_n (by omega) (hd ▸ g1)]
      exact ih _ _ g2 h1 h2
    · have := fnw_n hn e
      subst this
      exact tw_e rfl
/-- above the simplest one between there is only a later one -/
theorem fnw_later {l u : Int} : ∀ (F : Nat) (w w2 w5 : WS), fnw l u F w = some w2 → l < w2.1 → w2.1 < u → fnw w2.1 u F w = some w5 → w2.1 < w5.1 → w2.2.2.2 < w5.2.2.2 := by
  intro F
  induction F with
  | zero =>
    intro w w2 w5 e _ _ e5 h5
    have e2 : some w = some w2 := e
    have e6 : some w = some w5 := e5
    cases e2
    cases e6
    omega
  | succ F ih =>
    intro w w2 w5 e h1 h2 e5 h5
    by_cases hn : w.1 ≤ l ∨ u ≤ w.1
    · obtain ⟨w3, g1, g2⟩ := fnw_s hn e
      have hn2 : w.1 ≤ w2.1 ∨ u ≤ w.1 := by omega
      obtain ⟨w6, g3, g4⟩ := fnw_s hn2 e5
      have hd : decide (w.1 ≤ w2.1) = decide (w.1 ≤ l) := by
        by_cases z : w.1 ≤ l
        · rw [decide_eq_true z, decide_eq_true (by omega)]
        · rw [decide_eq_false z, decide_eq_false (by omega)]
      rw [hd, g1] at g3
      cases g3
      exact ih _ _ _ g2 h1 h2 g4 h5
    · have := fnw_n hn e
      subst this
      obtain ⟨w6, g3, g4⟩ := fnw_s (l := w2.1) (u := u) (Or.inl (Int.le_refl _)) e5
      have := wgo_c g3
      have := fnw_c _ _ _ g4
      omega
/-- what the masks of one place, and of one and 9, ask for -/
theorem gof_1 {S : XS} {b : Int32} {a : Nat} (hb : ∀ i, i < 16 → (btI b i = true ↔ i = a)) : ∀ k, k ≤ 16 → gof S b k = if a < k then max (-1099511627776) (S.2.2.1 a) else -1099511627776 := by
  intro k
  induction k with
  | zero => intro _; rw [if_neg (by omega)]; rfl
  | succ k ih =>
    intro hk
    show (if btI b k = true then max (gof S b k) (S.2.2.1 k) else gof S b k) = _
    rw [ih (by omega)]
    by_cases z : k = a
    · rw [if_pos ((hb k (by omega)).mpr z), if_neg (by omega), if_pos (by omega), z]
    · rw [if_neg (fun w => z ((hb k (by omega)).mp w))]
      by_cases q : a < k
      · rw [if_pos q, if_pos (by omega)]
      · rw [if_neg q, if_neg (by omega)]
theorem lof_1 {S : XS} {b : Int32} {a : Nat} (hb : ∀ i, i < 16 → (btI b i = true ↔ i = a)) : ∀ k, k ≤ 16 → lof S b k = if a < k then min 1099511627776 (S.2.2.1 a) else 1099511627776 := by
  intro k
  induction k with
  | zero => intro _; rw [if_neg (by omega)]; rfl
  | succ k ih =>
    intro hk
    show (if btI b k = true then min (lof S b k) (S.2.2.1 k) else lof S b k) = _
    rw [ih (by omega)]
    by_cases z : k = a
    · rw [if_pos ((hb k (by omega)).mpr z), if_neg (by omega), if_pos (by omega), z]
    · rw [if_neg (fun w => z ((hb k (by omega)).mp w))]
      by_cases q : a < k
      · rw [if_pos q, if_pos (by omega)]
      · rw [if_neg q, if_neg (by omega)]
theorem gof_2 {S : XS} {b : Int32} {a : Nat} (ha : a < 9) (hb : ∀ i, i < 16 → (btI b i = true ↔ i = a ∨ i = 9)) : ∀ k, k ≤ 16 → gof S b k = if 9 < k then max (max (-1099511627776) (S.2.2.1 a)) (S.2.2.1 9) else if a < k then max (-1099511627776) (S.2.2.1 a) else -1099511627776 := by
  intro k
  induction k with
  | zero => intro _; rw [if_neg (by omega), if_neg (by omega)]; rfl
  | succ k ih =>
    intro hk
    show (if btI b k = true then max (gof S b k) (S.2.2.1 k) else gof S b k) = _
    rw [ih (by omega)]
    by_cases z : k = a
    · rw [if_pos ((hb k (by omega)).mpr (Or.inl z)), if_neg (by omega), if_neg (by omega), if_neg (by omega), if_pos (by omega), z]
    · by_cases z9 : k = 9
      · rw [if_pos ((hb k (by omega)).mpr (Or.inr z9)), if_neg (by omega), if_pos (by omega), if_pos (by omega), z9]
      · rw [if_neg (fun w => ((hb k (by omega)).mp w).elim z z9)]
        by_cases q9 : 9 < k
        · rw [if_pos q9, if_pos (by omega)]
        · rw [if_neg q9, if_neg (by omega : ¬ 9 < k + 1)]
          by_cases q : a < k
          · rw [if_pos q, if_pos (by omega)]
          · rw [if_neg q, if_neg (by omega)]
