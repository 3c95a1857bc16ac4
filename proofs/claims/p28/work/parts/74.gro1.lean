/-! ===== layer 3: growths as lists of parts ===== -/
def gE (e : GE) : Prop := (-200 ≤ e.1 ∧ e.1 ≤ 200) ∧ (-200 ≤ e.2.1 ∧ e.2.1 ≤ 200) ∧ (-200 ≤ e.2.2.1 ∧ e.2.2.1 ≤ 200) ∧ (-200 ≤ e.2.2.2 ∧ e.2.2.2 ≤ 200)
theorem g_cmp {e f : GE} (he : gE e) (hf : gE f) : (gck e < gck f ∧ gmk e < gmk f ∧ ¬ e = f) ∨ (e = f) ∨ (gck f < gck e ∧ gmk f < gmk e ∧ ¬ e = f) := by
  obtain ⟨a, b, c, d⟩ := e
  obtain ⟨a2, b2, c2, d2⟩ := f
  obtain ⟨h1, h2, h3, h4⟩ := he
  obtain ⟨k1, k2, k3, k4⟩ := hf
  dsimp only at h1 h2 h3 h4 k1 k2 k3 k4
  unfold gck gmk
  dsimp only
  have ne : ∀ (P : Prop), (P → ¬ (a = a2 ∧ b = b2 ∧ c = c2 ∧ d = d2)) → P → ¬ ((a, b, c, d) : GE) = (a2, b2, c2, d2) := by
    intro P h p w
    injection w with w1 w
    injection w with w2 w
    injection w with w3 w4
    exact h p ⟨w1, w2, w3, w4⟩
  by_cases q1 : a < a2
  · exact Or.inl ⟨by omega, by omega, ne _ (fun _ => by omega) q1⟩
  · by_cases q2 : a2 < a
    · exact Or.inr (Or.inr ⟨by omega, by omega, ne _ (fun _ => by omega) q2⟩)
    · have ea : a = a2 := by omega
      subst ea
      by_cases q1 : b < b2
      · exact Or.inl ⟨by omega, by omega, ne _ (fun _ => by omega) q1⟩
      · by_cases q2 : b2 < b
        · exact Or.inr (Or.inr ⟨by omega, by omega, ne _ (fun _ => by omega) q2⟩)
        · have eb : b = b2 := by omega
          subst eb
          by_cases q1 : c < c2
          · exact Or.inl ⟨by omega, by omega, ne _ (fun _ => by omega) q1⟩
          · by_cases q2 : c2 < c
            · exact Or.inr (Or.inr ⟨by omega, by omega, ne _ (fun _ => by omega) q2⟩)
            · have ec : c = c2 := by omega
              subst ec
              by_cases q1 : d < d2
              · exact Or.inl ⟨by omega, by omega, ne _ (fun _ => by omega) q1⟩
              · by_cases q2 : d2 < d
                · exact Or.inr (Or.inr ⟨by omega, by omega, ne _ (fun _ => by omega) q2⟩)
                · have ed : d = d2 := by omega
                  subst ed
                  exact Or.inr (Or.inl rfl)
theorem gck_lt {e f : GE} (he : gE e) (hf : gE f) : gck e < gck f ↔ gmk e < gmk f := by
  rcases g_cmp he hf with ⟨a, b, c⟩ | a | ⟨a, b, c⟩
  · exact ⟨fun _ => b, fun _ => a⟩
  · subst a; exact ⟨fun h => absurd h (by omega), fun h => absurd h (by omega)⟩
  · exact ⟨fun h => absurd h (by omega), fun h => absurd h (by omega)⟩
theorem gck_eq {e f : GE} (he : gE e) (hf : gE f) : gck e = gck f ↔ e = f := by
  rcases g_cmp he hf with ⟨a, b, c⟩ | a | ⟨a, b, c⟩
  · exact ⟨fun h => absurd h (by omega), fun h => absurd h c⟩
  · exact ⟨fun _ => a, fun h => by rw [h]⟩
  · exact ⟨fun h => absurd h (by omega), fun h => absurd h c⟩
theorem gmk_eq {e f : GE} (he : gE e) (hf : gE f) : gmk e = gmk f ↔ e = f := by
  rcases g_cmp he hf with ⟨a, b, c⟩ | a | ⟨a, b, c⟩
  · exact ⟨fun h => absurd h (by omega), fun h => absurd h c⟩
  · exact ⟨fun _ => a, fun h => by rw [h]⟩
  · exact ⟨fun h => absurd h (by omega), fun h => absurd h c⟩
theorem gck_b {e : GE} (he : gE e) : 0 < gck e ∧ gck e < 1099511627776 := by
  obtain ⟨a, b, c, d⟩ := e
  obtain ⟨h1, h2, h3, h4⟩ := he
  dsimp only at h1 h2 h3 h4
  unfold gck
  dsimp only
  omega
theorem gmk_b {e : GE} (he : gE e) : 0 ≤ gmk e ∧ gmk e ≤ 25856961600 := by
  obtain ⟨a, b, c, d⟩ := e
  obtain ⟨h1, h2, h3, h4⟩ := he
  dsimp only at h1 h2 h3 h4
  unfold gmk
  dsimp only
  omega
/-- falling keys -/
def gs : GL → Prop
  | [] => True
  | p :: L => (∀ q ∈ L, gck q.1 < gck p.1) ∧ gs L
def gD (L : GL) : Prop := ∀ p ∈ L, gE p.1
def gNZ (L : GL) : Prop := ∀ p ∈ L, ¬ p.2 = 0
def gB (b : Int) (L : GL) : Prop := ∀ p ∈ L, -b ≤ p.2 ∧ p.2 ≤ b
/-- the times of a product of powers -/
def gco : GL → GE → Int
  | [], _ => 0
  | p :: L, e => (if p.1 = e then p.2 else 0) + gco L e
theorem gco_z {e : GE} : ∀ {L : GL}, (∀ p ∈ L, ¬ p.1 = e) → gco L e = 0 := by
  intro L
  induction L with
  | nil => intro _; rfl
  | cons p L ih =>
    intro h
    show (if p.1 = e then p.2 else 0) + gco L e = 0
    rw [if_neg (h p List.mem_cons_self), ih (fun q hq => h q (List.mem_cons_of_mem _ hq))]
    rfl
theorem gco_hd {p : GE × Int} {L : GL} (h : gs (p :: L)) : gco (p :: L) p.1 = p.2 := by
  show (if p.1 = p.1 then p.2 else 0) + gco L p.1 = p.2
  rw [if_pos rfl, gco_z (fun q hq w => by have := h.1 q hq; rw [w] at this; omega)]
  omega
theorem gco_gt {e : GE} {p : GE × Int} {L : GL} (h : gs (p :: L)) (g : gck p.1 < gck e) : gco (p :: L) e = 0 := by
  refine gco_z (fun q hq w => ?_)
  rcases List.mem_cons.mp hq with z | z
  · rw [z] at w; rw [w] at g; omega
  · have := h.1 q z
    rw [w] at this
    omega
/-- one list alone has these times -/
theorem gco_u : ∀ {L M : GL}, gs L → gs M → gD L → gD M → gNZ L → gNZ M → (∀ e, gco L e = gco M e) → L = M := by
  intro L
  induction L with
  | nil =>
    intro M _ s2 _ _ _ n2 h
    cases M with
    | nil => rfl
    | cons q M =>
      have := h q.1
      rw [gco_hd s2] at this
      exact absurd this.symm (n2 q List.mem_cons_self)
  | cons p L ih =>
    intro M s1 s2 d1 d2 n1 n2 h
    cases M with
    | nil =>
      have := h p.1
      rw [gco_hd s1] at this
      exact absurd this (n1 p List.mem_cons_self)
    | cons q M =>
      rcases g_cmp (d1 p List.mem_cons_self) (d2 q List.mem_cons_self) with ⟨a, -, -⟩ | a | ⟨a, -, -⟩
      · have := h q.1
        rw [gco_hd s2, gco_gt s1 a] at this
        exact absurd this.symm (n2 q List.mem_cons_self)
      · have e1 := h p.1
        rw [gco_hd s1, a, gco_hd s2] at e1
        have e2 : p = q := by
          obtain ⟨p1, p2⟩ := p
          obtain ⟨q1, q2⟩ := q
          dsimp only at a e1
          rw [a, e1]
        rw [e2] at h ⊢
        rw [ih s1.2 s2.2 (fun r hr => d1 r (List.mem_cons_of_mem _ hr)) (fun r hr => d2 r (List.mem_cons_of_mem _ hr)) (fun r hr => n1 r (List.mem_cons_of_mem _ hr)) (fun r hr => n2 r (List.mem_cons_of_mem _ hr)) (fun e => by
          have h9 : (if q.1 = e then q.2 else 0) + gco L e = (if q.1 = e then q.2 else 0) + gco M e := h e
          omega)]
      · have := h p.1
        rw [gco_hd s1, gco_gt s2 a] at this
        exact absurd this (n1 p List.mem_cons_self)
/-- a part joined -/
def gin (e : GE) (n : Int) : GL → GL
  | [] => [(e, n)]
  | p :: L => if gck e < gck p.1 then p :: gin e n L else if p.1 = e then (e, p.2 + n) :: L else (e, n) :: p :: L
theorem gin_c (e : GE) (n : Int) (p : GE × Int) (L : GL) : gin e n (p :: L) = if gck e < gck p.1 then p :: gin e n L else if p.1 = e then (e, p.2 + n) :: L else (e, n) :: p :: L := rfl
theorem gco_gin (e : GE) (n : Int) (f : GE) : ∀ L, gco (gin e n L) f = gco L f + (if e = f then n else 0) := by
  intro L
  induction L with
  | nil => show (if e = f then n else 0) + 0 = 0 + _; omega
  | cons p L ih =>
    rw [gin_c]
    by_cases a : gck e < gck p.1
    · rw [if_pos a]
      show (if p.1 = f then p.2 else 0) + gco (gin e n L) f = (if p.1 = f then p.2 else 0) + gco L f + _
      rw [ih]
      omega
    · rw [if_neg a]
      by_cases b : p.1 = e
      · rw [if_pos b]
        show (if e = f then p.2 + n else 0) + gco L f = (if p.1 = f then p.2 else 0) + gco L f + _
        rw [b]
        split <;> omega
      · rw [if_neg b]
        show (if e = f then n else 0) + ((if p.1 = f then p.2 else 0) + gco L f) = (if p.1 = f then p.2 else 0) + gco L f + _
        omega
theorem mem_gin {e : GE} {n : Int} {q : GE × Int} : ∀ {L : GL}, q ∈ gin e n L → q.1 = e ∨ q ∈ L := by
  intro L
  induction L with
  | nil => intro h; rw [List.mem_singleton.mp h]; exact Or.inl rfl
  | cons p L ih =>
    intro h
    rw [gin_c] at h
    split at h
    · rcases List.mem_cons.mp h with z | z
      · rw [z]; exact Or.inr List.mem_cons_self
      · rcases ih z with w | w
        · exact Or.inl w
        · exact Or.inr (List.mem_cons_of_mem _ w)
    · split at h
      · rcases List.mem_cons.mp h with z | z
        · rw [z]; exact Or.inl rfl
        · exact Or.inr (List.mem_cons_of_mem _ z)
      · rcases List.mem_cons.mp h with z | z
        · rw [z]; exact Or.inl rfl
        · exact Or.inr z
theorem gs_gin {e : GE} {n : Int} (he : gE e) : ∀ {L : GL}, gs L → gD L → gs (gin e n L) := by
  intro L
  induction L with
  | nil => intro _ _; exact ⟨fun q hq => absurd hq List.not_mem_nil, trivial⟩
  | cons p L ih =>
    intro h d
    rw [gin_c]
    by_cases a : gck e < gck p.1
    · rw [if_pos a]
      refine ⟨fun q hq => ?_, ih h.2 (fun r hr => d r (List.mem_cons_of_mem _ hr))⟩
      rcases mem_gin hq with z | z
      · rw [z]; exact a
      · exact h.1 q z
    · rw [if_neg a]
      by_cases b : p.1 = e
      · rw [if_pos b]
        refine ⟨fun q hq => ?_, h.2⟩
        rw [← b]
        exact h.1 q hq
      · rw [if_neg b]
        have lt : gck p.1 < gck e := by
          rcases g_cmp he (d p List.mem_cons_self) with ⟨w, -, -⟩ | w | ⟨w, -, -⟩
          · exact absurd w a
          · exact absurd w.symm b
          · exact w
        refine ⟨fun q hq => ?_, h⟩
        show gck q.1 < gck e
        rcases List.mem_cons.mp hq with z | z
        · rw [z]; exact lt
        · have := h.1 q z
          omega
theorem gD_gin {e : GE} {n : Int} (he : gE e) {L : GL} (d : gD L) : gD (gin e n L) := fun q hq => by
  rcases mem_gin hq with z | z
  · rw [z]; exact he
  · exact d q z
theorem len_gin (e : GE) (n : Int) : ∀ L, (gin e n L).length ≤ L.length + 1 := by
  intro L
  induction L with
  | nil => exact Nat.le_refl _
  | cons p L ih =>
    rw [gin_c]
    split
    · show (gin e n L).length + 1 ≤ L.length + 1 + 1
      omega
    · split
      · show L.length + 1 ≤ L.length + 1 + 1
        omega
      · exact Nat.le_refl _
theorem gB_gin {e : GE} {n b c : Int} (hc : -c ≤ n ∧ n ≤ c) (hb : 0 ≤ b) : ∀ {L : GL}, gB b L → gB (b + c) (gin e n L) := by
  intro L
  induction L with
  | nil =>
    intro _ p hp
    rw [List.mem_singleton.mp hp]
    show -(b + c) ≤ n ∧ n ≤ b + c
    omega
  | cons p L ih =>
    intro h q hq
    have hp := h p List.mem_cons_self
    have hL : gB b L := fun r hr => h r (List.mem_cons_of_mem _ hr)
    rw [gin_c] at hq
    split at hq
    · rcases List.mem_cons.mp hq with z | z
      · rw [z]; omega
      · exact ih hL q z
    · split at hq
      · rcases List.mem_cons.mp hq with z | z
        · rw [z]
          show -(b + c) ≤ p.2 + n ∧ p.2 + n ≤ b + c
          omega
        · have := hL q z; omega
      · rcases List.mem_cons.mp hq with z | z
        · rw [z]
          show -(b + c) ≤ n ∧ n ≤ b + c
          omega
        · have := h q z; omega
/-- without what vanishes -/
def gnz (L : GL) : GL := L.filter (fun p => decide (¬ p.2 = 0))
theorem mem_gnz {L : GL} {p : GE × Int} : p ∈ gnz L ↔ p ∈ L ∧ ¬ p.2 = 0 := by
  unfold gnz
  rw [List.mem_filter, decide_eq_true_iff]
theorem gnz_c (p : GE × Int) (L : GL) : gnz (p :: L) = if p.2 = 0 then gnz L else p :: gnz L := by
  unfold gnz
  by_cases h : p.2 = 0
  · rw [if_pos h, List.filter_cons_of_neg (by rw [decide_eq_true_iff]; exact fun w => w h)]
  · rw [if_neg h, List.filter_cons_of_pos (by rw [decide_eq_true_iff]; exact h)]
theorem gco_gnz (e : GE) : ∀ L, gco (gnz L) e = gco L e := by
  intro L
  induction L with
  | nil => rfl
  | cons p L ih =>
    rw [gnz_c]
    by_cases h : p.2 = 0
    · rw [if_pos h, ih]
      show gco L e = (if p.1 = e then p.2 else 0) + gco L e
      rw [h]
      split <;> omega
    · rw [if_neg h]
      show (if p.1 = e then p.2 else 0) + gco (gnz L) e = (if p.1 = e then p.2 else 0) + gco L e
      rw [ih]
theorem gs_gnz : ∀ {L : GL}, gs L → gs (gnz L) := by
  intro L
  induction L with
  | nil => intro h; exact h
  | cons p L ih =>
    intro h
    rw [gnz_c]
    split
    · exact ih h.2
    · exact ⟨fun q hq => h.1 q (mem_gnz.mp hq).1, ih h.2⟩
theorem gD_gnz {L : GL} (d : gD L) : gD (gnz L) := fun p hp => d p (mem_gnz.mp hp).1
theorem gNZ_gnz (L : GL) : gNZ (gnz L) := fun p hp => (mem_gnz.mp hp).2
theorem len_gnz (L : GL) : (gnz L).length ≤ L.length := List.length_filter_le _ _
theorem gs_app {A B : GL} : gs (A ++ B) ↔ gs A ∧ gs B ∧ ∀ p ∈ A, ∀ q ∈ B, gck q.1 < gck p.1 := by
  induction A with
  | nil => exact ⟨fun h => ⟨trivial, h, fun p hp => absurd hp List.not_mem_nil⟩, fun h => h.2.1⟩
  | cons p A ih =>
    constructor
    · rintro ⟨h1, h2⟩
      obtain ⟨a, b, c⟩ := ih.mp h2
      refine ⟨⟨fun q hq => h1 q (List.mem_append.mpr (Or.inl hq)), a⟩, b, fun r hr q hq => ?_⟩
      rcases List.mem_cons.mp hr with z | z
      · rw [z]; exact h1 q (List.mem_append.mpr (Or.inr hq))
      · exact c r z q hq
    · rintro ⟨h1, h2, h3⟩
      refine ⟨fun q hq => ?_, ih.mpr ⟨h1.2, h2, fun r hr => h3 r (List.mem_cons_of_mem _ hr)⟩⟩
      rcases List.mem_append.mp hq with z | z
      · exact h1.1 q z
      · exact h3 p List.mem_cons_self q z
theorem gco_app (e : GE) : ∀ A B, gco (A ++ B) e = gco A e + gco B e := by
  intro A B
  induction A with
  | nil => show gco B e = 0 + gco B e; omega
  | cons p A ih =>
    show (if p.1 = e then p.2 else 0) + gco (A ++ B) e = (if p.1 = e then p.2 else 0) + gco A e + gco B e
    rw [ih]
    omega
/-- in its right form -/
def gcan (L : GL) : Prop := gs L ∧ gD L ∧ gNZ L
def e99 (e : GE) : Prop := (-99 ≤ e.1 ∧ e.1 ≤ 99) ∧ (-99 ≤ e.2.1 ∧ e.2.1 ≤ 99) ∧ (-99 ≤ e.2.2.1 ∧ e.2.2.1 ≤ 99) ∧ (-99 ≤ e.2.2.2 ∧ e.2.2.2 ≤ 99)
theorem e99_E {e : GE} (h : e99 e) : gE e := by
  obtain ⟨h1, h2, h3, h4⟩ := h
  exact ⟨by omega, by omega, by omega, by omega⟩
def gfit (L : GL) : Prop := L.length ≤ 20 ∧ ∀ p ∈ L, (-100000000 ≤ p.2 ∧ p.2 ≤ 100000000) ∧ e99 p.1
/-- what a place may hold -/
def gok (L : GL) : Prop := gs L ∧ gNZ L ∧ gfit L
theorem gok.D {L : GL} (h : gok L) : gD L := fun p hp => e99_E (h.2.2.2 p hp).2
theorem gok.can {L : GL} (h : gok L) : gcan L := ⟨h.1, h.D, h.2.1⟩
theorem gok.B {L : GL} (h : gok L) : gB 100000000 L := fun p hp => (h.2.2.2 p hp).1
/-- exponents, sums of them, those of slopes -/
def gex (w : Nat) (e : GE) : Int := if w = 1 then e.1 else if w = 2 then e.2.1 else if w = 3 then e.2.2.1 else e.2.2.2
def ead (e f : GE) : GE := (e.1 + f.1, e.2.1 + f.2.1, e.2.2.1 + f.2.2.1, e.2.2.2 + f.2.2.2)
def edl (w : Nat) (e : GE) : GE := (e.1, e.2.1 - (if 2 ≤ w then 1 else 0), e.2.2.1 - (if 3 ≤ w then 1 else 0), e.2.2.2 - (if 4 ≤ w then 1 else 0))
theorem gck_ead (e f : GE) : gck (ead e f) = gck e + gck f - 550293209600 := by
  unfold gck ead
  dsimp only
  omega
theorem gmk_ead (e f : GE) : gmk (ead e f) = gmk e + gmk f - 12928480800 := by
  unfold gmk ead
  dsimp only
  omega
theorem ead_E {e f : GE} (he : e99 e) (hf : e99 f) : gE (ead e f) := by
  obtain ⟨h1, h2, h3, h4⟩ := he
  obtain ⟨k1, k2, k3, k4⟩ := hf
  unfold gE ead
  dsimp only
  omega
theorem edl_E {w : Nat} {e : GE} (he : e99 e) : gE (edl w e) := by
  obtain ⟨h1, h2, h3, h4⟩ := he
  unfold gE edl
  dsimp only
  refine ⟨by omega, ?_, ?_, ?_⟩
  all_goals split <;> omega
/-- the parts of a growth, each changed -/
def gmap (k : GE → GE) (t : GE × Int → Int) (L : GL) : GL := L.map (fun p => (k p.1, t p))
theorem gs_gmap {k : GE → GE} {t : GE × Int → Int} {c : Int} (hk : ∀ e, gck (k e) = gck e + c) : ∀ {L : GL}, gs L → gs (gmap k t L) := by
  intro L
  induction L with
  | nil => intro _; trivial
  | cons p L ih =>
    intro h
    refine ⟨fun q hq => ?_, ih h.2⟩
    obtain ⟨r, hr, e⟩ := List.mem_map.mp hq
    rw [← e]
    show gck (k r.1) < gck (k p.1)
    rw [hk, hk]
    have := h.1 r hr
    omega
theorem gD_gmap {k : GE → GE} {t : GE × Int → Int} {L : GL} (hk : ∀ p ∈ L, gE (k p.1)) : gD (gmap k t L) := fun q hq => by
  obtain ⟨r, hr, e⟩ := List.mem_map.mp hq
  rw [← e]
  exact hk r hr
/-- all joined, with a sign -/
def gja (s : Int) : GL → GL → GL
  | [], L => L
  | p :: A, L => gja s A (gin p.1 (s * p.2) L)
def gsm (A B : GL) (s : Int) : GL := gja s B (gja 1 A [])
theorem gco_gja (s : Int) (f : GE) : ∀ A L, gco (gja s A L) f = gco L f + s * gco A f := by
  intro A
  induction A with
  | nil => intro L; show gco L f = gco L f + s * 0; omega
  | cons p A ih =>
    intro L
    show gco (gja s A (gin p.1 (s * p.2) L)) f = gco L f + s * ((if p.1 = f then p.2 else 0) + gco A f)
    rw [ih, gco_gin, Int.mul_add]
    split
    · omega
    · rw [Int.mul_zero]; omega
/-- what is so far made in the right order -/
def gmd (L : GL) (c : Nat) (b : Int) : Prop := gs L ∧ gD L ∧ L.length ≤ c ∧ gB b L
theorem gmd_nil (c : Nat) (b : Int) : gmd [] c b := ⟨trivial, fun p hp => absurd hp List.not_mem_nil, Nat.zero_le _, fun p hp => absurd hp List.not_mem_nil⟩
theorem gmd_gin {L : GL} {c : Nat} {b g : Int} {e : GE} {n : Int} (h : gmd L c b) (he : gE e) (hn : -g ≤ n ∧ n ≤ g) (hb : 0 ≤ b) : gmd (gin e n L) (c + 1) (b + g) := ⟨gs_gin he h.1 h.2.1, gD_gin he h.2.1, by have := len_gin e n L; have := h.2.2.1; omega, gB_gin hn hb h.2.2.2⟩
/-- a product -/
def gmi (p : GE × Int) : GL → GL → GL
  | [], L => L
  | q :: B, L => gmi p B (gin (ead p.1 q.1) (p.2 * q.2) L)
def gmu (B : GL) : GL → GL → GL
  | [], L => L
  | p :: A, L => gmu B A (gmi p B L)
def grw (p : GE × Int) (B : GL) : GL := gmap (ead p.1) (fun q => p.2 * q.2) B
theorem gco_gmi (p : GE × Int) (f : GE) : ∀ B L, gco (gmi p B L) f = gco L f + gco (grw p B) f := by
  intro B
  induction B with
  | nil => intro L; show gco L f = gco L f + 0; omega
  | cons q B ih =>
    intro L
    show gco (gmi p B (gin (ead p.1 q.1) (p.2 * q.2) L)) f = gco L f + ((if ead p.1 q.1 = f then p.2 * q.2 else 0) + gco (grw p B) f)
    rw [ih, gco_gin]
    omega
/-- a derivative -/
def gdi (p : GE × Int) (L : GL) : GL := gin (edl 4 p.1) (p.2 * gex 4 p.1) (gin (edl 3 p.1) (p.2 * gex 3 p.1) (gin (edl 2 p.1) (p.2 * gex 2 p.1) (gin (edl 1 p.1) (p.2 * gex 1 p.1) L)))
def gdv : GL → GL → GL
  | [], L => L
  | p :: A, L => gdv A (gdi p L)
def gsl (w : Nat) (A : GL) : GL := gmap (edl w) (fun p => p.2 * gex w p.1) A
theorem gco_gdv (f : GE) : ∀ A L, gco (gdv A L) f = gco L f + gco (gsl 1 A) f + gco (gsl 2 A) f + gco (gsl 3 A) f + gco (gsl 4 A) f := by
  intro A
  induction A with
  | nil => intro L; show gco L f = gco L f + 0 + 0 + 0 + 0; omega
  | cons p A ih =>
    intro L
    have c : ∀ w, gco (gsl w (p :: A)) f = (if edl w p.1 = f then p.2 * gex w p.1 else 0) + gco (gsl w A) f := fun w => rfl
    show gco (gdv A (gdi p L)) f = _
    rw [ih, c, c, c, c]
    unfold gdi
    rw [gco_gin, gco_gin, gco_gin, gco_gin]
    omega
/-- which is greater -/
def gcp : GL → GL → Int
  | [], [] => 0
  | p :: _, [] => csg p.2 0
  | [], q :: _ => csg 0 q.2
  | p :: A, q :: B => if gck q.1 < gck p.1 then csg p.2 0 else if gck p.1 < gck q.1 then csg 0 q.2 else if p.2 = q.2 then gcp A B else csg p.2 q.2
def ghd : GL → Int
  | [] => 0
  | p :: _ => csg p.2 0
theorem ghd_e {D : GL} {e : GE} {v : Int} (c : gcan D) (he : gE e) (hv : gco D e = v) (nv : ¬ v = 0) (hz : ∀ f, gck e < gck f → gco D f = 0) : ghd D = csg v 0 := by
  cases D with
  | nil => exact absurd hv.symm nv
  | cons p D =>
    show csg p.2 0 = _
    have hp := gco_hd c.1
    rcases g_cmp (c.2.1 p List.mem_cons_self) he with ⟨a, -, -⟩ | a | ⟨a, -, -⟩
    · rw [gco_gt c.1 a] at hv
      exact absurd hv.symm nv
    · rw [a, hv] at hp
      rw [hp]
    · rw [hz p.1 a] at hp
      exact absurd hp.symm (c.2.2 p List.mem_cons_self)
theorem csg_n (x z : Int) : csg (x - z) 0 = csg x z := by
  unfold csg
  split
  · rw [if_pos (by omega)]
  · split
    · rw [if_neg (by omega), if_pos (by omega)]
    · rw [if_neg (by omega), if_neg (by omega)]
theorem gcan_t {p : GE × Int} {L : GL} (c : gcan (p :: L)) : gcan L := ⟨c.1.2, fun q hq => c.2.1 q (List.mem_cons_of_mem _ hq), fun q hq => c.2.2 q (List.mem_cons_of_mem _ hq)⟩
theorem gcp_hd : ∀ (A B D : GL), gcan A → gcan B → gcan D → (∀ e, gco D e = gco A e - gco B e) → gcp A B = ghd D := by
  intro A
  induction A with
  | nil =>
    intro B D cA cB cD h
    cases B with
    | nil =>
      have : D = [] := gco_u cD.1 cA.1 cD.2.1 cA.2.1 cD.2.2 cA.2.2 (fun e => by rw [h e]; show (0 : Int) - 0 = 0; rfl)
      rw [this]; rfl
    | cons q B =>
      show csg 0 q.2 = _
      have hq := gco_hd cB.1
      rw [ghd_e (v := 0 - q.2) cD (cB.2.1 q List.mem_cons_self) (by rw [h, hq]; rfl) (by have := cB.2.2 q List.mem_cons_self; omega) (fun f hf => by rw [h, gco_gt cB.1 hf]; rfl), csg_n]
  | cons p A ih =>
    intro B D cA cB cD h
    have hp := gco_hd cA.1
    have np := cA.2.2 p List.mem_cons_self
    cases B with
    | nil =>
      show csg p.2 0 = _
      rw [ghd_e (v := p.2) cD (cA.2.1 p List.mem_cons_self) (by rw [h, hp]; show p.2 - 0 = _; omega) np (fun f hf => by rw [h, gco_gt cA.1 hf]; rfl)]
    | cons q B =>
      have hq := gco_hd cB.1
      have nq := cB.2.2 q List.mem_cons_self
      show (if gck q.1 < gck p.1 then csg p.2 0 else if gck p.1 < gck q.1 then csg 0 q.2 else if p.2 = q.2 then gcp A B else csg p.2 q.2) = _
      by_cases a : gck q.1 < gck p.1
      · rw [if_pos a, ghd_e (v := p.2) cD (cA.2.1 p List.mem_cons_self) (by rw [h, hp, gco_gt cB.1 a]; omega) np (fun f hf => by rw [h, gco_gt cA.1 hf, gco_gt cB.1 (by omega)]; rfl)]
      · rw [if_neg a]
        by_cases b : gck p.1 < gck q.1
        · rw [if_pos b, ghd_e (v := 0 - q.2) cD (cB.2.1 q List.mem_cons_self) (by rw [h, hq, gco_gt cA.1 b]) (by omega) (fun f hf => by rw [h, gco_gt cB.1 hf, gco_gt cA.1 (by omega)]; rfl), csg_n]
        · rw [if_neg b]
          have epq : p.1 = q.1 := (gck_eq (cA.2.1 p List.mem_cons_self) (cB.2.1 q List.mem_cons_self)).mp (by omega)
          by_cases g : p.2 = q.2
          · rw [if_pos g]
            refine ih B D (gcan_t cA) (gcan_t cB) cD (fun e => ?_)
            have := h e
            have h1 : gco (p :: A) e = (if p.1 = e then p.2 else 0) + gco A e := rfl
            have h2 : gco (q :: B) e = (if q.1 = e then q.2 else 0) + gco B e := rfl
            rw [h1, h2, epq, g] at this
            omega
          · rw [if_neg g, ghd_e (v := p.2 - q.2) cD (cA.2.1 p List.mem_cons_self) (by rw [h, hp, epq, hq]) (by omega) (fun f hf => by rw [h, gco_gt cA.1 hf, gco_gt cB.1 (by rw [← epq]; exact hf)]; rfl), csg_n]
/-- to what it tends -/
def gtn : GL → Int
  | [] => 0
  | p :: _ => if gck p.1 < 550293209600 then 0 else if gck p.1 = 550293209600 then 1 else if 0 < p.2 then 2 else 3
