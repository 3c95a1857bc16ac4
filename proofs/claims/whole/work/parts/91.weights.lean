/-! ===== layer 4: the live bound: weights ===== -/
/-- an exponent of x -/
def ex (x z : O) : Prop := ∃ p, p ∈ pl x ∧ p.1 = z
/-- the last exponent -/
def la (x : O) : O := match (pl x)[(pl x).length - 1]? with
  | some p => p.1
  | none => .leaf
theorem at_last (A : List OP) (p : OP) : (A ++ [p])[(A ++ [p]).length - 1]? = some p := by
  have : (A ++ [p]).length - 1 = A.length := by rw [List.length_append]; show A.length + 1 - 1 = _; omega
  rw [this, List.getElem?_append_right (Nat.le_refl _), Nat.sub_self]
  rfl
theorem la_eq {x : O} {A : List OP} {p : OP} (h : pl x = A ++ [p]) : la x = p.1 := by
  unfold la
  rw [h, at_last]
theorem pl_snoc {x : O} (h : ¬ x = .leaf) : ∃ A p, pl x = A ++ [p] := by
  have h0 : pl x ≠ [] := fun z => h (pl_nil z)
  exact ⟨(pl x).dropLast, (pl x).getLast h0, (List.dropLast_concat_getLast h0).symm⟩
theorem ex_S {x z : O} (h : ex x z) : inS x z := by
  obtain ⟨p, hp, e⟩ := h
  rw [← e]; exact inS_ex x p hp
theorem ex_la {x : O} (h : ¬ x = .leaf) : ex x (la x) := by
  obtain ⟨A, p, e⟩ := pl_snoc h
  rw [la_eq e]
  exact ⟨p, by rw [e]; exact List.mem_append.mpr (Or.inr List.mem_cons_self), rfl⟩
theorem ex_leaf {z : O} (h : ex .leaf z) : False := by
  obtain ⟨p, hp, -⟩ := h
  exact absurd hp List.not_mem_nil
theorem ex_nl {x z : O} (h : ex x z) : ¬ x = .leaf := fun w => by rw [w] at h; exact ex_leaf h
theorem la_leaf : la .leaf = .leaf := rfl
theorem in_ex {x z : O} (h : inS x z) : ∃ e, ex x e ∧ (z = e ∨ inS e z) := by
  obtain ⟨p, hp, w⟩ := inS_in x z h
  exact ⟨p.1, ⟨p, hp, rfl⟩, w⟩
theorem ex_in {x e z : O} (h : ex x e) (g : inS e z) : inS x z := inS_tr _ _ _ (ex_S h) g
theorem ex_dep {x z : O} (h : ex x z) : dep z + 1 ≤ dep x := by
  obtain ⟨p, hp, e⟩ := h
  rw [← e]; exact dep_pl x p hp
theorem dep_pos {x : O} (h : ¬ x = .leaf) : 1 ≤ dep x := by
  have := ex_dep (ex_la h); omega
theorem hgd_ex {x z : O} (h : hgd x) (g : ex x z) : hgd z := ⟨h.2 z (ex_S g), fun e he => h.2 e (ex_in g he)⟩
theorem hgd_len {x : O} (h : hgd x) : (pl x).length ≤ 8 := h.1.2.1
theorem hgd_dep {x : O} (h : hgd x) : dep x ≤ 5 := h.1.2.2.2
theorem hgd_la {x : O} (h : hgd x) : hgd (la x) := by
  by_cases w : x = .leaf
  · rw [w, la_leaf, ← w]; exact h
  · exact hgd_ex h (ex_la w)
/-- gains: of y; all -/
noncomputable def gsum : List (O × Nat) → O → Nat
  | [], _ => 0
  | q :: G, y => ouif (q.1 = y) q.2 0 + gsum G y
def gtot : List (O × Nat) → Nat
  | [] => 0
  | q :: G => q.2 + gtot G
def fsum (F : O → Nat) : List O → Nat
  | [] => 0
  | x :: xs => F x + fsum F xs
theorem fsum_add (F G : O → Nat) : ∀ xs, fsum (fun y => F y + G y) xs = fsum F xs + fsum G xs := by
  intro xs
  induction xs with
  | nil => rfl
  | cons x xs ih =>
    show F x + G x + fsum (fun y => F y + G y) xs = F x + fsum F xs + (G x + fsum G xs)
    omega
theorem fsum_le {F G : O → Nat} : ∀ xs, (∀ y, y ∈ xs → F y ≤ G y) → fsum F xs ≤ fsum G xs := by
  intro xs
  induction xs with
  | nil => intro _; exact Nat.le_refl _
  | cons x xs ih =>
    intro h
    have h1 := h x List.mem_cons_self
    have h2 := ih (fun y hy => h y (List.mem_cons_of_mem _ hy))
    show F x + fsum F xs ≤ G x + fsum G xs
    omega
theorem fsum_one (e : O) (g : Nat) : ∀ xs : List O, xs.Nodup → fsum (fun y => ouif (e = y) g 0) xs ≤ g ∧ (¬ e ∈ xs → fsum (fun y => ouif (e = y) g 0) xs = 0) := by
  intro xs
  induction xs with
  | nil => intro _; exact ⟨Nat.zero_le _, fun _ => rfl⟩
  | cons x xs ih =>
    intro h
    obtain ⟨h1, h2⟩ := List.nodup_cons.mp h
    obtain ⟨i1, i2⟩ := ih h2
    show ouif (e = x) g 0 + fsum _ xs ≤ g ∧ (_ → ouif (e = x) g 0 + fsum _ xs = 0)
    by_cases z : e = x
    · rw [ouif_t z]
      refine ⟨by have := i2 (by rw [z]; exact h1); omega, fun w => absurd (by rw [z]; exact List.mem_cons_self) w⟩
    · rw [ouif_f z]
      refine ⟨by omega, fun w => ?_⟩
      have := i2 (fun v => w (List.mem_cons_of_mem _ v))
      omega
theorem fsum_gs {xs : List O} (h : xs.Nodup) : ∀ G, fsum (gsum G) xs ≤ gtot G := by
  intro G
  induction G with
  | nil =>
    show fsum (fun _ => 0) xs ≤ 0
    clear h
    induction xs with
    | nil => exact Nat.le_refl _
    | cons x xs ih => show 0 + fsum (fun _ => 0) xs ≤ 0; omega
  | cons q G ih =>
    have h1 := fsum_add (fun y => ouif (q.1 = y) q.2 0) (gsum G) xs
    have h2 := (fsum_one q.1 q.2 xs h).1
    show fsum (fun y => ouif (q.1 = y) q.2 0 + gsum G y) xs ≤ q.2 + gtot G
    omega
theorem gsum_app (A B : List (O × Nat)) (y : O) : gsum (A ++ B) y = gsum A y + gsum B y := by
  induction A with
  | nil => show gsum B y = 0 + gsum B y; omega
  | cons q A ih =>
    show ouif (q.1 = y) q.2 0 + gsum (A ++ B) y = ouif (q.1 = y) q.2 0 + gsum A y + gsum B y
    omega
theorem gt_app (A B : List (O × Nat)) : gtot (A ++ B) = gtot A + gtot B := by
  induction A with
  | nil => show gtot B = 0 + gtot B; omega
  | cons q A ih =>
    show q.2 + gtot (A ++ B) = q.2 + gtot A + gtot B
    omega
theorem gt_le {b : Nat} : ∀ {G : List (O × Nat)}, (∀ q ∈ G, q.2 ≤ b) → gtot G ≤ b * G.length := by
  intro G
  induction G with
  | nil => intro _; exact Nat.zero_le _
  | cons q G ih =>
    intro h
    have h1 := h q List.mem_cons_self
    have h2 := ih (fun r hr => h r (List.mem_cons_of_mem _ hr))
    show q.2 + gtot G ≤ b * (G.length + 1)
    rw [Nat.mul_add]
    omega
theorem gs_mem {y : O} {g : Nat} : ∀ {G : List (O × Nat)}, (y, g) ∈ G → g ≤ gsum G y := by
  intro G
  induction G with
  | nil => intro h; exact absurd h List.not_mem_nil
  | cons q G ih =>
    intro h
    show g ≤ ouif (q.1 = y) q.2 0 + gsum G y
    rcases List.mem_cons.mp h with z | z
    · rw [← z, ouif_t rfl]; exact Nat.le_add_right _ _
    · have := ih z; omega
/-- gains for exponents -/
def gmp (f : O → Nat) (L : List OP) : List (O × Nat) := L.map (fun q => (q.1, f q.1))
theorem gmp_mem {f : O → Nat} {L : List OP} {q : OP} (h : q ∈ L) : (q.1, f q.1) ∈ gmp f L := List.mem_map.mpr ⟨q, h, rfl⟩
theorem gmp_ex {f : O → Nat} {x z : O} (h : ex x z) : f z ≤ gsum (gmp f (pl x)) z := by
  obtain ⟨p, hp, e⟩ := h
  rw [← e]
  exact gs_mem (gmp_mem hp)
theorem gmp_le {f : O → Nat} {b : Nat} {L : List OP} (h : ∀ q ∈ L, f q.1 ≤ b) : gtot (gmp f L) ≤ b * L.length := by
  have h1 := gt_le (b := b) (G := gmp f L) (fun q hq => by
    obtain ⟨r, hr, e⟩ := List.mem_map.mp hq
    rw [← e]; exact h r hr)
  rw [show (gmp f L).length = L.length from List.length_map _] at h1
  exact h1
/-- F is enough for T -/
def HW (T : O) (F : O → Nat) : Prop := ∀ y, ¬ y = .leaf → (∀ e f, ex T e → ex e f → inS f y → 8 ≤ F y) ∧ (ex (la T) y → 8 ≤ F y + dep y) ∧ (∀ e, ex T e → ex e y → ¬ ex (la T) y → 8 ≤ F y) ∧ (ex T y → ¬ y = la T → 4 ≤ F y)
theorem HW.up {T : O} {F F2 : O → Nat} (h : HW T F) (g : ∀ y, F y ≤ F2 y) : HW T F2 := by
  intro y hy
  obtain ⟨h1, h2, h3, h4⟩ := h y hy
  have := g y
  exact ⟨fun e f a b c => Nat.le_trans (h1 e f a b c) this, fun a => by have := h2 a; omega, fun e a b c => Nat.le_trans (h3 e a b c) this, fun a b => Nat.le_trans (h4 a b) this⟩
/-- T may be laid for 28 -/
def GW (T : O) (F : O → Nat) : Prop := ∃ G, gtot G ≤ 28 ∧ HW T (fun y => F y + gsum G y)
theorem HW.g {T : O} {F : O → Nat} (h : HW T F) : GW T F := ⟨[], Nat.zero_le _, h.up (fun y => Nat.le_add_right _ _)⟩
theorem HW_fin {T : O} {F : O → Nat} (h : ∀ e, inS T e → e = .leaf) : HW T F := by
  intro y hy
  refine ⟨fun e f a b c => absurd (h y (ex_in a (ex_in b c))) hy, fun a => ?_, fun e a b _ => absurd (h y (ex_in a (ex_S b))) hy, fun a _ => absurd (h y (ex_S a)) hy⟩
  by_cases w : T = .leaf
  · rw [w, la_leaf] at a; exact (ex_leaf a).elim
  · exact absurd (h y (ex_in (ex_la w) (ex_S a))) hy
theorem HW_ex {A e : O} {F : O → Nat} (g : hgd A) (a : HW A F) (h : ex A e) : HW e F := by
  intro y hy
  obtain ⟨h1, h2, h3, h4⟩ := a y hy
  refine ⟨fun e1 f p q r => h1 e e1 h p (ex_in q r), fun p => ?_, fun e1 p q _ => h1 e e1 h p (ex_S q), fun p _ => ?_⟩
  · by_cases w : e = .leaf
    · rw [w, la_leaf] at p; exact (ex_leaf p).elim
    · have := h1 e (la e) h (ex_la w) (ex_S p); omega
  · by_cases w : ex (la A) y
    · have := h2 w
      have d1 := ex_dep p
      have d2 := ex_dep h
      have := hgd_dep g
      omega
    · have := h3 e h p w; omega
theorem GW_join {A B T : O} {F : O → Nat} (g : hgd A) (a : HW A F) (b : HW B F) (h1 : ∀ z, ex T z → ex A z ∨ ex B z) (h2 : la T = la B) : GW T F := by
  refine ⟨(la A, 4) :: gmp dep (pl (la A)), ?_, fun y hy => ?_⟩
  · have t : gtot (gmp dep (pl (la A))) ≤ 3 * (pl (la A)).length := gmp_le (fun q hq => by
      have d1 := ex_dep (x := la A) ⟨q, hq, rfl⟩
      have nl : ¬ A = .leaf := fun w => by rw [w, la_leaf] at hq; exact absurd hq List.not_mem_nil
      have d2 := ex_dep (ex_la nl)
      have := hgd_dep g
      omega)
    have := hgd_len (hgd_la g)
    show 4 + gtot (gmp dep (pl (la A))) ≤ 28
    omega
  · obtain ⟨a1, a2, a3, a4⟩ := a y hy
    obtain ⟨b1, b2, b3, b4⟩ := b y hy
    have e1 : ex (la A) y → dep y ≤ gsum ((la A, 4) :: gmp dep (pl (la A))) y := fun w => by
      have := gmp_ex (f := dep) w
      show dep y ≤ ouif (la A = y) 4 0 + gsum (gmp dep (pl (la A))) y
      omega
    dsimp only
    refine ⟨fun e f p q r => ?_, fun p => ?_, fun e p q r => ?_, fun p q => ?_⟩
    · rcases h1 e p with w | w
      · have := a1 e f w q r; omega
      · have := b1 e f w q r; omega
    · rw [h2] at p
      have := b2 p; omega
    · rw [h2] at r
      rcases h1 e p with w | w
      · by_cases v : ex (la A) y
        · have := a2 v; have := e1 v; omega
        · have := a3 e w q v; omega
      · have := b3 e w q r; omega
    · rw [h2] at q
      rcases h1 y p with w | w
      · by_cases v : y = la A
        · have : 4 ≤ gsum ((la A, 4) :: gmp dep (pl (la A))) y := gs_mem (by rw [v]; exact List.mem_cons_self)
          omega
        · have := a4 w v; omega
      · have := b4 w q; omega
theorem snoc_gt {x : O} {A : List OP} {p : OP} (h : hgd x) (e : pl x = A ++ [p]) : ∀ q, q ∈ A → oc q.1 p.1 = 1 := by
  have s := nf_srt _ h.1.1
  rw [e] at s
  intro q hq
  exact (srt_app.mp s).2.2 q hq p List.mem_cons_self
theorem GW_omega {A : O} {F : O → Nat} (g : hgd A) (g2 : hgd (mk [(A, 1)])) (a : HW A F) : GW (mk [(A, 1)]) F := by
  have t1 : ∀ z, ex (mk [(A, 1)]) z ↔ z = A := fun z => by
    constructor
    · rintro ⟨p, hp, e⟩
      rw [pl_mk] at hp
      rw [← e, List.mem_singleton.mp hp]
    · intro e
      exact ⟨(A, 1), by rw [pl_mk]; exact List.mem_cons_self, e.symm⟩
  have t2 : la (mk [(A, 1)]) = A := la_eq (A := []) (p := (A, 1)) (pl_mk _)
  have dA : dep A ≤ 4 := by have := ex_dep ((t1 A).mpr rfl); have := hgd_dep g2; omega
  by_cases w : A = .leaf
  · refine (HW_fin fun e he => ?_).g
    obtain ⟨f, q1, q2⟩ := in_ex he
    rw [t1, w] at q1
    rw [q1] at q2
    rcases q2 with v | v
    · exact v
    · exact v.elim
  obtain ⟨A0, p, eA⟩ := pl_snoc w
  have lA := la_eq eA
  have xp : ex A p.1 := by rw [← lA]; exact ex_la w
  have len : A0.length ≤ 7 := by
    have := hgd_len g
    rw [eA, List.length_append] at this
    have : [p].length = 1 := rfl
    omega
  have mon : ∀ q, q ∈ A0 → dep p.1 ≤ dep q.1 := fun q hq => dep_mono _ _ (hgd_ex g ⟨q, by rw [eA]; exact List.mem_append.mpr (Or.inl hq), rfl⟩).1.1 (hgd_ex g xp).1.1 (snoc_gt g eA q hq)
  have dp := ex_dep xp
  -- what is asked of the gains
  have key : ∀ G : List (O × Nat), (∀ q, q ∈ A0 → 4 - dep q.1 ≤ gsum G q.1) → (¬ p.1 = .leaf → 8 - dep p.1 ≤ gsum G p.1) → (∀ z, ex p.1 z → dep z ≤ gsum G z) → HW (mk [(A, 1)]) (fun y => F y + gsum G y) := by
    intro G k1 k2 k3 y hy
    obtain ⟨a1, a2, a3, a4⟩ := a y hy
    dsimp only
    refine ⟨fun e f u v r => ?_, fun u => ?_, fun e u v r => ?_, fun u v => ?_⟩
    · rw [t1] at u
      rw [u] at v
      obtain ⟨z, z1, z2⟩ := in_ex r
      rcases z2 with z2 | z2
      · rw [← z2] at z1
        by_cases c : ex (la A) y
        · have := a2 c
          rw [lA] at c
          have := k3 y c
          omega
        · have := a3 f v z1 c; omega
      · have := a1 f z v z1 z2; omega
    · rw [t2] at u
      by_cases c : y = la A
      · rw [lA] at c
        have := k2 (by rw [← c]; exact hy)
        rw [← c] at this
        omega
      · have h4 := a4 u c
        obtain ⟨q, hq, e⟩ := u
        rw [eA] at hq
        rcases List.mem_append.mp hq with c2 | c2
        · have := k1 q c2
          rw [e] at this
          omega
        · rw [List.mem_singleton.mp c2] at e
          exact absurd (by rw [lA]; exact e.symm) c
    · rw [t1] at u
      rw [u] at v
      rw [t2] at r
      exact absurd v r
    · rw [t1] at u
      rw [t2] at v
      exact absurd u v
  by_cases c : p.1 = .leaf
  · refine ⟨gmp (fun z => 4 - dep z) A0, ?_, key _ (fun q hq => gs_mem (gmp_mem (f := fun z => 4 - dep z) hq)) (fun v => absurd c v) (fun z hz => by rw [c] at hz; exact (ex_leaf hz).elim)⟩
    have := gmp_le (f := fun z => 4 - dep z) (b := 4) (L := A0) (fun q _ => Nat.sub_le _ _)
    omega
  · refine ⟨gmp (fun z => 4 - dep z) A0 ++ (p.1, 8 - dep p.1) :: gmp dep (pl p.1), ?_, key _ (fun q hq => gs_mem (List.mem_append.mpr (Or.inl (gmp_mem (f := fun z => 4 - dep z) hq)))) (fun _ => gs_mem (List.mem_append.mpr (Or.inr List.mem_cons_self))) (fun z hz => ?_)⟩
    · have h1 := gmp_le (f := fun z => 4 - dep z) (b := 4 - dep p.1) (L := A0) (fun q hq => by have := mon q hq; omega)
      have h2 := gmp_le (f := dep) (b := dep p.1 - 1) (L := pl p.1) (fun q hq => by have := ex_dep (x := p.1) ⟨q, hq, rfl⟩; omega)
      have h3 := hgd_len (hgd_ex g xp)
      have h4 := dep_pos c
      rw [gt_app]
      show gtot (gmp (fun z => 4 - dep z) A0) + (8 - dep p.1 + gtot (gmp dep (pl p.1))) ≤ 28
      have h5 : dep p.1 = 1 ∨ dep p.1 = 2 ∨ dep p.1 = 3 := by omega
      rcases h5 with h5 | h5 | h5 <;> rw [h5] at h1 h2 ⊢ <;> omega
    · rw [gsum_app]
      have := gmp_ex (f := dep) hz
      show dep z ≤ _ + (ouif (p.1 = z) _ 0 + gsum (gmp dep (pl p.1)) z)
      omega
