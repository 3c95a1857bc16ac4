/-! ===== layer 3: ordinals as trees: a power (its exponent, its times) and the rest ===== -/
abbrev O : Type := Std.DTreeMap.Internal.Impl Unit (fun _ => Unit)
abbrev OP : Type := O × Nat
def pl : O → List OP
  | .leaf => []
  | .inner n _ _ e r => (e, n) :: pl r
def mk : List OP → O
  | [] => .leaf
  | (e, n) :: l => .inner n () () e (mk l)
theorem pl_mk : ∀ l, pl (mk l) = l := by
  intro l
  induction l with
  | nil => rfl
  | cons p l ih =>
    obtain ⟨e, n⟩ := p
    show (e, n) :: pl (mk l) = _
    rw [ih]
theorem mk_pl : ∀ x, mk (pl x) = x := by
  intro x
  induction x with
  | leaf => rfl
  | inner n k v e r _ ih =>
    show Std.DTreeMap.Internal.Impl.inner n () () e (mk (pl r)) = _
    rw [ih]
theorem pl_inj {x y : O} (h : pl x = pl y) : x = y := by rw [← mk_pl x, ← mk_pl y, h]
theorem mk_inj {a b : List OP} (h : mk a = mk b) : a = b := by rw [← pl_mk a, ← pl_mk b, h]
theorem pl_nil {x : O} (h : pl x = []) : x = .leaf := by rw [← mk_pl x, h]; rfl
def dep : O → Nat
  | .leaf => 0
  | .inner _ _ _ e r => max (dep e + 1) (dep r)
/-- the order: -1, 0, 1 -/
def oc : O → O → Int
  | .leaf => fun y => match y with
    | .leaf => 0
    | .inner _ _ _ _ _ => -1
  | .inner n _ _ e r => fun y => match y with
    | .leaf => 1
    | .inner m _ _ f s => if oc e f = 0 then (if n < m then -1 else if m < n then 1 else oc r s) else oc e f
theorem oc_lz {n : Nat} {k v : Unit} {e r : O} : oc .leaf (.inner n k v e r) = -1 := rfl
theorem oc_zl {n : Nat} {k v : Unit} {e r : O} : oc (.inner n k v e r) .leaf = 1 := rfl
theorem oc_ii {n m : Nat} {k v k2 v2 : Unit} {e r f s : O} : oc (.inner n k v e r) (.inner m k2 v2 f s) = if oc e f = 0 then (if n < m then -1 else if m < n then 1 else oc r s) else oc e f := rfl
theorem oc_self : ∀ x, oc x x = 0 := by
  intro x
  induction x with
  | leaf => rfl
  | inner n k v e r ihe ihr =>
    rw [oc_ii, if_pos ihe, if_neg (Nat.lt_irrefl _), if_neg (Nat.lt_irrefl _)]
    exact ihr
theorem oc_val : ∀ x y, oc x y = -1 ∨ oc x y = 0 ∨ oc x y = 1 := by
  intro x
  induction x with
  | leaf =>
    intro y
    cases y with
    | leaf => exact Or.inr (Or.inl rfl)
    | inner => exact Or.inl rfl
  | inner n k v e r ihe ihr =>
    intro y
    cases y with
    | leaf => exact Or.inr (Or.inr rfl)
    | inner m k2 v2 f s =>
      rw [oc_ii]
      have a := ihe f
      have b := ihr s
      split
      · split
        · omega
        · split <;> omega
      · omega
theorem oc_eq : ∀ x y, oc x y = 0 → x = y := by
  intro x
  induction x with
  | leaf =>
    intro y h
    cases y with
    | leaf => rfl
    | inner => rw [oc_lz] at h; omega
  | inner n k v e r ihe ihr =>
    intro y h
    cases y with
    | leaf => rw [oc_zl] at h; omega
    | inner m k2 v2 f s =>
      rw [oc_ii] at h
      by_cases a : oc e f = 0
      · rw [if_pos a] at h
        by_cases b : n < m
        · rw [if_pos b] at h; omega
        · rw [if_neg b] at h
          by_cases c : m < n
          · rw [if_pos c] at h; omega
          · rw [if_neg c] at h
            rw [ihe _ a, ihr _ h, show n = m by omega]
      · rw [if_neg a] at h
        exact absurd h a
theorem oc_sw : ∀ x y, oc y x = - oc x y := by
  intro x
  induction x with
  | leaf =>
    intro y
    cases y with
    | leaf => rfl
    | inner => rfl
  | inner n k v e r ihe ihr =>
    intro y
    cases y with
    | leaf => rfl
    | inner m k2 v2 f s =>
      rw [oc_ii, oc_ii, ihe f]
      by_cases a : oc e f = 0
      · rw [if_pos a, if_pos (by omega)]
        by_cases b : n < m
        · rw [if_pos b, if_neg (by omega), if_pos b]; rfl
        · by_cases c : m < n
          · rw [if_pos c, if_neg b, if_pos c]
          · rw [if_neg c, if_neg b, if_neg b, if_neg c, ihr s]
      · rw [if_neg a, if_neg (by omega)]
theorem oc_tr : ∀ x y z, oc x y = 1 → oc y z = 1 → oc x z = 1 := by
  intro x
  induction x with
  | leaf =>
    intro y z h1 h2
    cases y with
    | leaf => have : oc .leaf .leaf = 0 := rfl; omega
    | inner => rw [oc_lz] at h1; omega
  | inner n k v e r ihe ihr =>
    intro y z h1 h2
    cases y with
    | leaf =>
      cases z with
      | leaf => rfl
      | inner => rw [oc_lz] at h2; omega
    | inner m k2 v2 f s =>
      cases z with
      | leaf => rfl
      | inner p k3 v3 g t =>
        rw [oc_ii] at h1 h2 ⊢
        by_cases a : oc e f = 0
        · have ea := oc_eq _ _ a
          subst ea
          rw [if_pos a] at h1
          by_cases b : oc e g = 0
          · rw [if_pos b] at h2 ⊢
            by_cases c : n < m
            · rw [if_pos c] at h1; omega
            · rw [if_neg c] at h1
              by_cases c2 : m < p
              · rw [if_pos c2] at h2; omega
              · rw [if_neg c2] at h2
                by_cases c3 : p < n
                · rw [if_neg (by omega), if_pos c3]
                · have e1 : m = n := by omega
                  have e2 : p = n := by omega
                  subst e1 e2
                  rw [if_neg (by omega), if_neg (by omega)]
                  rw [if_neg (by omega)] at h1 h2
                  exact ihr _ _ h1 h2
          · rw [if_neg b] at h2 ⊢
            exact h2
        · rw [if_neg a] at h1
          by_cases b : oc f g = 0
          · have eb := oc_eq _ _ b
            subst eb
            rw [if_neg a]
            exact h1
          · rw [if_neg b] at h2
            have := ihe _ _ h1 h2
            rw [if_neg (by omega)]
            exact this
theorem oc_asym {x y : O} (h : oc x y = 1) : oc y x = -1 := by rw [oc_sw x y, h]
theorem oc_m1 {x y : O} (h : oc x y = -1) : oc y x = 1 := by rw [oc_sw x y, h]; rfl
theorem oc_leaf {x : O} (h : ¬ x = .leaf) : oc x .leaf = 1 := by
  cases x with
  | leaf => exact absurd rfl h
  | inner => rfl
/-- the exponent is above all of the list's -/
def top (e : O) (l : List OP) : Prop := ∀ p ∈ l, oc e p.1 = 1
/-- falling exponents, times 1 or more -/
def srt : List OP → Prop
  | [] => True
  | p :: l => 1 ≤ p.2 ∧ top p.1 l ∧ srt l
/-- normal form, in the exponents too -/
def nf : O → Prop
  | .leaf => True
  | .inner n _ _ e r => 1 ≤ n ∧ top e (pl r) ∧ nf e ∧ nf r
theorem nf_srt : ∀ x, nf x → srt (pl x) := by
  intro x
  induction x with
  | leaf => intro _; trivial
  | inner n k v e r _ ih =>
    intro h
    exact ⟨h.1, h.2.1, ih h.2.2.2⟩
theorem nf_ex : ∀ x, nf x → ∀ p ∈ pl x, nf p.1 := by
  intro x
  induction x with
  | leaf => intro _ p hp; cases hp
  | inner n k v e r _ ih =>
    intro h p hp
    rcases List.mem_cons.mp hp with z | z
    · subst z; exact h.2.2.1
    · exact ih h.2.2.2 p z
theorem nf_mk : ∀ l, srt l → (∀ p ∈ l, nf p.1) → nf (mk l) := by
  intro l
  induction l with
  | nil => intro _ _; trivial
  | cons p l ih =>
    intro h1 h2
    refine ⟨h1.1, ?_, h2 p List.mem_cons_self, ih h1.2.2 (fun q hq => h2 q (List.mem_cons_of_mem _ hq))⟩
    rw [pl_mk]
    exact h1.2.1
theorem dep_pl : ∀ x p, p ∈ pl x → dep p.1 + 1 ≤ dep x := by
  intro x
  induction x with
  | leaf => intro p hp; cases hp
  | inner n k v e r _ ih =>
    intro p hp
    show _ ≤ max (dep e + 1) (dep r)
    rcases List.mem_cons.mp hp with z | z
    · subst z; exact Nat.le_max_left _ _
    · exact Nat.le_trans (ih p z) (Nat.le_max_right _ _)
theorem dep_le : ∀ x n, (∀ p ∈ pl x, dep p.1 + 1 ≤ n) → dep x ≤ n := by
  intro x
  induction x with
  | leaf => intro n _; exact Nat.zero_le _
  | inner m k v e r _ ih =>
    intro n h
    show max (dep e + 1) (dep r) ≤ n
    exact Nat.max_le.mpr ⟨h _ List.mem_cons_self, ih n (fun p hp => h p (List.mem_cons_of_mem _ hp))⟩
/-- of two in normal form the greater one is as deep or deeper -/
theorem dep_mono : ∀ x y, nf x → nf y → oc x y = 1 → dep y ≤ dep x := by
  intro x
  induction x with
  | leaf =>
    intro y _ _ h
    cases y with
    | leaf => exact Nat.le_refl _
    | inner => rw [oc_lz] at h; omega
  | inner n k v e r ihe ihr =>
    intro y hx hy h
    cases y with
    | leaf => exact Nat.zero_le _
    | inner m k2 v2 f s =>
      rw [oc_ii] at h
      have hf : dep f ≤ dep e := by
        by_cases a : oc e f = 0
        · rw [oc_eq _ _ a]; exact Nat.le_refl _
        · rw [if_neg a] at h
          exact ihe f hx.2.2.1 hy.2.2.1 h
      refine dep_le _ _ (fun p hp => ?_)
      have h1 : dep e + 1 ≤ dep (Std.DTreeMap.Internal.Impl.inner n k v e r : O) := dep_pl _ (e, n) List.mem_cons_self
      rcases List.mem_cons.mp hp with z | z
      · subst z
        show dep f + 1 ≤ _
        omega
      · have h2 := hy.2.1 p z
        by_cases a : oc e f = 0
        · have ea := oc_eq _ _ a
          subst ea
          have := ihe p.1 hx.2.2.1 (nf_ex _ hy.2.2.2 p z) h2
          omega
        · rw [if_neg a] at h
          have := ihe p.1 hx.2.2.1 (nf_ex _ hy.2.2.2 p z) (oc_tr _ _ _ h h2)
          omega
/-- may be laid: few powers, few times, not too deep -/
def okm (x : O) : Prop := (pl x).length ≤ 8 ∧ (∀ p ∈ pl x, p.2 ≤ 1000000) ∧ dep x ≤ 5
/-- is laid -/
def gd (x : O) : Prop := nf x ∧ okm x
