/-! ===== layer 2: contracts of the class's ordinals: the natural product, steps ===== -/
def nmRow (e : O) (n : Nat) : List OP → List OP → List OP
  | [], P => P
  | (f, m) :: B, P => nmRow e n B (ins (naO e f) (n * m) P)
def nmL : List OP → List OP → List OP → List OP
  | [], _, P => P
  | (e, n) :: A, B, P => nmL A B (nmRow e n B P)
def nmO (x y : O) : O := mk (nmL (pl x) (pl y) [])
def nmok (x y : O) : Prop := (∀ p ∈ pl x, ∀ q ∈ pl y, okm (naO p.1 q.1)) ∧ okm (nmO x y)
theorem ins_le {e : O} {n B : Nat} : ∀ {P : List OP}, (∀ p ∈ P, p.2 ≤ B) → ∀ p ∈ ins e n P, p.2 ≤ B + n := by
  intro P
  induction P with
  | nil => intro _ p hp; rw [List.mem_singleton.mp hp]; exact Nat.le_add_left _ _
  | cons q P ih =>
    intro h p hp
    unfold ins at hp
    split at hp
    · rcases List.mem_cons.mp hp with z | z
      · rw [z]; exact Nat.le_trans (h q List.mem_cons_self) (Nat.le_add_right _ _)
      · exact ih (fun r hr => h r (List.mem_cons_of_mem _ hr)) p z
    · split at hp
      · rcases List.mem_cons.mp hp with z | z
        · rw [z]; exact Nat.add_le_add_right (h q List.mem_cons_self) n
        · exact Nat.le_trans (h p (List.mem_cons_of_mem _ z)) (Nat.le_add_right _ _)
      · rcases List.mem_cons.mp hp with z | z
        · rw [z]; exact Nat.le_add_left _ _
        · exact Nat.le_trans (h p z) (Nat.le_add_right _ _)
theorem ins_len {e : O} {n : Nat} : ∀ {P : List OP}, P.length ≤ (ins e n P).length ∧ (ins e n P).length ≤ P.length + 1 := by
  intro P
  induction P with
  | nil => exact ⟨Nat.zero_le _, Nat.le_refl _⟩
  | cons q P ih =>
    unfold ins
    split
    · rw [List.length_cons, List.length_cons]; omega
    · split
      · rw [List.length_cons, List.length_cons]; omega
      · rw [List.length_cons, List.length_cons, List.length_cons]; omega
/-- less by some of the last power -/
def lsL (A : List OP) (l : Nat) : List OP := A.take (A.length - 1) ++ (match A[A.length - 1]? with
  | some (e, n) => if l < n then [(e, n - l)] else []
  | none => [])
theorem lsL_eq {A : List OP} {l : Nat} {e : O} {n : Nat} (h : A[A.length - 1]? = some (e, n)) : lsL A l = A.take (A.length - 1) ++ (if l < n then [(e, n - l)] else []) := by
  unfold lsL
  rw [h]
theorem last_eq {A : List OP} {p : OP} (h : A[A.length - 1]? = some p) : A = A.take (A.length - 1) ++ [p] := by
  have h1 := (List.getElem?_eq_some_iff.mp h).1
  rw [← takec h, show A.length - 1 + 1 = A.length by omega, List.take_length]
theorem srt_app {A B : List OP} : srt (A ++ B) ↔ srt A ∧ srt B ∧ ∀ p ∈ A, top p.1 B := by
  induction A with
  | nil => exact ⟨fun h => ⟨trivial, h, fun p hp => absurd hp List.not_mem_nil⟩, fun h => h.2.1⟩
  | cons q A ih =>
    constructor
    · intro h
      have h2 := ih.mp h.2.2
      have h3 := top_app.mp h.2.1
      refine ⟨⟨h.1, h3.1, h2.1⟩, h2.2.1, fun p hp => ?_⟩
      rcases List.mem_cons.mp hp with z | z
      · rw [z]; exact h3.2
      · exact h2.2.2 p z
    · rintro ⟨h1, h2, h3⟩
      exact ⟨h1.1, top_app.mpr ⟨h1.2.1, h3 q List.mem_cons_self⟩, ih.mpr ⟨h1.2.2, h2, fun p hp => h3 p (List.mem_cons_of_mem _ hp)⟩⟩
/-- the step of an ordinal by n, lv levels deep -/
def stpF (n : Nat) : Nat → O → O
  | 0, _ => .leaf
  | lv + 1, x => match (pl x)[(pl x).length - 1]? with
    | none => .leaf
    | some p => mk (lsL (pl x) 1 ++ (if oc p.1 .leaf = 0 then [] else [(stpF n lv p.1, if 0 < tl (pl p.1) then n else 1)]))
/-- what is made by it, at all levels, fits -/
def stpok (n : Nat) : Nat → O → Prop
  | 0, _ => True
  | lv + 1, x => match (pl x)[(pl x).length - 1]? with
    | none => True
    | some p => stpok n lv p.1 ∧ okm (stpF n (lv + 1) x)
theorem stpF_eq {n lv : Nat} {x : O} {p : OP} (h : (pl x)[(pl x).length - 1]? = some p) : stpF n (lv + 1) x = mk (lsL (pl x) 1 ++ (if oc p.1 .leaf = 0 then [] else [(stpF n lv p.1, if 0 < tl (pl p.1) then n else 1)])) := by
  show (match (pl x)[(pl x).length - 1]? with
    | none => Std.DTreeMap.Internal.Impl.leaf
    | some p => mk (lsL (pl x) 1 ++ (if oc p.1 .leaf = 0 then [] else [(stpF n lv p.1, if 0 < tl (pl p.1) then n else 1)]))) = _
  rw [h]
theorem stpok_eq {n lv : Nat} {x : O} {p : OP} (h : (pl x)[(pl x).length - 1]? = some p) : stpok n (lv + 1) x = (stpok n lv p.1 ∧ okm (stpF n (lv + 1) x)) := by
  show (match (pl x)[(pl x).length - 1]? with
    | none => True
    | some p => stpok n lv p.1 ∧ okm (stpF n (lv + 1) x)) = _
  rw [h]
theorem stp_leaf (n lv : Nat) : stpF n lv .leaf = .leaf ∧ stpok n lv .leaf := by
  cases lv with
  | zero => exact ⟨rfl, trivial⟩
  | succ lv => exact ⟨rfl, trivial⟩
theorem srt_ls {A : List OP} {l : Nat} (h : srt A) : srt (lsL A l) ∧ ∀ p ∈ lsL A l, ∃ q ∈ A, q.1 = p.1 ∧ p.2 ≤ q.2 := by
  by_cases hA : A = []
  · subst hA
    exact ⟨trivial, fun p hp => absurd hp List.not_mem_nil⟩
  · have hl : A.length - 1 < A.length := by
      have h0 : A.length ≠ 0 := fun z => hA (List.eq_nil_of_length_eq_zero z)
      omega
    obtain ⟨e, n, g⟩ := getc hl
    have hs := h
    rw [last_eq g] at hs
    have hs2 := srt_app.mp hs
    rw [lsL_eq g]
    have mem : (e, n) ∈ A := List.mem_of_getElem? g
    constructor
    · refine srt_app.mpr ⟨hs2.1, ?_, fun p hp => ?_⟩
      · split
        · exact ⟨by omega, top_nil _, trivial⟩
        · trivial
      · split
        · exact top_cons.mpr ⟨(hs2.2.2 p hp) (e, n) List.mem_cons_self, top_nil _⟩
        · exact top_nil _
    · intro p hp
      rcases List.mem_append.mp hp with z | z
      · exact ⟨p, List.mem_of_mem_take z, rfl, Nat.le_refl _⟩
      · split at z
        · rw [List.mem_singleton.mp z]
          exact ⟨(e, n), mem, rfl, Nat.sub_le _ _⟩
        · exact absurd z List.not_mem_nil
theorem lsL_len (A : List OP) (l : Nat) : (lsL A l).length ≤ A.length := by
  by_cases hA : A = []
  · subst hA; exact Nat.le_refl _
  · have hl : A.length - 1 < A.length := by
      have h0 : A.length ≠ 0 := fun z => hA (List.eq_nil_of_length_eq_zero z)
      omega
    obtain ⟨e, n, g⟩ := getc hl
    rw [lsL_eq g, List.length_append, List.length_take]
    split
    · simp only [List.length_singleton]; omega
    · simp only [List.length_nil]; omega
theorem gd_ls {x : O} (l : Nat) (h : gd x) : gd (mk (lsL (pl x) l)) := by
  obtain ⟨h1, h2, h3, h4⟩ := h
  have s := srt_ls (l := l) (nf_srt _ h1)
  refine ⟨nf_mk _ s.1 (fun p hp => ?_), ?_, ?_, ?_⟩
  · obtain ⟨q, q1, q2, -⟩ := s.2 p hp
    rw [← q2]
    exact nf_ex _ h1 q q1
  · rw [pl_mk]
    have := lsL_len (pl x) l
    omega
  · rw [pl_mk]
    intro p hp
    obtain ⟨q, q1, q2, q3⟩ := s.2 p hp
    have := h3 q q1
    omega
  · refine dep_le _ _ (fun p hp => ?_)
    rw [pl_mk] at hp
    obtain ⟨q, q1, q2, -⟩ := s.2 p hp
    have := dep_pl _ q q1
    rw [← q2]
    omega
/-- the step is less, and in normal form -/
theorem stp_lt (n : Nat) (hn : 1 ≤ n) : ∀ (lv : Nat) (x : O), dep x ≤ lv → nf x → nf (stpF n lv x) ∧ (¬ x = .leaf → oc x (stpF n lv x) = 1) := by
  intro lv
  induction lv with
  | zero =>
    intro x hx _
    exact ⟨trivial, fun z => absurd (dep_z (by omega)) z⟩
  | succ lv ih =>
    intro x hx hnf
    by_cases hl : x = .leaf
    · subst hl
      exact ⟨trivial, fun z => absurd rfl z⟩
    · obtain ⟨e0, n0, r0, h0⟩ := pl_cons hl
      have hlen : (pl x).length - 1 < (pl x).length := by rw [h0, List.length_cons]; omega
      obtain ⟨e, t, g⟩ := getc hlen
      have mem : (e, t) ∈ pl x := List.mem_of_getElem? g
      have hde : dep e + 1 ≤ dep x := dep_pl _ _ mem
      have hne := nf_ex _ hnf _ mem
      obtain ⟨i1, i2⟩ := ih e (by omega) hne
      have hs := nf_srt _ hnf
      have hap := last_eq g
      have hs' := hs
      rw [hap] at hs'
      have hs2 := srt_app.mp hs'
      have ht : 1 ≤ t := hs2.2.1.1
      rw [stpF_eq g, lsL_eq g]
      have hz : oc e .leaf = 0 ↔ e = .leaf := ⟨fun z => oc_eq _ _ z, fun z => by rw [z]; rfl⟩
      constructor
      · refine nf_mk _ ?_ ?_
        · rw [List.append_assoc]
          refine srt_app.mpr ⟨hs2.1, ?_, fun p hp => ?_⟩
          · refine srt_app.mpr ⟨?_, ?_, fun p hp => ?_⟩
            · split
              · exact ⟨by omega, top_nil _, trivial⟩
              · trivial
            · split
              · trivial
              · exact ⟨by show 1 ≤ (if _ then n else 1); split <;> omega, top_nil _, trivial⟩
            · split at hp
              · rw [List.mem_singleton.mp hp]
                split
                · exact top_nil _
                · exact top_cons.mpr ⟨i2 (fun w => ‹¬ oc e .leaf = 0› (hz.mpr w)), top_nil _⟩
              · exact absurd hp List.not_mem_nil
          · have h1 : oc p.1 e = 1 := (hs2.2.2 p hp) (e, t) List.mem_cons_self
            refine top_app.mpr ⟨?_, ?_⟩
            · split
              · exact top_cons.mpr ⟨h1, top_nil _⟩
              · exact top_nil _
            · split
              · exact top_nil _
              · exact top_cons.mpr ⟨oc_tr _ _ _ h1 (i2 (fun w => ‹¬ oc e .leaf = 0› (hz.mpr w))), top_nil _⟩
        · intro p hp
          rcases List.mem_append.mp hp with z | z
          · rcases List.mem_append.mp z with w | w
            · exact nf_ex _ hnf p (List.mem_of_mem_take w)
            · split at w
              · rw [List.mem_singleton.mp w]; exact hne
              · exact absurd w List.not_mem_nil
          · split at z
            · exact absurd z List.not_mem_nil
            · rw [List.mem_singleton.mp z]; exact i1
      · intro _
        rw [ocL_pl, pl_mk, List.append_assoc]
        have e1 : ocL (pl x) ((pl x).take ((pl x).length - 1) ++ ((if 1 < t then [(e, t - 1)] else []) ++ (if oc e .leaf = 0 then [] else [(stpF n lv e, if 0 < tl (pl e) then n else 1)]))) = ocL ((pl x).take ((pl x).length - 1) ++ [(e, t)]) ((pl x).take ((pl x).length - 1) ++ ((if 1 < t then [(e, t - 1)] else []) ++ (if oc e .leaf = 0 then [] else [(stpF n lv e, if 0 < tl (pl e) then n else 1)]))) := by
          rw [← hap]
        rw [e1, ocL_pre]
        by_cases h1 : 1 < t
        · rw [if_pos h1]
          exact ocL_tm (by omega)
        · rw [if_neg h1, List.nil_append]
          by_cases h2 : oc e .leaf = 0
          · rw [if_pos h2]; rfl
          · rw [if_neg h2]
            exact ocL_hd (i2 (fun w => h2 (hz.mpr w)))
