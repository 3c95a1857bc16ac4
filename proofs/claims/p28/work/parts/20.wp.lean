/-! ===== layer 2: what a run of the toy does, by steps (for proofs about the methods) ===== -/
abbrev XHs : Type := List (Nat × Nat × Nat × Nat × Nat × Nat)
theorem xrun_up : ∀ (d1 d2 F1 F2 j : Nat) (as : List Value) (h : XH) (r : XO × XH), d1 ≤ d2 → F1 ≤ F2 → xrun F1 d1 j as h = some r → xrun F2 d2 j as h = some r := by
  intro d1
  induction d1 with
  | zero => intro d2 F1 F2 j as h r _ _ e; cases e
  | succ d1 ih =>
    intro d2 F1 F2 j as h r hd hF e
    obtain ⟨d3, rfl⟩ : ∃ d3, d2 = d3 + 1 := ⟨d2 - 1, by omega⟩
    simp only [xrun] at e ⊢
    split at e
    · rename_i hent
      rw [if_pos hent]
      exact xex_up (fun j as h r z => ih d3 F1 F2 j as h r (by omega) hF z) _ _ _ _ _ hF e
    · cases e
/-- from the frame on the run ends, and so that P -/
def Ex (d : Nat) (hs : XHs) (tb : List (Option XI)) (fr : XF) (h : XH) (P : XO → XH → Prop) : Prop := ∃ (o : XO) (h2 : XH) (F : Nat), P o h2 ∧ xex (xrun F d) hs tb F fr h = some (o, h2)
/-- the call ends, and so that P -/
def Tr (d j : Nat) (as : List Value) (h : XH) (P : XO → XH → Prop) : Prop := ∃ (o : XO) (h2 : XH) (F : Nat), P o h2 ∧ xrun F d j as h = some (o, h2)
/-- after a step -/
def Rs (d : Nat) (hs : XHs) (tb : List (Option XI)) (r : Option XR) (P : XO → XH → Prop) : Prop := match r with
  | some (.inl (fr, h)) => Ex d hs tb fr h P
  | some (.inr (o, h)) => P o h
  | none => False
theorem Tr.mono {d e j : Nat} {as : List Value} {h : XH} {P Q : XO → XH → Prop} (H : Tr d j as h P) (hd : d ≤ e) (hp : ∀ o h2, P o h2 → Q o h2) : Tr e j as h Q := by
  obtain ⟨o, h2, F, h3, h4⟩ := H
  exact ⟨o, h2, F, hp _ _ h3, xrun_up _ _ _ _ _ _ _ _ hd (Nat.le_refl _) h4⟩
theorem Ex.mono {d e : Nat} {hs : XHs} {tb : List (Option XI)} {fr : XF} {h : XH} {P Q : XO → XH → Prop} (H : Ex d hs tb fr h P) (hd : d ≤ e) (hp : ∀ o h2, P o h2 → Q o h2) : Ex e hs tb fr h Q := by
  obtain ⟨o, h2, F, h3, h4⟩ := H
  exact ⟨o, h2, F, hp _ _ h3, xex_up (fun j as h r z => xrun_up _ _ _ _ _ _ _ _ hd (Nat.le_refl _) z) _ _ _ _ _ (Nat.le_refl _) h4⟩
theorem Tr.of {d j : Nat} {as : List Value} {h : XH} {P : XO → XH → Prop} (h1 : (x_args as).length ≤ xml j ∧ x_nod as = true) (H : Ex d (xhs j) (xtb j) (0, x_entry as (xml j), []) h P) : Tr (d + 1) j as h P := by
  obtain ⟨o, h2, F, h3, h4⟩ := H
  refine ⟨o, h2, F, h3, ?_⟩
  simp only [xrun]
  rw [if_pos h1]
  exact h4
/-- one step, which asks no callee -/
theorem Ex.st {d : Nat} {hs : XHs} {tb : List (Option XI)} {fr : XF} {h : XH} {P : XO → XH → Prop} {r : Option XR} (h1 : ∀ c, xstp c hs tb fr h = r) (H : Rs d hs tb r P) : Ex d hs tb fr h P := by
  match r, H with
  | some (.inl (fr2, h2)), H =>
    obtain ⟨o, h3, F, hp, e⟩ := H
    refine ⟨o, h3, F + 1, hp, ?_⟩
    simp only [xex]
    rw [h1]
    exact xex_up (fun j as h r z => xrun_up _ _ _ _ _ _ _ _ (Nat.le_refl _) (by omega) z) _ _ _ _ _ (Nat.le_refl _) e
  | some (.inr (o, h2)), H =>
    refine ⟨o, h2, 1, H, ?_⟩
    simp only [xex]
    rw [h1]
/-- one step, which asks the callee j -/
theorem Ex.ask {d : Nat} {hs : XHs} {tb : List (Option XI)} {pc : Nat} {L : XL} {st rest : List Value} {h : XH} {P Q : XO → XH → Prop} {j : Nat} {as : List Value} (h1 : ∀ c, xstp c hs tb (pc, L, st) h = x_back hs pc L rest (c j as h)) (h2 : Tr d j as h Q) (H : ∀ o h3, Q o h3 → Rs d hs tb (x_back hs pc L rest (some (o, h3))) P) : Ex d hs tb (pc, L, st) h P := by
  obtain ⟨o, h3, F, hq, e⟩ := h2
  have H2 := H o h3 hq
  generalize hr : x_back hs pc L rest (some (o, h3)) = r at H2
  match r, H2 with
  | some (.inl (fr2, h4)), H2 =>
    obtain ⟨o2, h5, F2, hp, e2⟩ := H2
    refine ⟨o2, h5, F + F2 + 1, hp, ?_⟩
    simp only [xex]
    rw [h1, xrun_up d d F (F + F2 + 1) j as h _ (Nat.le_refl _) (by omega) e, hr]
    exact xex_up (fun j as h r z => xrun_up _ _ _ _ _ _ _ _ (Nat.le_refl _) (by omega) z) _ _ _ _ _ (by omega) e2
  | some (.inr (o2, h4)), H2 =>
    refine ⟨o2, h4, F + 1, H2, ?_⟩
    simp only [xex]
    rw [h1, xrun_up d d F (F + 1) j as h _ (Nat.le_refl _) (by omega) e, hr]
/-- n steps that touch no heap -/
def xpn (tb : List (Option XI)) : Nat → XF → Option XF
  | 0, fr => some fr
  | n + 1, fr => match tb[fr.1]? with
    | some (some (ins, a, _, _, v, w)) => (match xpure fr.1 ins a v w fr.2.1 fr.2.2 with
      | some fr2 => xpn tb n fr2
      | none => none)
    | _ => none
theorem Ex.pure {d : Nat} {hs : XHs} {tb : List (Option XI)} {h : XH} {P : XO → XH → Prop} {fr2 : XF} : ∀ (n : Nat) {fr : XF}, xpn tb n fr = some fr2 → Ex d hs tb fr2 h P → Ex d hs tb fr h P := by
  intro n
  induction n with
  | zero => intro fr e H; cases e; exact H
  | succ n ih =>
    intro fr e H
    simp only [xpn] at e
    split at e
    · rename_i ins a b c v w ht
      split at e
      · rename_i fr3 hp
        refine Ex.st (r := some (.inl (fr3, h))) (fun c2 => ?_) (ih e H)
        unfold xstp
        rw [ht]
        dsimp only
        rw [hp]
      · cases e
    · cases e
/-- a branch: what the test says decides -/
theorem Ex.br {d : Nat} {hs : XHs} {tb : List (Option XI)} {fr x y : XF} {h : XH} {P : XO → XH → Prop} {b : Prop} [Decidable b] (e : xpn tb 1 fr = some (if b then x else y)) (H1 : b → Ex d hs tb x h P) (H2 : ¬ b → Ex d hs tb y h P) : Ex d hs tb fr h P := by
  refine Ex.pure 1 e ?_
  by_cases hb : b
  · rw [if_pos hb]
    exact H1 hb
  · rw [if_neg hb]
    exact H2 hb
