/-! ===== layer 2: the script's array stays what it is ===== -/
def x_ty (h0 h : XH) : Prop := ∀ (q n : Nat), h0.1[q]? = some (5, n, []) → h.1[q]? = some (5, n, [])
theorem x_ty.rf (h : XH) : x_ty h h := fun _ _ z => z
theorem x_ty.tr {h0 h1 h2 : XH} (a : x_ty h0 h1) (b : x_ty h1 h2) : x_ty h0 h2 := fun q n z => b q n (a q n z)
theorem x_ty_new (h : XH) (t : XT) (z : Nat) : x_ty h (x_new h t z) := fun q n w => by
  show (h.1 ++ [t])[q]? = _
  rw [List.getElem?_append_left (List.getElem?_eq_some_iff.mp w).1]
  exact w
theorem x_ty_setT {h : XH} {q k a : Nat} {rs : List (Option Nat)} (t : XT) (hq : h.1[q]? = some (k, a, rs)) (hk : k ≠ 5) : x_ty h (x_setT h q t) := fun r n w => by
  have hne : q ≠ r := fun z => by
    rw [← z, hq] at w
    injection w with w
    injection w with w _
    exact hk w
  show (h.1.set q t)[r]? = _
  rw [List.getElem?_set_ne hne]
  exact w
theorem x_go_ty {pc : Nat} {L : XL} {st : List Value} {h0 h : XH} {r : XR} (hl : x_ty h0 h) (e : x_go pc L st h = some r) : x_ty h0 (x_of r) := by
  cases e
  exact hl
theorem x_back_ty {call : Nat → List Value → XH → Option (XO × XH)} (hc : ∀ j as h o h2, call j as h = some (o, h2) → x_ty h h2) {hs : List (Nat × Nat × Nat × Nat × Nat × Nat)} {pc : Nat} {L : XL} {rest : List Value} {j : Nat} {as : List Value} {h : XH} {r : XR} (e : x_back hs pc L rest (call j as h) = some r) : x_ty h (x_of r) := by
  cases hr : call j as h with
  | none => rw [hr] at e; cases e
  | some y =>
    obtain ⟨o, h2⟩ := y
    have hl := hc _ _ _ _ _ hr
    rw [hr] at e
    cases o with
    | inl v => exact x_go_ty hl e
    | inr ex =>
      simp only [x_back] at e
      cases hh : x_hand hs pc ex with
      | none =>
        rw [hh] at e
        cases hs with
        | nil => cases e; exact hl
        | cons x xs => cases e
      | some y =>
        rw [hh] at e
        obtain ⟨p2, k⟩ := y
        dsimp only at e
        split at e
        · exact x_go_ty hl e
        · cases e
theorem xinvS_ty {call : Nat → List Value → XH → Option (XO × XH)} (hc : ∀ j as h o h2, call j as h = some (o, h2) → x_ty h h2) {hs : List (Nat × Nat × Nat × Nat × Nat × Nat)} {pc : Nat} {a b c : Nat} {L : XL} {st : List Value} {h : XH} {r : XR} (e : xinvS call hs pc a b c L st h = some r) : x_ty h (x_of r) := by
  unfold xinvS at e
  repeat' split at e
  all_goals first
    | (cases e; done)
    | exact x_back_ty hc e
    | exact x_go_ty (x_ty.rf _) e
    | exact x_go_ty (h0 := h) (h := x_copy h _ _ _) (fun _ _ z => z) e
theorem xinvV_ty {call : Nat → List Value → XH → Option (XO × XH)} (hc : ∀ j as h o h2, call j as h = some (o, h2) → x_ty h h2) {hs : List (Nat × Nat × Nat × Nat × Nat × Nat)} {pc : Nat} {a b c : Nat} {L : XL} {st : List Value} {h : XH} {r : XR} (e : xinvV call hs pc a b c L st h = some r) : x_ty h (x_of r) := by
  unfold xinvV at e
  repeat' split at e
  all_goals first
    | (cases e; done)
    | exact x_back_ty hc e
theorem xinvI_ty {call : Nat → List Value → XH → Option (XO × XH)} (hc : ∀ j as h o h2, call j as h = some (o, h2) → x_ty h h2) {hs : List (Nat × Nat × Nat × Nat × Nat × Nat)} {pc : Nat} {a b c : Nat} {L : XL} {st : List Value} {h : XH} {r : XR} (e : xinvI call hs pc a b c L st h = some r) : x_ty h (x_of r) := by
  unfold xinvI at e
  repeat' split at e
  all_goals first
    | (cases e; done)
    | exact x_back_ty hc e
    | exact x_go_ty (x_ty.rf _) e
set_option maxHeartbeats 4000000 in
theorem xmem_ty {pc : Nat} {ins : Instr} {a b c : Nat} {L : XL} {st : List Value} {h : XH} {r : XR} (e : xmem pc ins a b c L st h = some r) : x_ty h (x_of r) := by
  unfold xmem at e
  repeat' split at e
  all_goals first
    | (cases e; done)
    | exact x_go_ty (x_ty.rf _) e
    | exact x_go_ty (x_ty_new _ _ _) e
    | (refine x_go_ty (x_ty_setT _ (by assumption) (show (0 : Nat) ≠ 5 by decide)) e)
    | (refine x_go_ty (x_ty_setT _ (by assumption) (show (3 : Nat) ≠ 5 by decide)) e)
    | (cases e; exact x_ty.rf _)
    | (cases e; exact x_ty_new _ _ _)
theorem xeff_ty {call : Nat → List Value → XH → Option (XO × XH)} (hc : ∀ j as h o h2, call j as h = some (o, h2) → x_ty h h2) {hs : List (Nat × Nat × Nat × Nat × Nat × Nat)} {pc : Nat} {ins : Instr} {a b c : Nat} {L : XL} {st : List Value} {h : XH} {r : XR} (e : xeff call hs pc ins a b c L st h = some r) : x_ty h (x_of r) := by
  unfold xeff at e
  split at e
  · exact xinvS_ty hc e
  · exact xinvV_ty hc e
  · exact xinvI_ty hc e
  · exact xmem_ty e
theorem xstp_ty {call : Nat → List Value → XH → Option (XO × XH)} (hc : ∀ j as h o h2, call j as h = some (o, h2) → x_ty h h2) {hs : List (Nat × Nat × Nat × Nat × Nat × Nat)} {tb : List (Option XI)} {fr : XF} {h : XH} {r : XR} (e : xstp call hs tb fr h = some r) : x_ty h (x_of r) := by
  unfold xstp at e
  repeat' split at e
  · cases e
    exact x_ty.rf _
  · exact xeff_ty hc e
  · cases e
theorem xex_ty {call : Nat → List Value → XH → Option (XO × XH)} (hc : ∀ j as h o h2, call j as h = some (o, h2) → x_ty h h2) {hs : List (Nat × Nat × Nat × Nat × Nat × Nat)} {tb : List (Option XI)} : ∀ (f : Nat) (fr : XF) (h : XH) (o : XO) (h2 : XH), xex call hs tb f fr h = some (o, h2) → x_ty h h2 := by
  intro f
  induction f with
  | zero => intro fr h o h2 e; cases e
  | succ f ih =>
    intro fr h o h2 e
    simp only [xex] at e
    split at e
    · rename_i fr2 h3 es
      exact (xstp_ty hc es).tr (ih _ _ _ _ e)
    · rename_i r es
      cases e
      exact xstp_ty hc es
    · cases e
theorem xrun_ty (F : Nat) : ∀ (d j : Nat) (as : List Value) (h : XH) (o : XO) (h2 : XH), xrun F d j as h = some (o, h2) → x_ty h h2 := by
  intro d
  induction d with
  | zero => intro j as h o h2 e; cases e
  | succ d ih =>
    intro j as h o h2 e
    simp only [xrun] at e
    split at e
    · exact xex_ty ih _ _ _ _ _ e
    · cases e
theorem Ca.ty {d j : Nat} {as : List Value} {h : XH} {K : XK} {E : XE} (H : Ca d j as h K E) : Ca d j as h (fun v h2 => x_ty h h2 ∧ K v h2) (fun e h2 => x_ty h h2 ∧ E e h2) := by
  obtain ⟨o, h2, F, p, e⟩ := H
  refine ⟨o, h2, F, ?_, e⟩
  have t := xrun_ty F d j as h o h2 e
  cases o with
  | inl v => exact ⟨t, p⟩
  | inr x => exact ⟨t, p⟩
