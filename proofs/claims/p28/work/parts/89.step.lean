/-! ===== of loop, what p28 needs ===== -/
/-- a call's outcome, by its number -/
noncomputable def fO (j : Nat) (a b c e f g : Int32) (S : XS) : XC := match j with
  | 0 => f_kind a S
  | 1 => f_clear a S
  | 2 => f_finite a b S
  | 3 => f_omega a b S
  | 4 => f_number a b c S
  | 5 => f_signs a b c S
  | 6 => f_term a b c e f g S
  | 7 => f_sum a b c S
  | 8 => f_product a b c S
  | 9 => f_difference a b c S
  | 10 => f_natural a b c e S
  | 11 => f_derive a b S
  | 12 => f_compare a b S
  | 13 => f_step a b c S
  | 14 => f_descent a b c S
  | 15 => f_powers a S
  | 16 => f_times a b S
  | 17 => f_exponent a b c S
  | 18 => f_cut a b c S
  | 19 => f_birthday a S
  | 20 => f_signOf a b S
  | 21 => f_parts a S
  | 22 => f_tends a S
  | 23 => f_terms a S
  | 24 => f_part a b c S
  | _ => (0, 0, S)
def stepO (S : XS) (o : XC) : Prop := ∃ (j : Nat) (a b c e f g : Int32), j < 25 ∧ o = fO j a b c e f g S
def S_0 : XS := (fun _ => 0, fun _ => .leaf, fun _ => 0, fun _ => [])
theorem VA_0 : VA S_0 := ⟨fun p _ w => absurd w (by show ¬ (0 : Int32) = 2; decide), fun p _ w => absurd w (by show ¬ (0 : Int32) = 3; decide), fun _ _ => Or.inl rfl⟩
/-- good, and so is all in it -/
def hgd (x : O) : Prop := gd x ∧ ∀ e, inS x e → gd e
