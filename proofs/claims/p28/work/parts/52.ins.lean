/-! ===== of mod10, what p28 needs ===== -/
/-- y stands in x, at any depth -/
def inS : O → O → Prop
  | .leaf => fun _ => False
  | .inner _ _ _ e r => fun y => y = e ∨ inS e y ∨ inS r y
section
variable {d : Nat} {h : XH} {y : Nat → Nat} {m : Nat} {ov : Nat → O} {K : XK} {E : XE}
end
