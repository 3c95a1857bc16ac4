/-! ===== of mod13, what p28 needs ===== -/
/-- f steps on, from the s-th -/
def itr (n : Nat) : Nat → Nat → O → O
  | 0, _, x => x
  | f + 1, s, x => itr n f (s + 1) (stpF (n + s) 5 x)
section
variable {d : Nat} {h : XH} {y : Nat → Nat} {m : Nat} {ov T : Nat → O} {K : XK} {E : XE}
end
