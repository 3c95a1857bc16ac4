/-! ===== of main1, what p28 needs ===== -/
/-- the exponents of exp x, x, log x, log log x -/
abbrev GE : Type := Int × Int × Int × Int
/-- a growth: its parts, each with its times -/
abbrev GL : Type := List (GE × Int)
/-- what places hold: kinds; ordinals, numbers, growths -/
abbrev XS : Type := (Nat → Int32) × (Nat → O) × (Nat → Int) × (Nat → GL)
/-- the model's figure of four exponents -/
def gmk (e : GE) : Int := 12928480800 + (e.1 * 64481201 + e.2.1 * 160801 + e.2.2.1 * 401 + e.2.2.2)
/-- what is returned: nothing, an int, a long; v, if z -/
def rvT (t : Nat) (z : Prop) (v : Int) (rv : Option Value) : Prop := match t with
  | 0 => rv = none
  | 1 => ∃ r : Int32, rv = some (.int r) ∧ (z → r.toInt = v)
  | _ => ∃ r : Int64, rv = some (.long r) ∧ (z → r.toInt = v)
/-- a call's outcome: its status, what it answers, what places hold -/
abbrev XC : Type := Nat × Int × XS
noncomputable def ouif {α : Type} (c : Prop) (x z : α) : α := @ite α c (Classical.propDecidable c) x z
theorem ouif_t {α : Type} {c : Prop} {x z : α} (h : c) : ouif c x z = x := if_pos h
theorem ouif_f {α : Type} {c : Prop} {x z : α} (h : ¬ c) : ouif c x z = z := if_neg h
/-- status 1 if not c1, 2 if not c2 -/
noncomputable def out2 (c1 c2 : Prop) (v : Int) (S S2 : XS) : XC := ouif c1 (ouif c2 (0, v, S2) (2, 0, S)) (1, 0, S)
noncomputable def out3 (c1 c2 c3 : Prop) (v : Int) (S S2 : XS) : XC := ouif c1 (ouif c2 (ouif c3 (0, v, S2) (3, 0, S)) (2, 0, S)) (1, 0, S)
theorem out2_0 {c1 c2 : Prop} {v : Int} {S S2 : XS} (a : c1) (b : c2) : out2 c1 c2 v S S2 = (0, v, S2) := by rw [out2, ouif_t a, ouif_t b]
theorem out2_1 {c1 c2 : Prop} {v : Int} {S S2 : XS} (a : ¬ c1) : out2 c1 c2 v S S2 = (1, 0, S) := by rw [out2, ouif_f a]
theorem out2_2 {c1 c2 : Prop} {v : Int} {S S2 : XS} (a : c1) (b : ¬ c2) : out2 c1 c2 v S S2 = (2, 0, S) := by rw [out2, ouif_t a, ouif_f b]
theorem out3_0 {c1 c2 c3 : Prop} {v : Int} {S S2 : XS} (a : c1) (b : c2) (c : c3) : out3 c1 c2 c3 v S S2 = (0, v, S2) := by rw [out3, ouif_t a, ouif_t b, ouif_t c]
theorem out3_1 {c1 c2 c3 : Prop} {v : Int} {S S2 : XS} (a : ¬ c1) : out3 c1 c2 c3 v S S2 = (1, 0, S) := by rw [out3, ouif_f a]
theorem out3_2 {c1 c2 c3 : Prop} {v : Int} {S S2 : XS} (a : c1) (b : ¬ c2) : out3 c1 c2 c3 v S S2 = (2, 0, S) := by rw [out3, ouif_t a, ouif_f b]
theorem out3_3 {c1 c2 c3 : Prop} {v : Int} {S S2 : XS} (a : c1) (b : c2) (c : ¬ c3) : out3 c1 c2 c3 v S S2 = (3, 0, S) := by rw [out3, ouif_t a, ouif_t b, ouif_f c]
def sK (S : XS) (p : Nat) (v : Int32) : XS := (upw S.1 p v, S.2.1, S.2.2.1, S.2.2.2)
def sO (S : XS) (p : Nat) (x : O) : XS := (upw S.1 p 1, upw S.2.1 p x, S.2.2.1, S.2.2.2)
def sN (S : XS) (p : Nat) (z : Int) : XS := (upw S.1 p 2, S.2.1, upw S.2.2.1 p z, S.2.2.2)
def sG (S : XS) (p : Nat) (L : GL) : XS := (upw S.1 p 3, S.2.1, S.2.2.1, upw S.2.2.2 p L)
theorem upw_e {α : Type} (f : Nat → α) (p : Nat) (x : α) : upw f p x p = x := if_pos rfl
theorem upw_n {α : Type} (f : Nat → α) {p q : Nat} (x : α) (h : q ≠ p) : upw f p x q = f q := if_neg h
/-- the place's number -/
abbrev pN (a : Int32) : Nat := a.toInt.toNat
theorem isp_p {a : Int32} (h : isp a) : a.toInt = pN a ∧ pN a < 16 := by
  obtain ⟨h1, h2⟩ := h
  rw [j_le, i_2j] at h1 h2
  have e0 : (0 : Int64).toInt = 0 := rfl
  have e15 : (15 : Int64).toInt = 15 := rfl
  unfold pN
  omega
section
variable {h h2 : XH} {S : XS} {m2 p : Nat} {om2 : Nat → O} {v : Int32}
end
