/-! ===== layer 2: calls by continuation, the shapes of the run's cells ===== -/
abbrev XK : Type := Option Value → XH → Prop
abbrev XE : Type := Nat → XH → Prop
/-- what is owed at a method's end: K of what is returned, E of what is thrown -/
def Po (K : XK) (E : XE) (o : XO) (h : XH) : Prop := match o with
  | .inl v => K v h
  | .inr e => E e h
/-- the call ends, and so that K or E -/
def Ca (d j : Nat) (as : List Value) (h : XH) (K : XK) (E : XE) : Prop := Tr d j as h (Po K E)
theorem Ca.imp {d j : Nat} {as : List Value} {h : XH} {K K2 : XK} {E : XE} (H : Ca d j as h K E) (hk : ∀ v h2, K v h2 → K2 v h2) : Ca d j as h K2 E :=
  Tr.mono H (Nat.le_refl _) (fun o h2 z => by
    cases o with
    | inl v => exact hk _ _ z
    | inr e => exact z)
theorem Ca.of {d j : Nat} {as : List Value} {h : XH} {K : XK} {E : XE} (h1 : (x_args as).length ≤ xml j ∧ x_nod as = true) (H : Ex d (xhs j) (xtb j) (0, x_entry as (xml j), []) h (Po K E)) : Ca (d + 1) j as h K E := Tr.of h1 H
/-- out of a row that says what is returned and the heap behind it -/
theorem Ca.tr {d e j : Nat} {as : List Value} {h h3 : XH} {v : Option Value} {K : XK} {E : XE} (T : Tr d j as h (fun o h2 => o = .inl v ∧ h2 = h3)) (hd : d ≤ e) (H : K v h3) : Ca e j as h K E :=
  Tr.mono T hd (fun o h2 z => by
    obtain ⟨rfl, rfl⟩ := z
    exact H)
theorem Ex.cal {d : Nat} {tb : List (Option XI)} {pc : Nat} {L : XL} {st rest : List Value} {h : XH} {K : XK} {E : XE} {j : Nat} {as : List Value} (h1 : ∀ c, xstp c [] tb (pc, L, st) h = x_back [] pc L rest (c j as h)) (H : Ca d j as h (fun v h3 => Ex d [] tb (pc + 3, L, v.toList ++ rest) h3 (Po K E)) E) : Ex d [] tb (pc, L, st) h (Po K E) :=
  Ex.ask h1 H (fun o h3 hq => by
    cases o with
    | inl v => exact hq
    | inr e => exact hq)
/-- the step of a virtual call, its object's class known -/
theorem vst {hs : XHs} {tb : List (Option XI)} {pc : Nat} {L : XL} {st vs rest : List Value} {h : XH} {i a b c q : Nat} {v : Int32} {w : Int64} {rs : List (Option Nat)} (ht : tb[pc]? = some (some (.invokevirtual i, a, b, c, v, w))) (hb : b ≤ st.length ∧ x_cats (st.drop b) ≤ 8) (hr : st.drop b = rest) (hv : (st.take b).reverse = .ref q :: vs) (hq : h.1[q]? = some (0, c, rs)) (c2 : Nat → List Value → XH → Option (XO × XH)) : xstp c2 hs tb (pc, L, st) h = x_back hs pc L rest (c2 a (.ref q :: vs) h) := by
  subst hr
  unfold xstp
  rw [ht]
  show xinvV c2 hs pc a b c L st h = _
  unfold xinvV
  rw [if_pos hb, hv]
  show (match h.1[q]? with
    | some (0, ci, _) => if ci = c then x_back hs pc L (st.drop b) (c2 a (.ref q :: vs) h) else none
    | _ => none) = _
  rw [hq]
  show (if c = c then _ else (none : Option XR)) = _
  rw [if_pos rfl]
theorem Ex.ldiv {d : Nat} {hs : XHs} {tb : List (Option XI)} {pc : Nat} {L : XL} {st : List Value} {h : XH} {P : XO → XH → Prop} {a b c : Nat} {v : Int32} {w x y : Int64} (ht : tb[pc]? = some (some (.ldiv, a, b, c, v, w))) (hy : ¬ y = 0) (H : Ex d hs tb (pc + 1, L, .long (x / y) :: st) h P) : Ex d hs tb (pc, L, .long y :: .long x :: st) h P := by
  refine Ex.st (r := some (.inl ((pc + 1, L, .long (x / y) :: st), h))) (fun c2 => ?_) H
  unfold xstp
  rw [ht]
  dsimp only [xpure]
  rw [if_neg hy]
theorem Ex.lrem {d : Nat} {hs : XHs} {tb : List (Option XI)} {pc : Nat} {L : XL} {st : List Value} {h : XH} {P : XO → XH → Prop} {a b c : Nat} {v : Int32} {w x y : Int64} (ht : tb[pc]? = some (some (.lrem, a, b, c, v, w))) (hy : ¬ y = 0) (H : Ex d hs tb (pc + 1, L, .long (x - x / y * y) :: st) h P) : Ex d hs tb (pc, L, .long y :: .long x :: st) h P := by
  refine Ex.st (r := some (.inl ((pc + 1, L, .long (x - x / y * y) :: st), h))) (fun c2 => ?_) H
  unfold xstp
  rw [ht]
  dsimp only [xpure]
  rw [if_neg hy]
theorem Ex.idiv {d : Nat} {hs : XHs} {tb : List (Option XI)} {pc : Nat} {L : XL} {st : List Value} {h : XH} {P : XO → XH → Prop} {a b c : Nat} {v : Int32} {w : Int64} {x y : Int32} (ht : tb[pc]? = some (some (.idiv, a, b, c, v, w))) (hy : ¬ y = 0) (H : Ex d hs tb (pc + 1, L, .int (x / y) :: st) h P) : Ex d hs tb (pc, L, .int y :: .int x :: st) h P := by
  refine Ex.st (r := some (.inl ((pc + 1, L, .int (x / y) :: st), h))) (fun c2 => ?_) H
  unfold xstp
  rw [ht]
  dsimp only [xpure]
  rw [if_neg hy]
theorem Ex.irem {d : Nat} {hs : XHs} {tb : List (Option XI)} {pc : Nat} {L : XL} {st : List Value} {h : XH} {P : XO → XH → Prop} {a b c : Nat} {v : Int32} {w : Int64} {x y : Int32} (ht : tb[pc]? = some (some (.irem, a, b, c, v, w))) (hy : ¬ y = 0) (H : Ex d hs tb (pc + 1, L, .int (x - x / y * y) :: st) h P) : Ex d hs tb (pc, L, .int y :: .int x :: st) h P := by
  refine Ex.st (r := some (.inl ((pc + 1, L, .int (x - x / y * y) :: st), h))) (fun c2 => ?_) H
  unfold xstp
  rw [ht]
  dsimp only [xpure]
  rw [if_neg hy]
theorem j_nlt {a b : Int64} : ¬ a < b ↔ b ≤ a := by
  rw [Int64.lt_iff_toInt_lt, Int64.le_iff_toInt_le]
  omega
theorem j_nle {a b : Int64} : ¬ a ≤ b ↔ b < a := by
  rw [Int64.lt_iff_toInt_lt, Int64.le_iff_toInt_le]
  omega
theorem i_nlt {a b : Int32} : ¬ a < b ↔ b ≤ a := by
  rw [Int32.lt_iff_toInt_lt, Int32.le_iff_toInt_le]
  omega
theorem i_nle {a b : Int32} : ¬ a ≤ b ↔ b < a := by
  rw [Int32.lt_iff_toInt_lt, Int32.le_iff_toInt_le]
  omega
/-- a local that is unset or an int -/
def xoi (u : Option Int32) : Option Value := u.map Value.int
/-- an index in range -/
abbrev Ix (j : Int32) (n : Nat) : Prop := ¬ (j < 0 ∨ n ≤ j.toNatClampNeg)
abbrev ix (j : Int32) : Nat := j.toNatClampNeg
def bi (p : Prop) [Decidable p] : Int32 := if p then 1 else 0
theorem bi_01 (p : Prop) [Decidable p] : bi p = 0 ∨ bi p = 1 := by
  unfold bi
  split
  · exact Or.inr rfl
  · exact Or.inl rfl
theorem bi_ne {p : Prop} [Decidable p] : ¬ bi p = 0 ↔ p := by
  unfold bi
  split
  · exact ⟨fun _ => ‹p›, fun _ => by decide⟩
  · exact ⟨fun z => absurd rfl z, fun z => absurd z ‹¬ p›⟩
theorem bi_eq {p : Prop} [Decidable p] : bi p = 0 ↔ ¬ p := by
  unfold bi
  split
  · exact ⟨fun z => absurd z (by decide), fun z => absurd ‹p› z⟩
  · exact ⟨fun _ => ‹¬ p›, fun _ => rfl⟩
theorem bi_nne {p : Prop} [Decidable p] : ¬ ¬ bi p = 0 ↔ ¬ p := by
  rw [Classical.not_not]
  exact bi_eq
theorem bi_neq {p : Prop} [Decidable p] : ¬ bi p = 0 ↔ p := bi_ne
def mxI (x y : Int32) : Int32 := if x < y then y else x
def mnI (x y : Int32) : Int32 := if y < x then y else x
def mxJ (x y : Int64) : Int64 := if y < x then x else y
def mnJ (x y : Int64) : Int64 := if y < x then y else x
/-- Integer.compare, Long.compare -/
def c_I (x y : Int32) : Int32 := if x < y then (-1) else if x = y then 0 else 1
def c_J (x y : Int64) : Int32 := if x < y then (-1) else if x = y then 0 else 1
theorem bi_t {p : Prop} [Decidable p] (h : p) : bi p = 1 := if_pos h
theorem bi_f {p : Prop} [Decidable p] (h : ¬ p) : bi p = 0 := if_neg h
theorem Tr.ca {d j : Nat} {as : List Value} {h h3 : XH} {v : Option Value} (H : Ca d j as h (fun v2 h2 => v2 = v ∧ h2 = h3) (fun _ _ => False)) : Tr d j as h (fun o h2 => o = .inl v ∧ h2 = h3) :=
  Tr.mono H (Nat.le_refl _) (fun o h2 z => by
    cases o with
    | inl v => exact ⟨congrArg _ z.1, z.2⟩
    | inr e => exact False.elim z)
/-- units and figures of the model's powers; the class's keys -/
def unt (a : Int32) : Int64 := if a = 1 then 64481201 else if a = 2 then 160801 else if a = 3 then 401 else 1
def lvl : Int64 := 200 * ((((unt 1) + (unt 2)) + (unt 3)) + (unt 4))
def xpn4 (p : Int64) (a : Int32) : Int64 := p / unt a - p / unt a / 401 * 401 - 200
def keyv (a b c e : Int32) : Int64 := (((550293209600 + (a.toInt64 <<< ((30 : Int32).toInt64 &&& 63))) + (b.toInt64 <<< ((20 : Int32).toInt64 &&& 63))) + (c.toInt64 <<< ((10 : Int32).toInt64 &&& 63))) + e.toInt64
def xpin (a : Int64) (b : Int32) : Int32 := (((a >>> ((10 * (4 - b)).toInt64 &&& 63)) &&& 1023) - 512).toInt32
/-- the class's readers of its ordinals -/
def pw (h : XH) (y : Nat → Nat) (a : Int32) : Int32 := g_I h (y 0) (y 4) (a + 1) - g_I h (y 0) (y 4) a
def tm (h : XH) (y : Nat → Nat) (a k : Int32) : Int32 := g_I h (y 2) (y 6) (g_I h (y 0) (y 4) a + k)
def xp (h : XH) (y : Nat → Nat) (a k : Int32) : Int32 := g_I h (y 3) (y 7) (g_I h (y 0) (y 4) a + k)
/-- a place, as the model asks for it -/
abbrev isp (p : Int32) : Prop := (0 : Int64) ≤ p.toInt64 ∧ p.toInt64 ≤ 15
/-- a Draft at q, its rows behind it; a Growth likewise, of n parts at most -/
def Dq (T : List XT) (q : Nat) : Prop := T[q]? = some (0, 0, [some (q + 1), some (q + 2), none]) ∧ T[q + 1]? = some (2, 64, []) ∧ T[q + 2]? = some (1, 64, [])
def Gq (T : List XT) (q n : Nat) : Prop := T[q]? = some (0, 1, [some (q + 1), some (q + 2), none]) ∧ T[q + 1]? = some (2, n, []) ∧ T[q + 2]? = some (2, n, [])
/-- the shapes that never change -/
def shp : Nat → Option XT
  | 1 => some (0, 5, [some 2, some 3, some 4, some 5, some 6, some 18, some 19])
  | 2 => some (1, 16, [])
  | 3 => some (1, 16, [])
  | 4 => some (2, 16, [])
  | 5 => some (3, 16, [some 29, some 32, some 35, some 38, some 41, some 44, some 47, some 50, some 53, some 56, some 59, some 62, some 65, some 68, some 71, some 74])
  | 11 => some (0, 0, [some 12, some 13, none])
  | 12 => some (2, 64, [])
  | 13 => some (1, 64, [])
  | 14 => some (0, 0, [some 15, some 16, none])
  | 15 => some (2, 64, [])
  | 16 => some (1, 64, [])
  | 17 => some (1, 8, [])
  | 18 => some (0, 4, [none, none, none, none])
  | 20 => some (0, 1, [some 21, some 22, none])
  | 21 => some (2, 400, [])
  | 22 => some (2, 400, [])
  | 23 => some (0, 1, [some 24, some 25, none])
  | 24 => some (2, 400, [])
  | 25 => some (2, 400, [])
  | 26 => some (0, 1, [some 27, some 28, none])
  | 27 => some (2, 20, [])
  | 28 => some (2, 20, [])
  | 29 => some (0, 1, [some 30, some 31, none])
  | 30 => some (2, 20, [])
  | 31 => some (2, 20, [])
  | 32 => some (0, 1, [some 33, some 34, none])
  | 33 => some (2, 20, [])
  | 34 => some (2, 20, [])
  | 35 => some (0, 1, [some 36, some 37, none])
  | 36 => some (2, 20, [])
  | 37 => some (2, 20, [])
  | 38 => some (0, 1, [some 39, some 40, none])
  | 39 => some (2, 20, [])
  | 40 => some (2, 20, [])
  | 41 => some (0, 1, [some 42, some 43, none])
  | 42 => some (2, 20, [])
  | 43 => some (2, 20, [])
  | 44 => some (0, 1, [some 45, some 46, none])
  | 45 => some (2, 20, [])
  | 46 => some (2, 20, [])
  | 47 => some (0, 1, [some 48, some 49, none])
  | 48 => some (2, 20, [])
  | 49 => some (2, 20, [])
  | 50 => some (0, 1, [some 51, some 52, none])
  | 51 => some (2, 20, [])
  | 52 => some (2, 20, [])
  | 53 => some (0, 1, [some 54, some 55, none])
  | 54 => some (2, 20, [])
  | 55 => some (2, 20, [])
  | 56 => some (0, 1, [some 57, some 58, none])
  | 57 => some (2, 20, [])
  | 58 => some (2, 20, [])
  | 59 => some (0, 1, [some 60, some 61, none])
  | 60 => some (2, 20, [])
  | 61 => some (2, 20, [])
  | 62 => some (0, 1, [some 63, some 64, none])
  | 63 => some (2, 20, [])
  | 64 => some (2, 20, [])
  | 65 => some (0, 1, [some 66, some 67, none])
  | 66 => some (2, 20, [])
  | 67 => some (2, 20, [])
  | 68 => some (0, 1, [some 69, some 70, none])
  | 69 => some (2, 20, [])
  | 70 => some (2, 20, [])
  | 71 => some (0, 1, [some 72, some 73, none])
  | 72 => some (2, 20, [])
  | 73 => some (2, 20, [])
  | 74 => some (0, 1, [some 75, some 76, none])
  | 75 => some (2, 20, [])
  | 76 => some (2, 20, [])
  | _ => none
/-- the shapes of the run; y: the rows of the ordinals, their lengths, the growth now and the next one -/
def Sg (T : List XT) (y : Nat → Nat) : Prop :=
  (∀ k t, shp k = some t → T[k]? = some t) ∧ T[6]? = some (0, 2, [some (y 0), some (y 1), some (y 2), some (y 3), none, none, some 11, some 14, some 17]) ∧
  (T[y 0]? = some (1, y 4, []) ∧ T[y 1]? = some (1, y 5, []) ∧ T[y 2]? = some (1, y 6, []) ∧ T[y 3]? = some (1, y 7, [])) ∧
  T[19]? = some (0, 3, [some (y 8), some (y 9), some 26]) ∧ (y 8 = 20 ∧ y 9 = 23 ∨ y 8 = 23 ∧ y 9 = 20) ∧
  ((y 0 = 7 ∨ 77 ≤ y 0) ∧ (y 1 = 8 ∨ 77 ≤ y 1) ∧ (y 2 = 9 ∨ 77 ≤ y 2) ∧ (y 3 = 10 ∨ 77 ≤ y 3)) ∧
  (y 0 ≠ y 1 ∧ y 0 ≠ y 2 ∧ y 0 ≠ y 3 ∧ y 1 ≠ y 2 ∧ y 1 ≠ y 3 ∧ y 2 ≠ y 3) ∧
  (y 4 < 2 ^ 30 ∧ y 5 < 2 ^ 30 ∧ y 6 < 2 ^ 30 ∧ y 7 < 2 ^ 30)
section
variable {T : List XT} {y : Nat → Nat}
theorem sg_1 (hs : Sg T y) : T[1]? = some (0, 5, [some 2, some 3, some 4, some 5, some 6, some 18, some 19]) := hs.1 1 _ rfl
theorem sg_2 (hs : Sg T y) : T[2]? = some (1, 16, []) := hs.1 2 _ rfl
theorem sg_3 (hs : Sg T y) : T[3]? = some (1, 16, []) := hs.1 3 _ rfl
theorem sg_4 (hs : Sg T y) : T[4]? = some (2, 16, []) := hs.1 4 _ rfl
theorem sg_5 (hs : Sg T y) : T[5]? = some (3, 16, [some 29, some 32, some 35, some 38, some 41, some 44, some 47, some 50, some 53, some 56, some 59, some 62, some 65, some 68, some 71, some 74]) := hs.1 5 _ rfl
theorem sg_11 (hs : Sg T y) : T[11]? = some (0, 0, [some 12, some 13, none]) := hs.1 11 _ rfl
theorem sg_12 (hs : Sg T y) : T[12]? = some (2, 64, []) := hs.1 12 _ rfl
theorem sg_13 (hs : Sg T y) : T[13]? = some (1, 64, []) := hs.1 13 _ rfl
theorem sg_14 (hs : Sg T y) : T[14]? = some (0, 0, [some 15, some 16, none]) := hs.1 14 _ rfl
theorem sg_15 (hs : Sg T y) : T[15]? = some (2, 64, []) := hs.1 15 _ rfl
theorem sg_16 (hs : Sg T y) : T[16]? = some (1, 64, []) := hs.1 16 _ rfl
theorem sg_17 (hs : Sg T y) : T[17]? = some (1, 8, []) := hs.1 17 _ rfl
theorem sg_18 (hs : Sg T y) : T[18]? = some (0, 4, [none, none, none, none]) := hs.1 18 _ rfl
theorem sg_20 (hs : Sg T y) : T[20]? = some (0, 1, [some 21, some 22, none]) := hs.1 20 _ rfl
theorem sg_21 (hs : Sg T y) : T[21]? = some (2, 400, []) := hs.1 21 _ rfl
theorem sg_22 (hs : Sg T y) : T[22]? = some (2, 400, []) := hs.1 22 _ rfl
theorem sg_23 (hs : Sg T y) : T[23]? = some (0, 1, [some 24, some 25, none]) := hs.1 23 _ rfl
theorem sg_24 (hs : Sg T y) : T[24]? = some (2, 400, []) := hs.1 24 _ rfl
theorem sg_25 (hs : Sg T y) : T[25]? = some (2, 400, []) := hs.1 25 _ rfl
theorem sg_26 (hs : Sg T y) : T[26]? = some (0, 1, [some 27, some 28, none]) := hs.1 26 _ rfl
theorem sg_27 (hs : Sg T y) : T[27]? = some (2, 20, []) := hs.1 27 _ rfl
theorem sg_28 (hs : Sg T y) : T[28]? = some (2, 20, []) := hs.1 28 _ rfl
theorem sg_29 (hs : Sg T y) : T[29]? = some (0, 1, [some 30, some 31, none]) := hs.1 29 _ rfl
theorem sg_30 (hs : Sg T y) : T[30]? = some (2, 20, []) := hs.1 30 _ rfl
theorem sg_31 (hs : Sg T y) : T[31]? = some (2, 20, []) := hs.1 31 _ rfl
theorem sg_32 (hs : Sg T y) : T[32]? = some (0, 1, [some 33, some 34, none]) := hs.1 32 _ rfl
theorem sg_33 (hs : Sg T y) : T[33]? = some (2, 20, []) := hs.1 33 _ rfl
theorem sg_34 (hs : Sg T y) : T[34]? = some (2, 20, []) := hs.1 34 _ rfl
theorem sg_35 (hs : Sg T y) : T[35]? = some (0, 1, [some 36, some 37, none]) := hs.1 35 _ rfl
theorem sg_36 (hs : Sg T y) : T[36]? = some (2, 20, []) := hs.1 36 _ rfl
theorem sg_37 (hs : Sg T y) : T[37]? = some (2, 20, []) := hs.1 37 _ rfl
theorem sg_38 (hs : Sg T y) : T[38]? = some (0, 1, [some 39, some 40, none]) := hs.1 38 _ rfl
theorem sg_39 (hs : Sg T y) : T[39]? = some (2, 20, []) := hs.1 39 _ rfl
theorem sg_40 (hs : Sg T y) : T[40]? = some (2, 20, []) := hs.1 40 _ rfl
theorem sg_41 (hs : Sg T y) : T[41]? = some (0, 1, [some 42, some 43, none]) := hs.1 41 _ rfl
theorem sg_42 (hs : Sg T y) : T[42]? = some (2, 20, []) := hs.1 42 _ rfl
theorem sg_43 (hs : Sg T y) : T[43]? = some (2, 20, []) := hs.1 43 _ rfl
theorem sg_44 (hs : Sg T y) : T[44]? = some (0, 1, [some 45, some 46, none]) := hs.1 44 _ rfl
theorem sg_45 (hs : Sg T y) : T[45]? = some (2, 20, []) := hs.1 45 _ rfl
theorem sg_46 (hs : Sg T y) : T[46]? = some (2, 20, []) := hs.1 46 _ rfl
theorem sg_47 (hs : Sg T y) : T[47]? = some (0, 1, [some 48, some 49, none]) := hs.1 47 _ rfl
theorem sg_48 (hs : Sg T y) : T[48]? = some (2, 20, []) := hs.1 48 _ rfl
theorem sg_49 (hs : Sg T y) : T[49]? = some (2, 20, []) := hs.1 49 _ rfl
theorem sg_50 (hs : Sg T y) : T[50]? = some (0, 1, [some 51, some 52, none]) := hs.1 50 _ rfl
theorem sg_51 (hs : Sg T y) : T[51]? = some (2, 20, []) := hs.1 51 _ rfl
theorem sg_52 (hs : Sg T y) : T[52]? = some (2, 20, []) := hs.1 52 _ rfl
theorem sg_53 (hs : Sg T y) : T[53]? = some (0, 1, [some 54, some 55, none]) := hs.1 53 _ rfl
theorem sg_54 (hs : Sg T y) : T[54]? = some (2, 20, []) := hs.1 54 _ rfl
theorem sg_55 (hs : Sg T y) : T[55]? = some (2, 20, []) := hs.1 55 _ rfl
theorem sg_56 (hs : Sg T y) : T[56]? = some (0, 1, [some 57, some 58, none]) := hs.1 56 _ rfl
theorem sg_57 (hs : Sg T y) : T[57]? = some (2, 20, []) := hs.1 57 _ rfl
theorem sg_58 (hs : Sg T y) : T[58]? = some (2, 20, []) := hs.1 58 _ rfl
theorem sg_59 (hs : Sg T y) : T[59]? = some (0, 1, [some 60, some 61, none]) := hs.1 59 _ rfl
theorem sg_60 (hs : Sg T y) : T[60]? = some (2, 20, []) := hs.1 60 _ rfl
theorem sg_61 (hs : Sg T y) : T[61]? = some (2, 20, []) := hs.1 61 _ rfl
theorem sg_62 (hs : Sg T y) : T[62]? = some (0, 1, [some 63, some 64, none]) := hs.1 62 _ rfl
theorem sg_63 (hs : Sg T y) : T[63]? = some (2, 20, []) := hs.1 63 _ rfl
theorem sg_64 (hs : Sg T y) : T[64]? = some (2, 20, []) := hs.1 64 _ rfl
theorem sg_65 (hs : Sg T y) : T[65]? = some (0, 1, [some 66, some 67, none]) := hs.1 65 _ rfl
theorem sg_66 (hs : Sg T y) : T[66]? = some (2, 20, []) := hs.1 66 _ rfl
theorem sg_67 (hs : Sg T y) : T[67]? = some (2, 20, []) := hs.1 67 _ rfl
theorem sg_68 (hs : Sg T y) : T[68]? = some (0, 1, [some 69, some 70, none]) := hs.1 68 _ rfl
theorem sg_69 (hs : Sg T y) : T[69]? = some (2, 20, []) := hs.1 69 _ rfl
theorem sg_70 (hs : Sg T y) : T[70]? = some (2, 20, []) := hs.1 70 _ rfl
theorem sg_71 (hs : Sg T y) : T[71]? = some (0, 1, [some 72, some 73, none]) := hs.1 71 _ rfl
theorem sg_72 (hs : Sg T y) : T[72]? = some (2, 20, []) := hs.1 72 _ rfl
theorem sg_73 (hs : Sg T y) : T[73]? = some (2, 20, []) := hs.1 73 _ rfl
theorem sg_74 (hs : Sg T y) : T[74]? = some (0, 1, [some 75, some 76, none]) := hs.1 74 _ rfl
theorem sg_75 (hs : Sg T y) : T[75]? = some (2, 20, []) := hs.1 75 _ rfl
theorem sg_76 (hs : Sg T y) : T[76]? = some (2, 20, []) := hs.1 76 _ rfl
theorem sg_6 (hs : Sg T y) : T[6]? = some (0, 2, [some (y 0), some (y 1), some (y 2), some (y 3), none, none, some 11, some 14, some 17]) := hs.2.1
theorem sg_y0 (hs : Sg T y) : T[y 0]? = some (1, y 4, []) := hs.2.2.1.1
theorem sg_y1 (hs : Sg T y) : T[y 1]? = some (1, y 5, []) := hs.2.2.1.2.1
theorem sg_y2 (hs : Sg T y) : T[y 2]? = some (1, y 6, []) := hs.2.2.1.2.2.1
theorem sg_y3 (hs : Sg T y) : T[y 3]? = some (1, y 7, []) := hs.2.2.1.2.2.2
theorem sg_19 (hs : Sg T y) : T[19]? = some (0, 3, [some (y 8), some (y 9), some 26]) := hs.2.2.2.1
theorem sg_89v (hs : Sg T y) : y 8 = 20 ∧ y 9 = 23 ∨ y 8 = 23 ∧ y 9 = 20 := hs.2.2.2.2.1
theorem sg_hnd (hs : Sg T y) : (y 0 = 7 ∨ 77 ≤ y 0) ∧ (y 1 = 8 ∨ 77 ≤ y 1) ∧ (y 2 = 9 ∨ 77 ≤ y 2) ∧ (y 3 = 10 ∨ 77 ≤ y 3) := hs.2.2.2.2.2.1
theorem sg_dis (hs : Sg T y) : y 0 ≠ y 1 ∧ y 0 ≠ y 2 ∧ y 0 ≠ y 3 ∧ y 1 ≠ y 2 ∧ y 1 ≠ y 3 ∧ y 2 ≠ y 3 := hs.2.2.2.2.2.2.1
theorem sg_len (hs : Sg T y) : y 4 < 2 ^ 30 ∧ y 5 < 2 ^ 30 ∧ y 6 < 2 ^ 30 ∧ y 7 < 2 ^ 30 := hs.2.2.2.2.2.2.2
theorem sg_l0 (hs : Sg T y) : y 4 < 2 ^ 31 := by have := sg_len hs; omega
theorem sg_l1 (hs : Sg T y) : y 5 < 2 ^ 31 := by have := sg_len hs; omega
theorem sg_l2 (hs : Sg T y) : y 6 < 2 ^ 31 := by have := sg_len hs; omega
theorem sg_l3 (hs : Sg T y) : y 7 < 2 ^ 31 := by have := sg_len hs; omega
theorem sg_D11 (hs : Sg T y) : Dq T 11 := ⟨sg_11 hs, sg_12 hs, sg_13 hs⟩
theorem sg_D14 (hs : Sg T y) : Dq T 14 := ⟨sg_14 hs, sg_15 hs, sg_16 hs⟩
theorem sg_G26 (hs : Sg T y) : Gq T 26 20 := ⟨sg_26 hs, sg_27 hs, sg_28 hs⟩
theorem sg_G20 (hs : Sg T y) : Gq T 20 400 := ⟨sg_20 hs, sg_21 hs, sg_22 hs⟩
theorem sg_G23 (hs : Sg T y) : Gq T 23 400 := ⟨sg_23 hs, sg_24 hs, sg_25 hs⟩
theorem sg_Gr (hs : Sg T y) {p : Nat} (hp : p < 16) : Gq T (29 + 3 * p) 20 := by
  have : p = 0 ∨ p = 1 ∨ p = 2 ∨ p = 3 ∨ p = 4 ∨ p = 5 ∨ p = 6 ∨ p = 7 ∨ p = 8 ∨ p = 9 ∨ p = 10 ∨ p = 11 ∨ p = 12 ∨ p = 13 ∨ p = 14 ∨ p = 15 := by omega
  rcases this with z | z | z | z | z | z | z | z | z | z | z | z | z | z | z | z <;> subst z
  · exact ⟨sg_29 hs, sg_30 hs, sg_31 hs⟩
  · exact ⟨sg_32 hs, sg_33 hs, sg_34 hs⟩
  · exact ⟨sg_35 hs, sg_36 hs, sg_37 hs⟩
  · exact ⟨sg_38 hs, sg_39 hs, sg_40 hs⟩
  · exact ⟨sg_41 hs, sg_42 hs, sg_43 hs⟩
  · exact ⟨sg_44 hs, sg_45 hs, sg_46 hs⟩
  · exact ⟨sg_47 hs, sg_48 hs, sg_49 hs⟩
  · exact ⟨sg_50 hs, sg_51 hs, sg_52 hs⟩
  · exact ⟨sg_53 hs, sg_54 hs, sg_55 hs⟩
  · exact ⟨sg_56 hs, sg_57 hs, sg_58 hs⟩
  · exact ⟨sg_59 hs, sg_60 hs, sg_61 hs⟩
  · exact ⟨sg_62 hs, sg_63 hs, sg_64 hs⟩
  · exact ⟨sg_65 hs, sg_66 hs, sg_67 hs⟩
  · exact ⟨sg_68 hs, sg_69 hs, sg_70 hs⟩
  · exact ⟨sg_71 hs, sg_72 hs, sg_73 hs⟩
  · exact ⟨sg_74 hs, sg_75 hs, sg_76 hs⟩
theorem sg_Gn (hs : Sg T y) : Gq T (y 8) 400 ∧ Gq T (y 9) 400 := by
  rcases sg_89v hs with ⟨z, w⟩ | ⟨z, w⟩ <;> rw [z, w]
  · exact ⟨sg_G20 hs, sg_G23 hs⟩
  · exact ⟨sg_G23 hs, sg_G20 hs⟩
end
