/-! ===== layer 2: what the places hold; the model's picture of it ===== -/
/-- the exponents of exp x, x, log x, log log x -/
abbrev GE : Type := Int × Int × Int × Int
/-- a growth: its parts, each with its times -/
abbrev GL : Type := List (GE × Int)
/-- what places hold: kinds; ordinals, numbers, growths -/
abbrev XS : Type := (Nat → Int32) × (Nat → O) × (Nat → Int) × (Nat → GL)
/-- the model's figure of four exponents -/
def gmk (e : GE) : Int := 12928480800 + (e.1 * 64481201 + e.2.1 * 160801 + e.2.2.1 * 401 + e.2.2.2)
/-- the model's growth at place p -/
def Gm (h : XH) (p : Nat) (L : GL) : Prop := (h.2.1 79 p).toInt = L.length ∧ L.length ≤ 20 ∧ ∀ (k : Nat) (e : GE) (n : Int), L[k]? = some (e, n) → (h.2.2.1 90 (20 * p + k)).toInt = gmk e ∧ (h.2.1 91 (20 * p + k)).toInt = n
/-- the model holds S -/
def MI (h : XH) (S : XS) : Prop := ∃ (m : Nat) (om : Nat → O), Mo h m om ∧ Pl h m om S.2.1 ∧ ∀ p, p < 16 → h.2.1 78 p = S.1 p ∧ (S.1 p = 2 → (h.2.1 79 p).toInt = S.2.2.1 p) ∧ (S.1 p = 3 → Gm h p (S.2.2.2 p))
/-- only the model's cells have changed -/
def FM (h h2 : XH) : Prop := h2.1 = h.1 ∧ h2.2.2.2 = h.2.2.2 ∧ ∀ r, (r ≤ 76 ∨ 94 ≤ r) → h2.2.1 r = h.2.1 r ∧ h2.2.2.1 r = h.2.2.1 r
theorem FM.rf (h : XH) : FM h h := ⟨rfl, rfl, fun _ _ => ⟨rfl, rfl⟩⟩
theorem FM.tr {h h2 h3 : XH} (a : FM h h2) (b : FM h2 h3) : FM h h3 := ⟨b.1.trans a.1, b.2.1.trans a.2.1, fun r hr => ⟨(b.2.2 r hr).1.trans (a.2.2 r hr).1, (b.2.2 r hr).2.trans (a.2.2 r hr).2⟩⟩
theorem FM.sg {h h2 : XH} {y : Nat → Nat} (a : FM h h2) (hs : Sg h.1 y) : Sg h2.1 y := by rw [a.1]; exact hs
/-- what is returned: nothing, an int, a long; v, if z -/
def rvT (t : Nat) (z : Prop) (v : Int) (rv : Option Value) : Prop := match t with
  | 0 => rv = none
  | 1 => ∃ r : Int32, rv = some (.int r) ∧ (z → r.toInt = v)
  | _ => ∃ r : Int64, rv = some (.long r) ∧ (z → r.toInt = v)
/-- a call's outcome: its status, what it answers, what places hold -/
abbrev XC : Type := Nat × Int × XS
/-- what comes behind the model's call -/
def KM (h : XH) (t : Nat) (o : XC) (K : XK) : Prop := ∀ (rv : Option Value) (h2 : XH), MI h2 o.2.2 → FM h h2 → (h2.2.1 77 0).toInt = o.1 → rvT t (o.1 = 0) o.2.1 rv → K rv h2
noncomputable def ouif {α : Type} (c : Prop) (x z : α) : α := @ite α c (Classical.propDecidable c) x z
theorem ouif_t {α : Type} {c : Prop} {x z : α} (h : c) : ouif c x z = x := if_pos h
theorem ouif_f {α : Type} {c : Prop} {x z : α} (h : ¬ c) : ouif c x z = z := if_neg h
/-- status 1 if not c1, 2 if not c2 -/
noncomputable def out2 (c1 c2 : Prop) (v : Int) (S S2 : XS) : XC := ouif c1 (ouif c2 (0, v, S2) (2, 0, S)) (1, 0, S)
noncomputable def out3 (c1 c2 c3 : Prop) (v : Int) (S S2 : XS) : XC := ouif c1 (ouif c2 (ouif c3 (0, v, S2) (3, 0, S)) (2, 0, S)) (1, 0, S)
theorem out2_0 {c1 c2 : Prop} {v : Int} {S S2 : XS} (a : c1) (b : c2) : out2 c1 c2 v S S2 = (0, v, S2) := by rw [out2, ouif_t a, ouif_t b]
theorem out2_1 {c1 c2 : Prop} {v : Int} {S S2 : XS} (a : ¬ c1) : out2 c1 c2 v S S2 = (1, 0, S) := by rw [out2, ouif_f a]
theorem out2_2 {c1 c2 : Prop} {v : Int} {S S2 : XS} (a : c1) (b : ¬ c2) : out2 c1 c2 v S S2 = (2, 0, S) := by rw [out2, ouif_t a, ouif_f b]
theorem out3_0 {c1 c2 c3 : Prop} {v : Int} {S S2 : XS} (a : c1) (b : c2) (c : c3) : out3 c1 c2 c3 v S S2 = (0, v, S2) := by rw [out3, ouif_t a, ouif_t b, ouif_t c]
theorem out3_1 {c1 c2 c3 : Prop} {v : Int} {S S2 : XS} (a : ¬ c1) : out3 c1 c2 c3 v S S2 = (1, 0, S) := by rw [out3, ouif_f a]
theorem out3_2 {c1 c2 c3 : Prop} {v : Int} {S S2 : XS} (a : c1) (b : ¬ c2) : out3 c1 c2 c3 v S S2 = (2, 0, S) := by rw [out3, ouif_t a, ouif_f b]
theorem out3_3 {c1 c2 c3 : Prop} {v : Int} {S S2 : XS} (a : c1) (b : c2) (c : ¬ c3) : out3 c1 c2 c3 v S S2 = (3, 0, S) := by rw [out3, ouif_t a, ouif_t b, ouif_f c]
def sK (S : XS) (p : Nat) (v : Int32) : XS := (upw S.1 p v, S.2.1, S.2.2.1, S.2.2.2)
def sO (S : XS) (p : Nat) (x : O) : XS := (upw S.1 p 1, upw S.2.1 p x, S.2.2.1, S.2.2.2)
def sN (S : XS) (p : Nat) (z : Int) : XS := (upw S.1 p 2, S.2.1, upw S.2.2.1 p z, S.2.2.2)
def sG (S : XS) (p : Nat) (L : GL) : XS := (upw S.1 p 3, S.2.1, S.2.2.1, upw S.2.2.2 p L)
theorem upw_e {α : Type} (f : Nat → α) (p : Nat) (x : α) : upw f p x p = x := if_pos rfl
theorem upw_n {α : Type} (f : Nat → α) {p q : Nat} (x : α) (h : q ≠ p) : upw f p x q = f q := if_neg h
/-- the place's number -/
abbrev pN (a : Int32) : Nat := a.toInt.toNat
theorem isp_p {a : Int32} (h : isp a) : a.toInt = pN a ∧ pN a < 16 := by
  obtain ⟨h1, h2⟩ := h
  rw [j_le, i_2j] at h1 h2
  have e0 : (0 : Int64).toInt = 0 := rfl
  have e15 : (15 : Int64).toInt = 15 := rfl
  unfold pN
  omega
section
variable {h h2 : XH} {S : XS} {m2 p : Nat} {om2 : Nat → O} {v : Int32}
theorem MI.ds (I : MI h S) (M : Mo h2 m2 om2) (P : Pl h2 m2 om2 S.2.1) (F : Fds (x_setI h 77 0 v) h2) : MI h2 S ∧ FM h h2 ∧ h2.2.1 77 0 = v := by
  obtain ⟨m, om, -, -, I3⟩ := I
  obtain ⟨f1, f2, f3, f4, f5, f6⟩ := F
  have c78 : h2.2.1 78 = h.2.1 78 := by rw [(f3 78 (by omega)).1]; exact sI_nq _ _ (by omega)
  have c9 : ∀ r, 90 ≤ r → h2.2.1 r = h.2.1 r ∧ h2.2.2.1 r = h.2.2.1 r := fun r hr => ⟨by rw [(f3 r (by omega)).1]; exact sI_nq _ _ (by omega), (f3 r (by omega)).2⟩
  have c79 : ∀ p, p < 16 → ¬ S.1 p = 1 → h2.2.1 79 p = h.2.1 79 p := fun p hp hk => by
    rw [f6 p hp (by rw [sI_nq _ _ (by omega), (I3 p hp).1]; exact hk), sI_nq _ _ (by omega)]
  refine ⟨⟨m2, om2, M, P, fun p hp => ⟨by rw [c78]; exact (I3 p hp).1, fun z => ?_, fun z => ?_⟩⟩, ⟨f1, f2, fun r hr => ⟨by rw [(f3 r (by omega)).1]; exact sI_nq _ _ (by omega), (f3 r (by omega)).2⟩⟩, ?_⟩
  · rw [c79 p hp (by rw [z]; decide)]; exact (I3 p hp).2.1 z
  · obtain ⟨g1, g2, g3⟩ := (I3 p hp).2.2 z
    refine ⟨by rw [c79 p hp (by rw [z]; decide)]; exact g1, g2, fun k e n hk => ?_⟩
    rw [(c9 90 (by omega)).2, (c9 91 (by omega)).1]
    exact g3 k e n hk
  · rw [f4 0 (by omega) (by omega) (by omega) (by omega)]; exact sI_eq _ _ _ _
theorem MI.la {x : O} (I : MI h S) (hp : p < 16) (M : Mo h2 m2 om2) (P : Pl h2 m2 om2 (upw S.2.1 p x)) (F : Fla False p (x_setI h 77 0 v) h2) : MI h2 (sO S p x) ∧ FM h h2 ∧ h2.2.1 77 0 = v := by
  obtain ⟨m, om, -, -, I3⟩ := I
  obtain ⟨f1, f2, f3, f4, f5, f6, f7, f8⟩ := F
  have c78 : h2.2.1 78 = upw (h.2.1 78) p 1 := by rw [f6, sI_nq _ _ (by omega)]
  have c9 : ∀ r, 90 ≤ r → h2.2.1 r = h.2.1 r ∧ h2.2.2.1 r = h.2.2.1 r := fun r hr => ⟨by rw [(f3 r (by omega)).1]; exact sI_nq _ _ (by omega), (f3 r (by omega)).2⟩
  have c79 : ∀ q, q < 16 → q ≠ p → ¬ S.1 q = 1 → h2.2.1 79 q = h.2.1 79 q := fun q hq hqp hk => by
    rw [f8 q hq hqp (by rw [sI_nq _ _ (by omega), (I3 q hq).1]; exact hk), sI_nq _ _ (by omega)]
  refine ⟨⟨m2, om2, M, P, fun q hq => ?_⟩, ⟨f1, f2, fun r hr => ⟨by rw [(f3 r (by omega)).1]; exact sI_nq _ _ (by omega), (f3 r (by omega)).2⟩⟩, ?_⟩
  · show h2.2.1 78 q = upw S.1 p 1 q ∧ (upw S.1 p 1 q = 2 → _) ∧ (upw S.1 p 1 q = 3 → _)
    by_cases z : q = p
    · rw [c78, z, upw_e, upw_e]
      exact ⟨rfl, fun w => absurd w (by decide), fun w => absurd w (by decide)⟩
    · rw [c78, upw_n _ _ z, upw_n _ _ z]
      refine ⟨(I3 q hq).1, fun w => ?_, fun w => ?_⟩
      · rw [c79 q hq z (by rw [w]; decide)]; exact (I3 q hq).2.1 w
      · obtain ⟨g1, g2, g3⟩ := (I3 q hq).2.2 w
        refine ⟨by rw [c79 q hq z (by rw [w]; decide)]; exact g1, g2, fun k e n hk => ?_⟩
        rw [(c9 90 (by omega)).2, (c9 91 (by omega)).1]
        exact g3 k e n hk
  · rw [f4 0 (fun _ w => w) (by omega) (by omega) (by omega) (by omega)]; exact sI_eq _ _ _ _
/-- the status alone has changed -/
theorem MI.st (I : MI h S) (v : Int32) : MI (x_setI h 77 0 v) S ∧ FM h (x_setI h 77 0 v) ∧ (x_setI h 77 0 v).2.1 77 0 = v := by
  obtain ⟨m, om, I1, I2, I3⟩ := id I
  exact MI.ds I (I1.st v) (I2.st v) (Fds.rf _)
theorem Mo.q {h h2 : XH} {m : Nat} {om : Nat → O} (M : Mo h m om) (F : ∀ r, 80 ≤ r → r ≤ 83 → h2.2.1 r = h.2.1 r) (G : h2.2.1 77 7 = h.2.1 77 7) : Mo h2 m om := M.fr G F
/-- a kind laid that is no ordinal's -/
theorem MI.no {c kd : Int32} (I : MI h S) (hp : p < 16) (hk : kd = 0 ∨ kd = 2 ∨ kd = 3) : ∀ (S2 : XS) (h1 : XH), S2.1 = upw S.1 p kd → S2.2.1 = S.2.1 → (∀ q, q ≠ p → S2.2.2.1 q = S.2.2.1 q ∧ S2.2.2.2 q = S.2.2.2 q) → FM h h1 → h1.2.1 78 = h.2.1 78 → h1.2.1 79 = h.2.1 79 → (∀ r, 80 ≤ r → r ≤ 83 → h1.2.1 r = h.2.1 r) → h1.2.1 77 7 = h.2.1 77 7 → (∀ q, q ≠ p → ∀ k, k < 20 → h1.2.2.1 90 (20 * q + k) = h.2.2.1 90 (20 * q + k) ∧ h1.2.1 91 (20 * q + k) = h.2.1 91 (20 * q + k)) → (kd = 2 → c.toInt = S2.2.2.1 p) → (kd = 3 → Gm (x_setI (x_setI h1 78 p kd) 79 p c) p (S2.2.2.2 p)) → MI (x_setI (x_setI h1 78 p kd) 79 p c) S2 ∧ FM h (x_setI (x_setI h1 78 p kd) 79 p c) := by
  intro S2 h1 e1 e2 e3 F e78 e79 e80 e7 eg e4 e5
  obtain ⟨m, om, I1, I2, I3⟩ := I
  have nr : ∀ r, r ≠ 78 → r ≠ 79 → (x_setI (x_setI h1 78 p kd) 79 p c).2.1 r = h1.2.1 r := fun r a b => by rw [sI_nq _ _ b, sI_nq _ _ a]
  have c78 : ∀ q, (x_setI (x_setI h1 78 p kd) 79 p c).2.1 78 q = if q = p then kd else h.2.1 78 q := fun q => by
    rw [sI_nq _ _ (by omega)]
    by_cases z : q = p
    · rw [if_pos z, z, sI_eq]
    · rw [if_neg z, sI_ne _ _ z, e78]
  have c79 : ∀ q, q ≠ p → (x_setI (x_setI h1 78 p kd) 79 p c).2.1 79 q = h.2.1 79 q := fun q z => by rw [sI_ne _ _ z, sI_nq _ _ (by omega), e79]
  have k1 : ¬ kd = 1 := by rcases hk with z | z | z <;> rw [z] <;> decide
  refine ⟨⟨m, om, I1.fr (by rw [nr 77 (by omega) (by omega)]; exact e7) (fun r a b => by rw [nr r (by omega) (by omega)]; exact e80 r a b), fun q hq hq1 => ?_, fun q hq => ?_⟩, F.1, F.2.1, fun r hr => ⟨by rw [nr r (by omega) (by omega)]; exact (F.2.2 r hr).1, (F.2.2 r hr).2⟩⟩
  · rw [c78] at hq1
    by_cases z : q = p
    · rw [if_pos z] at hq1; exact absurd hq1 k1
    · rw [if_neg z] at hq1
      rw [c79 q z, e2]
      exact I2 q hq hq1
  · rw [c78, e1]
    by_cases z : q = p
    · subst z
      rw [if_pos rfl, upw_e]
      exact ⟨rfl, fun w => by rw [sI_eq]; exact e4 w, e5⟩
    · rw [if_neg z, upw_n _ _ z, c79 q z, (e3 q z).1, (e3 q z).2]
      refine ⟨(I3 q hq).1, (I3 q hq).2.1, fun w => ?_⟩
      obtain ⟨g1, g2, g3⟩ := (I3 q hq).2.2 w
      refine ⟨by rw [c79 q z]; exact g1, g2, fun k e n hk => ?_⟩
      have hkl := (List.getElem?_eq_some_iff.mp hk).1
      rw [nr 91 (by omega) (by omega), (eg q z k (by omega)).2]
      show (h1.2.2.1 90 (20 * q + k)).toInt = _ ∧ _
      rw [(eg q z k (by omega)).1]
      exact g3 k e n hk
end
/-- what is live is not too much, for S -/
def LBS (S : XS) : Prop := LB0 S.1 S.2.1
theorem LBS.h {h : XH} {S : XS} (L : LBS S) (I : MI h S) : LB0 (h.2.1 78) S.2.1 := by
  obtain ⟨m, om, -, -, I3⟩ := I
  intro m ov a b
  refine L m ov a (fun i hi => ?_)
  rcases b i hi with z | ⟨p, hp, hk, z⟩
  · exact Or.inl z
  · exact Or.inr ⟨p, hp, by rw [← (I3 p hp).1]; exact hk, z⟩
