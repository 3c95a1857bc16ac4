/-! ===== layer 2: the class's ordinals: pictures of the store and of the drafts ===== -/
theorem i_bm {z : Int} (h1 : -2147483648 ≤ z) (h2 : z < 2147483648) : z.bmod (2 ^ 32) = z := by
  rw [Int.bmod_def]
  split <;> omega
theorem i_add {a b : Int32} (h1 : -2147483648 ≤ a.toInt + b.toInt) (h2 : a.toInt + b.toInt < 2147483648) : (a + b).toInt = a.toInt + b.toInt := by
  rw [Int32.toInt_add]
  exact i_bm h1 h2
theorem i_sub {a b : Int32} (h1 : -2147483648 ≤ a.toInt - b.toInt) (h2 : a.toInt - b.toInt < 2147483648) : (a - b).toInt = a.toInt - b.toInt := by
  rw [Int32.toInt_sub]
  exact i_bm h1 h2
theorem i_mul {a b : Int32} (h1 : -2147483648 ≤ a.toInt * b.toInt) (h2 : a.toInt * b.toInt < 2147483648) : (a * b).toInt = a.toInt * b.toInt := by
  rw [Int32.toInt_mul]
  exact i_bm h1 h2
theorem j_bm {z : Int} (h1 : -9223372036854775808 ≤ z) (h2 : z < 9223372036854775808) : z.bmod (2 ^ 64) = z := by
  rw [Int.bmod_def]
  split <;> omega
theorem j_add {a b : Int64} (h1 : -9223372036854775808 ≤ a.toInt + b.toInt) (h2 : a.toInt + b.toInt < 9223372036854775808) : (a + b).toInt = a.toInt + b.toInt := by
  rw [Int64.toInt_add]
  exact j_bm h1 h2
theorem j_sub {a b : Int64} (h1 : -9223372036854775808 ≤ a.toInt - b.toInt) (h2 : a.toInt - b.toInt < 9223372036854775808) : (a - b).toInt = a.toInt - b.toInt := by
  rw [Int64.toInt_sub]
  exact j_bm h1 h2
theorem j_mul {a b : Int64} (h1 : -9223372036854775808 ≤ a.toInt * b.toInt) (h2 : a.toInt * b.toInt < 9223372036854775808) : (a * b).toInt = a.toInt * b.toInt := by
  rw [Int64.toInt_mul]
  exact j_bm h1 h2
theorem i_lo (a : Int32) : -2147483648 ≤ a.toInt := by
  have := Int32.le_toInt a
  omega
theorem i_hi (a : Int32) : a.toInt < 2147483648 := by
  have := Int32.toInt_lt a
  omega
theorem i_lt {a b : Int32} : a < b ↔ a.toInt < b.toInt := Int32.lt_iff_toInt_lt
theorem i_le {a b : Int32} : a ≤ b ↔ a.toInt ≤ b.toInt := Int32.le_iff_toInt_le
theorem j_lt {a b : Int64} : a < b ↔ a.toInt < b.toInt := Int64.lt_iff_toInt_lt
theorem j_le {a b : Int64} : a ≤ b ↔ a.toInt ≤ b.toInt := Int64.le_iff_toInt_le
theorem i_0 : (0 : Int32).toInt = 0 := rfl
theorem i_1 : (1 : Int32).toInt = 1 := rfl
theorem i_ne {a : Int32} : a = 0 ↔ a.toInt = 0 := by
  rw [← i_0]
  exact Int32.toInt_inj.symm
theorem i_2j (a : Int32) : a.toInt64.toInt = a.toInt := Int32.toInt_toInt64 a
theorem i_ix {a : Int32} {i : Nat} (h : a.toInt = i) : ix a = i := by
  show a.toInt.toNat = i
  omega
theorem i_Ix {a : Int32} {i n : Nat} (h : a.toInt = i) (hn : i < n) : Ix a n := by
  intro z
  rcases z with z | z
  · rw [i_lt, i_0] at z; omega
  · rw [show a.toNatClampNeg = i from i_ix h] at z; omega
theorem g_in {h : XH} {q n i : Nat} {a : Int32} (ha : a.toInt = i) (hi : i < n) : g_I h q n a = h.2.1 q i := by
  have := i_Ix ha hi
  rw [g_I, if_neg this, show a.toNatClampNeg = i from i_ix ha]
theorem gJ_in {h : XH} {q n i : Nat} {a : Int32} (ha : a.toInt = i) (hi : i < n) : g_J h q n a = h.2.2.1 q i := by
  have := i_Ix ha hi
  rw [g_J, if_neg this, show a.toNatClampNeg = i from i_ix ha]
theorem pI_in {h : XH} {q n i : Nat} {a v : Int32} (ha : a.toInt = i) (hi : i < n) : p_I h q n a v = x_setI h q i v := by
  have := i_Ix ha hi
  rw [p_I, if_neg this, show a.toNatClampNeg = i from i_ix ha]
theorem pJ_in {h : XH} {q n i : Nat} {a : Int32} {v : Int64} (ha : a.toInt = i) (hi : i < n) : p_J h q n a v = x_setJ h q i v := by
  have := i_Ix ha hi
  rw [p_J, if_neg this, show a.toNatClampNeg = i from i_ix ha]
theorem sI_eq (h : XH) (q k : Nat) (v : Int32) : (x_setI h q k v).2.1 q k = v := by
  show (if q = q then x_u1 (h.2.1 q) k v else h.2.1 q) k = v
  rw [if_pos rfl]
  show (if k = k then v else h.2.1 q k) = v
  rw [if_pos rfl]
theorem sI_ne (h : XH) {q k j : Nat} (v : Int32) (hj : j ≠ k) : (x_setI h q k v).2.1 q j = h.2.1 q j := by
  show (if q = q then x_u1 (h.2.1 q) k v else h.2.1 q) j = _
  rw [if_pos rfl]
  show (if j = k then v else h.2.1 q j) = _
  rw [if_neg hj]
theorem sI_nq (h : XH) {q k r : Nat} (v : Int32) (hr : r ≠ q) : (x_setI h q k v).2.1 r = h.2.1 r := by
  show (if r = q then _ else h.2.1 r) = _
  rw [if_neg hr]
theorem sJ_eq (h : XH) (q k : Nat) (v : Int64) : (x_setJ h q k v).2.2.1 q k = v := by
  show (if q = q then x_u1 (h.2.2.1 q) k v else h.2.2.1 q) k = v
  rw [if_pos rfl]
  show (if k = k then v else h.2.2.1 q k) = v
  rw [if_pos rfl]
theorem sJ_ne (h : XH) {q k j : Nat} (v : Int64) (hj : j ≠ k) : (x_setJ h q k v).2.2.1 q j = h.2.2.1 q j := by
  show (if q = q then x_u1 (h.2.2.1 q) k v else h.2.2.1 q) j = _
  rw [if_pos rfl]
  show (if j = k then v else h.2.2.1 q j) = _
  rw [if_neg hj]
theorem sJ_nq (h : XH) {q k r : Nat} (v : Int64) (hr : r ≠ q) : (x_setJ h q k v).2.2.1 r = h.2.2.1 r := by
  show (if r = q then _ else h.2.2.1 r) = _
  rw [if_neg hr]
/-- where the powers of an ordinal begin -/
def sv (ov : Nat → O) : Nat → Nat
  | 0 => 0
  | i + 1 => sv ov i + (pl (ov i)).length
theorem sv_mono (ov : Nat → O) {i j : Nat} (h : i ≤ j) : sv ov i ≤ sv ov j := by
  induction j with
  | zero => rw [show i = 0 by omega]; exact Nat.le_refl _
  | succ j ih =>
    by_cases e : i = j + 1
    · rw [e]; exact Nat.le_refl _
    · exact Nat.le_trans (ih (by omega)) (Nat.le_add_right _ _)
/-- the rows stay short -/
def Yl (y : Nat → Nat) : Prop := y 4 ≤ 32772 ∧ y 5 ≤ 32772 ∧ y 6 ≤ 262144 ∧ y 7 ≤ 262144
/-- the store: c ordinals, k of them kept; ov: what they are -/
def St (h : XH) (y : Nat → Nat) (c k : Nat) (ov : Nat → O) : Prop :=
  ((h.2.1 6 4).toInt = c ∧ (h.2.1 6 5).toInt = k ∧ 1 ≤ k ∧ k ≤ c ∧ c ≤ 16384) ∧ ov 0 = .leaf ∧
  (c + 1 ≤ y 4 ∧ c ≤ y 5 ∧ sv ov c ≤ y 6 ∧ sv ov c ≤ y 7 ∧ Yl y) ∧
  (∀ i, i ≤ c → (h.2.1 (y 0) i).toInt = sv ov i) ∧
  (∀ i, i < c → (h.2.1 (y 1) i).toInt = dep (ov i)) ∧
  (∀ i, i < c → gd (ov i)) ∧
  (∀ i, 0 < i → i < c → ¬ ov i = .leaf) ∧
  (∀ i, i < c → ∀ (m : Nat) (e : O) (n : Nat), (pl (ov i))[m]? = some (e, n) → ∃ j, j < i ∧ ov j = e ∧ (h.2.1 (y 3) (sv ov i + m)).toInt = j ∧ (h.2.1 (y 2) (sv ov i + m)).toInt = n)
/-- the draft at q: the powers L -/
def Do (h : XH) (q c : Nat) (ov : Nat → O) (L : List OP) : Prop :=
  (h.2.1 q 2).toInt = L.length ∧ L.length ≤ 64 ∧ ∀ (m : Nat) (e : O) (n : Nat), L[m]? = some (e, n) → ∃ j, j < c ∧ ov j = e ∧ (h.2.1 (q + 2) m).toInt = j ∧ (h.2.2.1 (q + 1) m).toInt = n
/-- nothing but the draft at q has changed -/
def Fdr (q : Nat) (h h2 : XH) : Prop := h2.1 = h.1 ∧ h2.2.2.2 = h.2.2.2 ∧ ∀ r, r ≠ q → r ≠ q + 1 → r ≠ q + 2 → h2.2.1 r = h.2.1 r ∧ h2.2.2.1 r = h.2.2.1 r
theorem Fdr.rf (q : Nat) (h : XH) : Fdr q h h := ⟨rfl, rfl, fun _ _ _ _ => ⟨rfl, rfl⟩⟩
theorem Fdr.tr {q : Nat} {h h2 h3 : XH} (a : Fdr q h h2) (b : Fdr q h2 h3) : Fdr q h h3 := ⟨b.1.trans a.1, b.2.1.trans a.2.1, fun r h1 h2 h3 => ⟨(b.2.2 r h1 h2 h3).1.trans (a.2.2 r h1 h2 h3).1, (b.2.2 r h1 h2 h3).2.trans (a.2.2 r h1 h2 h3).2⟩⟩
theorem Fdr.sg {q : Nat} {h h2 : XH} {y : Nat → Nat} (a : Fdr q h h2) (hs : Sg h.1 y) : Sg h2.1 y := by rw [a.1]; exact hs
theorem Do.fr {h h2 : XH} {q c : Nat} {ov : Nat → O} {L : List OP} (D : Do h q c ov L) (h1 : h2.2.1 q = h.2.1 q) (h3 : h2.2.1 (q + 2) = h.2.1 (q + 2)) (h4 : h2.2.2.1 (q + 1) = h.2.2.1 (q + 1)) : Do h2 q c ov L := by
  unfold Do
  rw [h1, h3, h4]
  exact D
theorem Do.le {h : XH} {q c c2 : Nat} {ov ov2 : Nat → O} {L : List OP} (D : Do h q c ov L) (hc : c ≤ c2) (ho : ∀ j, j < c → ov2 j = ov j) : Do h q c2 ov2 L :=
  ⟨D.1, D.2.1, fun m e n hm => by
    obtain ⟨j, a, b, f, g⟩ := D.2.2 m e n hm
    exact ⟨j, by omega, by rw [ho j a, b], f, g⟩⟩
theorem St.fr {h h2 : XH} {y : Nat → Nat} {c k : Nat} {ov : Nat → O} (S : St h y c k ov) (h1 : h2.2.1 6 = h.2.1 6) (h3 : h2.2.1 (y 0) = h.2.1 (y 0)) (h4 : h2.2.1 (y 1) = h.2.1 (y 1)) (h5 : h2.2.1 (y 2) = h.2.1 (y 2)) (h6 : h2.2.1 (y 3) = h.2.1 (y 3)) : St h2 y c k ov := by
  unfold St
  rw [h1, h3, h4, h5, h6]
  exact S
theorem St.fd {h h2 : XH} {y : Nat → Nat} {c k q : Nat} {ov : Nat → O} (S : St h y c k ov) (hs : Sg h.1 y) (F : Fdr q h h2) (hq : q = 11 ∨ q = 14) : St h2 y c k ov := by
  have a := sg_hnd hs
  have f : ∀ r, r = 6 ∨ 7 ≤ r ∧ r ≤ 10 ∨ 77 ≤ r → h2.2.1 r = h.2.1 r := fun r hr => (F.2.2 r (by omega) (by omega) (by omega)).1
  exact S.fr (f _ (by omega)) (f _ (by omega)) (f _ (by omega)) (f _ (by omega)) (f _ (by omega))
section
variable {h : XH} {y : Nat → Nat} {c k : Nat} {ov : Nat → O}
theorem St.s0 (S : St h y c k ov) : ov 0 = .leaf := S.2.1
theorem St.good (S : St h y c k ov) {i : Nat} (hi : i < c) : gd (ov i) := S.2.2.2.2.2.1 i hi
theorem St.ne (S : St h y c k ov) {i : Nat} (hi : i < c) : ov i = .leaf ↔ i = 0 := by
  constructor
  · intro z
    by_cases h0 : i = 0
    · exact h0
    · exact absurd z (S.2.2.2.2.2.2.1 i (by omega) hi)
  · rintro rfl
    exact S.s0
theorem St.len (S : St h y c k ov) {i : Nat} (hi : i < c) : (pl (ov i)).length ≤ 8 := (S.good hi).2.1
theorem St.start (S : St h y c k ov) (hs : Sg h.1 y) {a : Int32} {i : Nat} (ha : a.toInt = i) (hi : i ≤ c) : (g_I h (y 0) (y 4) a).toInt = sv ov i := by
  rw [g_in ha (by have := S.2.2.1.1; omega)]
  exact S.2.2.2.1 i hi
theorem St.pows (S : St h y c k ov) (hs : Sg h.1 y) {a : Int32} {i : Nat} (ha : a.toInt = i) (hi : i < c) : (pw h y a).toInt = (pl (ov i)).length := by
  have h1 : (a + 1).toInt = (i + 1 : Nat) := by
    have := S.1.2.2.2.2
    rw [i_add (by rw [i_1]; omega) (by rw [i_1]; omega), ha, i_1]
    rfl
  have h2 := S.start hs h1 (by omega)
  have h3 := S.start hs ha (by omega)
  have h4 : sv ov (i + 1) = sv ov i + (pl (ov i)).length := rfl
  have h5 := S.len hi
  have h6 := sv_mono ov (show i + 1 ≤ c by omega)
  have h7 := S.2.2.1.2.2.1
  have h8 := sg_len hs
  show (g_I h (y 0) (y 4) (a + 1) - g_I h (y 0) (y 4) a).toInt = _
  rw [i_sub (by omega) (by omega), h2, h3]
  omega
theorem St.pix (S : St h y c k ov) {i m : Nat} (hi : i < c) (hm : m < (pl (ov i)).length) : sv ov i + m < sv ov c := by
  have h1 := sv_mono ov (show i + 1 ≤ c by omega)
  have h2 : sv ov (i + 1) = sv ov i + (pl (ov i)).length := rfl
  omega
theorem St.pk (S : St h y c k ov) (hs : Sg h.1 y) {a b : Int32} {i m : Nat} (ha : a.toInt = i) (hb : b.toInt = m) (hi : i < c) (hm : m < (pl (ov i)).length) : (g_I h (y 0) (y 4) a + b).toInt = (sv ov i + m : Nat) := by
  have h1 := S.start hs ha (by omega)
  have h2 := S.pix hi hm
  have h3 := S.2.2.1.2.2.1
  have h4 := sg_len hs
  rw [i_add (by omega) (by omega), h1, hb]
  omega
theorem St.tims (S : St h y c k ov) (hs : Sg h.1 y) {a b : Int32} {i m : Nat} {e : O} {n : Nat} (ha : a.toInt = i) (hb : b.toInt = m) (hi : i < c) (hm : (pl (ov i))[m]? = some (e, n)) : (tm h y a b).toInt = n := by
  have hl : m < (pl (ov i)).length := (List.getElem?_eq_some_iff.mp hm).1
  obtain ⟨j, -, -, -, h5⟩ := S.2.2.2.2.2.2.2 i hi m e n hm
  have h6 := S.pix hi hl
  show (g_I h (y 2) (y 6) _).toInt = _
  rw [g_in (S.pk hs ha hb hi hl) (by have := S.2.2.1.2.2.1; omega)]
  exact h5
theorem St.exps (S : St h y c k ov) (hs : Sg h.1 y) {a b : Int32} {i m : Nat} {e : O} {n : Nat} (ha : a.toInt = i) (hb : b.toInt = m) (hi : i < c) (hm : (pl (ov i))[m]? = some (e, n)) : ∃ j, j < i ∧ ov j = e ∧ (xp h y a b).toInt = j := by
  have hl : m < (pl (ov i)).length := (List.getElem?_eq_some_iff.mp hm).1
  obtain ⟨j, h2, h3, h4, -⟩ := S.2.2.2.2.2.2.2 i hi m e n hm
  have h6 := S.pix hi hl
  refine ⟨j, h2, h3, ?_⟩
  show (g_I h (y 3) (y 7) _).toInt = _
  rw [g_in (S.pk hs ha hb hi hl) (by have := S.2.2.1.2.2.2.1; omega)]
  exact h4
end
theorem a_Dr_sh (h : XH) (q t u n : Nat) (v : Int64) (e : Int32) : (a_Dr h q t u n v e).1 = h.1 := by
  unfold a_Dr
  split
  · rfl
  · show (p_I _ _ _ _ _).1 = _
    rw [p_I_sh, p_J_sh]
/-- a power more -/
theorem Do.add {h : XH} {q c : Nat} {ov : Nat → O} {L : List OP} {v : Int64} {e : Int32} {x : O} {n j : Nat} (D : Do h q c ov L) (hl : L.length < 64) (hv : v.toInt = n) (he : e.toInt = j) (hj : j < c) (hx : ov j = x) : Do (a_Dr h q (q + 1) (q + 2) 64 v e) q c ov (L ++ [(x, n)]) ∧ Fdr q h (a_Dr h q (q + 1) (q + 2) 64 v e) := by
  obtain ⟨D1, D2, D3⟩ := D
  have h0 : ¬ Int32.ofNat 64 ≤ h.2.1 q 2 := by
    rw [i_le, D1]
    have : (Int32.ofNat 64).toInt = 64 := rfl
    omega
  have e1 : a_Dr h q (q + 1) (q + 2) 64 v e = x_setI (x_setI (x_setJ h (q + 1) L.length v) (q + 2) L.length e) q 2 (h.2.1 q 2 + 1) := by
    rw [a_Dr, if_neg h0, pJ_in D1 (by omega), pI_in D1 (by omega)]
  rw [e1]
  have i1 : (h.2.1 q 2 + 1).toInt = (L.length + 1 : Nat) := by
    rw [i_add (by rw [i_1]; omega) (by rw [i_1]; omega), D1, i_1]
    rfl
  have r1 : ∀ r, r ≠ q → r ≠ q + 2 → (x_setI (x_setI (x_setJ h (q + 1) L.length v) (q + 2) L.length e) q 2 (h.2.1 q 2 + 1)).2.1 r = h.2.1 r := fun r a b => by
    rw [sI_nq _ _ a, sI_nq _ _ b]
    rfl
  have r2 : ∀ r, r ≠ q + 1 → (x_setI (x_setI (x_setJ h (q + 1) L.length v) (q + 2) L.length e) q 2 (h.2.1 q 2 + 1)).2.2.1 r = h.2.2.1 r := fun r a => sJ_nq h v a
  refine ⟨⟨?_, ?_, fun m e2 n2 hm => ?_⟩, rfl, rfl, fun r a b d => ⟨r1 r a d, r2 r b⟩⟩
  · rw [sI_eq, i1, List.length_append]
    rfl
  · rw [List.length_append]
    exact hl
  · have g1 : (x_setI (x_setI (x_setJ h (q + 1) L.length v) (q + 2) L.length e) q 2 (h.2.1 q 2 + 1)).2.1 (q + 2) m = if m = L.length then e else h.2.1 (q + 2) m := by
      rw [sI_nq _ _ (by omega : q + 2 ≠ q)]
      by_cases z : m = L.length
      · rw [z, sI_eq, if_pos rfl]
      · rw [sI_ne _ _ z, if_neg z]
        rfl
    have g2 : (x_setI (x_setI (x_setJ h (q + 1) L.length v) (q + 2) L.length e) q 2 (h.2.1 q 2 + 1)).2.2.1 (q + 1) m = if m = L.length then v else h.2.2.1 (q + 1) m := by
      show (x_setJ h (q + 1) L.length v).2.2.1 (q + 1) m = _
      by_cases z : m = L.length
      · rw [z, sJ_eq, if_pos rfl]
      · rw [sJ_ne _ _ z, if_neg z]
    rw [g1, g2]
    by_cases z : m < L.length
    · rw [List.getElem?_append_left z] at hm
      obtain ⟨j2, a, b, f, g⟩ := D3 m e2 n2 hm
      rw [if_neg (by omega), if_neg (by omega)]
      exact ⟨j2, a, b, f, g⟩
    · rw [List.getElem?_append_right (by omega)] at hm
      have z2 : m = L.length := by
        have := (List.getElem?_eq_some_iff.mp hm).1
        simp only [List.length_singleton] at this
        omega
      subst z2
      simp only [Nat.sub_self, List.getElem?_cons_zero, Option.some.injEq, Prod.mk.injEq] at hm
      rw [if_pos rfl, if_pos rfl]
      exact ⟨j, hj, hx.trans hm.1, he, by rw [hv, hm.2]⟩
theorem Do.restart (h : XH) (q c : Nat) (ov : Nat → O) : Do (x_setI h q 2 0) q c ov [] ∧ Fdr q h (x_setI h q 2 0) := by
  refine ⟨⟨?_, by decide, fun m e n hm => by cases hm⟩, rfl, rfl, fun r a _ _ => ⟨sI_nq h 0 a, rfl⟩⟩
  rw [sI_eq]
  rfl
