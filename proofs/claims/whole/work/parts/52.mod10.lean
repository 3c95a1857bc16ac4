/-! ===== layer 2: the model gathers: what is needed ===== -/
/-- y stands in x, at any depth -/
def inS : O → O → Prop
  | .leaf => fun _ => False
  | .inner _ _ _ e r => fun y => y = e ∨ inS e y ∨ inS r y
theorem inS_ex : ∀ (x : O) (p : OP), p ∈ pl x → inS x p.1 := by
  intro x
  induction x with
  | leaf => intro p hp; cases hp
  | inner n k v e r _ ih =>
    intro p hp
    rcases List.mem_cons.mp hp with z | z
    · rw [z]; exact Or.inl rfl
    · exact Or.inr (Or.inr (ih p z))
theorem inS_tr : ∀ (x y z : O), inS x y → inS y z → inS x z := by
  intro x
  induction x with
  | leaf => intro y z h _; exact h
  | inner n k v e r ihe ihr =>
    intro y z h h2
    rcases h with w | w | w
    · rw [w] at h2; exact Or.inr (Or.inl h2)
    · exact Or.inr (Or.inl (ihe y z w h2))
    · exact Or.inr (Or.inr (ihr y z w h2))
/-- a number that is held: kept, or by a place -/
def Rt (h : XH) (c : Nat) : Prop := (h.2.1 77 15).toInt = c ∨ ∃ p, p < 16 ∧ h.2.1 78 p = 1 ∧ (h.2.1 79 p).toInt = c
/-- 0, or in what is held -/
def Lv (h : XH) (m : Nat) (ov : Nat → O) (x : O) : Prop := x = .leaf ∨ ∃ c, c < m ∧ Rt h c ∧ (x = ov c ∨ inS (ov c) x)
/-- only the needs have changed -/
def F84 (h h1 : XH) : Prop := h1.1 = h.1 ∧ h1.2.2.2 = h.2.2.2 ∧ h1.2.2.1 = h.2.2.1 ∧ ∀ r, r ≠ 84 → h1.2.1 r = h.2.1 r
theorem F84.rf (h : XH) : F84 h h := ⟨rfl, rfl, rfl, fun _ _ => rfl⟩
theorem F84.set {h h1 : XH} (a : F84 h h1) (k : Nat) (v : Int32) : F84 h (x_setI h1 84 k v) := ⟨a.1, a.2.1, a.2.2.1, fun r hr => by rw [sI_nq _ _ hr]; exact a.2.2.2 r hr⟩
theorem F84.sg {h h1 : XH} {y : Nat → Nat} (a : F84 h h1) (hs : Sg h.1 y) : Sg h1.1 y := by rw [a.1]; exact hs
section
variable {d : Nat} {h : XH} {y : Nat → Nat} {m : Nat} {ov : Nat → O} {K : XK} {E : XE}
theorem F84.mo {h1 : XH} (a : F84 h h1) (M : Mo h m ov) : Mo h1 m ov := M.fr (by rw [a.2.2.2 77 (by omega)]) (fun r _ _ => a.2.2.2 r (by omega))
/-- marked: those of a set that holds at least, and at most -/
def Nd (h h1 : XH) (m : Nat) (ov : Nat → O) : Prop := F84 h h1 ∧ (∀ a, a < m → h1.2.1 84 a = 0 ∨ h1.2.1 84 a = 1) ∧ (∀ a, a < m → h1.2.1 84 a = 1 → Lv h m ov (ov a))
theorem Nd.set {h1 : XH} (N : Nd h h1 m ov) {k : Nat} (hl : Lv h m ov (ov k)) : Nd h (x_setI h1 84 k 1) m ov := by
  obtain ⟨N1, N2, N3⟩ := N
  refine ⟨N1.set k 1, fun a ha => ?_, fun a ha hv => ?_⟩
  · by_cases z : a = k
    · rw [z, sI_eq]; exact Or.inr rfl
    · rw [sI_ne _ _ z]; exact N2 a ha
  · by_cases z : a = k
    · rw [z]; exact hl
    · rw [sI_ne _ _ z] at hv
      exact N3 a ha hv
theorem set1 {h1 : XH} {k a : Nat} (hv : h1.2.1 84 a = 1) : (x_setI h1 84 k 1).2.1 84 a = 1 := by
  by_cases z : a = k
  · rw [z, sI_eq]
  · rw [sI_ne _ _ z]; exact hv
/-- the three marking loops -/
theorem t_gat_mark {kp : Nat} (hd : 20 ≤ d) (hs : Sg h.1 y) (M : Mo h m ov) (hk : (h.2.1 77 15).toInt = kp) (hkp : kp < m) (hP : ∀ p, p < 16 → h.2.1 78 p = 1 → ∃ c : Nat, c < m ∧ (h.2.1 79 p).toInt = c)
    (kk : ∀ (u3 : Option Value) (h1 : XH), Nd h h1 m ov → h1.2.1 84 0 = 1 → h1.2.1 84 kp = 1 → (∀ p, p < 16 → h.2.1 78 p = 1 → ∀ c : Nat, (h.2.1 79 p).toInt = c → h1.2.1 84 c = 1) → (∀ a, a < m → h1.2.1 84 a = 1 → ∀ (k : Nat) (e : O) (n : Nat), (pl (ov a))[k]? = some (e, n) → ∀ j : Nat, (h.2.1 80 (8 * a + k)).toInt = j → h1.2.1 84 j = 1) → b_X7_gathers_155 d 77 0 0 u3 h1 K E) : b_X7_gathers_13 d 77 0 none none h K E := by
  have hm := M.1.1
  have hm1 := M.1.2.1
  have hm2 := M.1.2.2
  have em1 : (-1 : Int32).toInt = -1 := rfl
  have rk : Lv h m ov (ov kp) := Or.inr ⟨kp, hkp, Or.inl hk, Or.inl rfl⟩
  -- the exponents' loop
  have close : ∀ (q : Nat) (l1 : Int32) (u2 u3 : Option Value) (h1 : XH), q < m → l1.toInt = q → Nd h h1 m ov → h1.2.1 84 0 = 1 → h1.2.1 84 kp = 1 → (∀ p, p < 16 → h.2.1 78 p = 1 → ∀ c : Nat, (h.2.1 79 p).toInt = c → h1.2.1 84 c = 1) → (∀ a, q < a → a < m → h1.2.1 84 a = 1 → ∀ (k : Nat) (e : O) (n : Nat), (pl (ov a))[k]? = some (e, n) → ∀ j : Nat, (h.2.1 80 (8 * a + k)).toInt = j → h1.2.1 84 j = 1) → b_X7_gathers_93 d 77 l1 u2 u3 h1 K E := by
    intro q
    induction q with
    | zero =>
      intro l1 u2 u3 h1 hq h1' N n0 nk nP nC
      refine w_X7_gathers_93 hd (N.1.sg hs) ⟨fun _ => kk u3 h1 N n0 nk nP (fun a ha hv k e n g => ?_), fun w => absurd (i_le.mpr (by rw [i_0]; omega)) w⟩
      by_cases z : a = 0
      · rw [z, M.2.1] at g
        cases g
      · exact nC a (by omega) ha hv k e n g
    | succ q ih =>
      intro l1 u2 u3 h1 hq h1' N n0 nk nP nC
      have li := M.len hq
      have k8 := e8m l1 h1' (by omega)
      refine w_X7_gathers_93 hd (N.1.sg hs) ⟨fun w => absurd (i_le.mp w) (by rw [i_0]; omega), fun _ => ?_⟩
      obtain ⟨l9, hl9, m9⟩ : ∃ z : Int32, z = l1 + (-1) ∧ z.toInt = q := ⟨_, rfl, by rw [i_add (by rw [em1]; omega) (by rw [em1]; omega), h1', em1]; omega⟩
      have done : ∀ (u2 : Option Value) (h2 : XH), Nd h h2 m ov → h2.2.1 84 0 = 1 → h2.2.1 84 kp = 1 → (∀ p, p < 16 → h.2.1 78 p = 1 → ∀ c : Nat, (h.2.1 79 p).toInt = c → h2.2.1 84 c = 1) → (∀ a, q + 1 < a → a < m → h2.2.1 84 a = 1 → ∀ (k : Nat) (e : O) (n : Nat), (pl (ov a))[k]? = some (e, n) → ∀ j : Nat, (h.2.1 80 (8 * a + k)).toInt = j → h2.2.1 84 j = 1) → (h2.2.1 84 (q + 1) = 1 → ∀ (k : Nat) (e : O) (n : Nat), (pl (ov (q + 1)))[k]? = some (e, n) → ∀ j : Nat, (h.2.1 80 (8 * (q + 1) + k)).toInt = j → h2.2.1 84 j = 1) → b_X7_gathers_145 d 77 l1 u2 u3 h2 K E := by
        intro u2 h2 N2 a0 ak aP aC aq
        refine w_X7_gathers_145 hd (N2.1.sg hs) ?_
        rw [← hl9]
        refine ih l9 _ _ h2 (by omega) m9 N2 a0 ak aP (fun a ha ha2 hv => ?_)
        by_cases z : a = q + 1
        · subst z; exact aq hv
        · exact aC a (by omega) ha2 hv
      have inner : ∀ (p t : Nat) (l2 : Int32) (h2 : XH), p + t = (pl (ov (q + 1))).length → l2.toInt = (8 * (q + 1) + t : Nat) → Nd h h2 m ov → h2.2.1 84 0 = 1 → h2.2.1 84 kp = 1 → (∀ p, p < 16 → h.2.1 78 p = 1 → ∀ c : Nat, (h.2.1 79 p).toInt = c → h2.2.1 84 c = 1) → (∀ a, q + 1 < a → a < m → h2.2.1 84 a = 1 → ∀ (k : Nat) (e : O) (n : Nat), (pl (ov a))[k]? = some (e, n) → ∀ j : Nat, (h.2.1 80 (8 * a + k)).toInt = j → h2.2.1 84 j = 1) → (h2.2.1 84 (q + 1) = 1 → ∀ (k : Nat) (e : O) (n : Nat), k < t → (pl (ov (q + 1)))[k]? = some (e, n) → ∀ j : Nat, (h.2.1 80 (8 * (q + 1) + k)).toInt = j → h2.2.1 84 j = 1) → b_X7_gathers_102 d 77 l1 l2 u3 h2 K E := by
        intro p
        induction p with
        | zero =>
          intro t l2 h2 hp h2' N2 a0 ak aP aC aq
          have s2 := (N2.1.mo M).2.2.1 (q + 1) hq
          have ea : (8 * l1 + h2.2.1 82 (ix l1)).toInt = (8 * (q + 1) + (pl (ov (q + 1))).length : Nat) := by rw [i_ix h1', i_add (by rw [k8, s2]; omega) (by rw [k8, s2]; omega), k8, s2]; omega
          refine w_X7_gathers_102 hd (N2.1.sg hs) ⟨i_Ix h1' (by omega), fun _ => done _ h2 N2 a0 ak aP aC (fun hv k e n g => aq hv k e n (by have := (List.getElem?_eq_some_iff.mp g).1; omega) g), fun w => absurd (i_le.mpr (by rw [ea, h2']; omega)) w⟩
        | succ p ihp =>
          intro t l2 h2 hp h2' N2 a0 ak aP aC aq
          have M2 := N2.1.mo M
          have s2 := M2.2.2.1 (q + 1) hq
          have ea : (8 * l1 + h2.2.1 82 (ix l1)).toInt = (8 * (q + 1) + (pl (ov (q + 1))).length : Nat) := by rw [i_ix h1', i_add (by rw [k8, s2]; omega) (by rw [k8, s2]; omega), k8, s2]; omega
          obtain ⟨e, n, g⟩ := getc (A := pl (ov (q + 1))) (m := t) (by omega)
          obtain ⟨x1, x2, x3, x4, x5⟩ := M2.pw hq g
          have i80 : h2.2.1 80 = h.2.1 80 := N2.1.2.2.2 80 (by omega)
          refine w_X7_gathers_102 hd (N2.1.sg hs) ⟨i_Ix h1' (by omega), fun w => absurd (i_le.mp w) (by rw [ea, h2']; omega), fun _ => ⟨i_Ix h1' (by omega), fun w => done _ h2 N2 a0 ak aP aC (fun hv => ?_), fun w => ⟨i_Ix h2' (by omega), ?_, fun h3 e3 => ?_⟩⟩⟩
          · rw [i_ix h1'] at w
            exact absurd hv w
          · rw [i_ix h2']; exact i_Ix x4 (by omega)
          · rw [i_ix h1'] at w
            have hv := Classical.not_not.mp w
            rw [i_ix h2', i_ix x4] at e3
            have hlv : Lv h m ov (ov x1) := by
              rw [x3]
              have hex := inS_ex (ov (q + 1)) (e, n) (List.mem_of_getElem? g)
              rcases N2.2.2 (q + 1) hq hv with z | ⟨c, c1, c2, c3⟩
              · rw [z] at hex; exact False.elim hex
              · rcases c3 with z | z
                · rw [z] at hex; exact Or.inr ⟨c, c1, c2, Or.inr hex⟩
                · exact Or.inr ⟨c, c1, c2, Or.inr (inS_tr _ _ _ z hex)⟩
            subst e3
            refine ihp (t + 1) (l2 + 1) _ (by omega) ?_ (N2.set hlv) (set1 a0) (set1 ak) (fun p9 b1 b2 c b3 => set1 (aP p9 b1 b2 c b3)) (fun a b1 b2 hv9 k e9 n9 g9 j9 b3 => ?_) (fun _ k e9 n9 hk g9 j9 b3 => ?_)
            · rw [i_add (by rw [i_1]; omega) (by rw [i_1]; omega), h2', i_1]; omega
            · rw [sI_ne _ _ (show a ≠ x1 by omega)] at hv9
              exact set1 (aC a b1 b2 hv9 k e9 n9 g9 j9 b3)
            · by_cases z : k = t
              · rw [i80] at x4
                rw [z, x4] at b3
                rw [show j9 = x1 by omega, sI_eq]
              · exact set1 (aq hv k e9 n9 (by omega) g9 j9 b3)
      exact inner _ 0 (8 * l1) h1 (Nat.add_zero _) (by rw [k8]; rfl) N n0 nk nP nC (fun _ k e n hk => by omega)
  -- the places' loop
  have places : ∀ (q p : Nat) (l1 : Int32) (u2 u3 : Option Value) (h1 : XH), q + p = 16 → l1.toInt = p → Nd h h1 m ov → h1.2.1 84 0 = 1 → h1.2.1 84 kp = 1 → (∀ p9, p9 < p → h.2.1 78 p9 = 1 → ∀ c : Nat, (h.2.1 79 p9).toInt = c → h1.2.1 84 c = 1) → b_X7_gathers_52 d 77 l1 u2 u3 h1 K E := by
    intro q
    have e16 : (16 : Int32).toInt = 16 := rfl
    induction q with
    | zero =>
      intro p l1 u2 u3 h1 hp h1' N n0 nk nP
      have m77 : h1.2.1 77 = h.2.1 77 := N.1.2.2.2 77 (by omega)
      refine w_X7_gathers_52 hd (N.1.sg hs) ⟨fun _ => close (m - 1) _ _ _ h1 (by omega) ?_ N n0 nk (fun p9 b1 b2 => nP p9 (by omega) b2) (fun a b1 b2 => by omega), fun w => absurd (i_le.mpr (by rw [e16]; omega)) w⟩
      rw [m77, i_sub (by rw [i_1]; omega) (by rw [i_1]; omega), hm, i_1]; omega
    | succ q ih =>
      intro p l1 u2 u3 h1 hp h1' N n0 nk nP
      have hs1 := N.1.sg hs
      have i78 : h1.2.1 78 = h.2.1 78 := N.1.2.2.2 78 (by omega)
      have i79 : h1.2.1 79 = h.2.1 79 := N.1.2.2.2 79 (by omega)
      have nx : (l1 + 1).toInt = (p + 1 : Nat) := by rw [i_add (by rw [i_1]; omega) (by rw [i_1]; omega), h1', i_1]; rfl
      refine w_X7_gathers_52 hd hs1 ⟨fun w => absurd (i_le.mp w) (by rw [e16]; omega), fun _ => ⟨i_Ix h1' (by omega), fun w => w_X7_gathers_80 hd hs1 (ih (p + 1) _ _ _ h1 (by omega) nx N n0 nk (fun p9 b1 b2 c b3 => ?_)), fun w => ⟨i_Ix h1' (by omega), ?_, fun h2 e2 => ?_⟩⟩⟩
      · by_cases z : p9 = p
        · rw [i_ix h1', i78] at w
          rw [z] at b2
          exact absurd b2 w
        · exact nP p9 (by omega) b2 c b3
      · rw [i_ix h1', i78] at w
        obtain ⟨c, c1, c2⟩ := hP p (by omega) (Classical.not_not.mp w)
        rw [i_ix h1', i79]
        exact i_Ix c2 (by omega)
      · rw [i_ix h1', i78] at w
        have hv := Classical.not_not.mp w
        obtain ⟨c, c1, c2⟩ := hP p (by omega) hv
        rw [i_ix h1', i79, i_ix c2] at e2
        have hlv : Lv h m ov (ov c) := Or.inr ⟨c, c1, Or.inr ⟨p, by omega, hv, c2⟩, Or.inl rfl⟩
        subst e2
        have N2 := N.set hlv
        refine w_X7_gathers_80 hd (N2.1.sg hs) (ih (p + 1) _ _ _ _ (by omega) nx N2 (set1 n0) (set1 nk) (fun p9 b1 b2 c9 b3 => ?_))
        by_cases z : p9 = p
        · rw [z, c2] at b3
          rw [show c9 = c by omega, sI_eq]
        · exact set1 (nP p9 (by omega) b2 c9 b3)
  -- the first loop
  have first : ∀ (q t : Nat) (l1 : Int32) (u2 u3 : Option Value) (h1 : XH), q + t = m → l1.toInt = t → F84 h h1 → (∀ a, a < t → h1.2.1 84 a = 0 ∨ h1.2.1 84 a = 1) → (∀ a, a < t → h1.2.1 84 a = 1 → a = 0 ∨ a = kp) → (0 < t → h1.2.1 84 0 = 1) → (kp < t → h1.2.1 84 kp = 1) → b_X7_gathers_13 d 77 l1 u2 u3 h1 K E := by
    intro q
    induction q with
    | zero =>
      intro t l1 u2 u3 h1 hq h1' F a1 a2 a3 a4
      have m77 : h1.2.1 77 = h.2.1 77 := F.2.2.2 77 (by omega)
      refine w_X7_gathers_13 hd (F.sg hs) ⟨fun _ => places 16 0 0 _ _ h1 rfl rfl ⟨F, fun a ha => a1 a (by omega), fun a ha hv => ?_⟩ (a3 (by omega)) (a4 (by omega)) (fun p9 b1 => by omega), fun w => absurd (i_le.mpr (by rw [m77, hm]; omega)) w⟩
      rcases a2 a (by omega) hv with z | z
      · rw [z, M.2.1]; exact Or.inl rfl
      · rw [z]; exact rk
    | succ q ih =>
      intro t l1 u2 u3 h1 hq h1' F a1 a2 a3 a4
      have hs1 := F.sg hs
      have m77 : h1.2.1 77 = h.2.1 77 := F.2.2.2 77 (by omega)
      have nx : (l1 + 1).toInt = (t + 1 : Nat) := by rw [i_add (by rw [i_1]; omega) (by rw [i_1]; omega), h1', i_1]; rfl
      have go : ∀ (s0 : Int32) (u2 u3 : Option Value), (s0 = 0 ∨ s0 = 1) → (s0 = 1 ↔ t = 0 ∨ t = kp) → b_X7_gathers_43 d 77 l1 u2 u3 s0 l1 84 h1 K E := by
        intro s0 u2 u3 h01 hif
        refine w_X7_gathers_43 hd hs1 ⟨i_Ix h1' (by omega), fun h2 e2 => ?_⟩
        rw [i_ix h1'] at e2
        have v : ∀ a, h2.2.1 84 a = if a = t then s0 else h1.2.1 84 a := fun a => by
          rw [e2]
          by_cases z : a = t
          · rw [z, sI_eq, if_pos rfl]
          · rw [sI_ne _ _ z, if_neg z]
        refine ih (t + 1) _ _ _ h2 (by omega) nx (by rw [e2]; exact F.set t s0) (fun a ha => ?_) (fun a ha hv => ?_) (fun _ => ?_) (fun hk9 => ?_)
        · rw [v]
          by_cases z : a = t
          · rw [if_pos z]; exact h01
          · rw [if_neg z]; exact a1 a (by omega)
        · rw [v] at hv
          by_cases z : a = t
          · rw [if_pos z] at hv
            rw [z]; exact hif.mp hv
          · rw [if_neg z] at hv
            exact a2 a (by omega) hv
        · rw [v]
          by_cases z : 0 = t
          · rw [if_pos z]; exact hif.mpr (Or.inl z.symm)
          · rw [if_neg z]; exact a3 (by omega)
        · rw [v]
          by_cases z : kp = t
          · rw [if_pos z]; exact hif.mpr (Or.inr z.symm)
          · rw [if_neg z]; exact a4 (by omega)
      refine w_X7_gathers_13 hd hs1 ⟨fun w => absurd (i_le.mp w) (by rw [m77, hm]; omega), fun _ => ⟨fun w => w_X7_gathers_38 hd hs1 (go 1 _ _ (Or.inr rfl) ⟨fun _ => Or.inl (by have := i_ne.mp w; omega), fun _ => rfl⟩), fun w => ⟨fun v => go 0 _ _ (Or.inl rfl) ⟨fun q9 => absurd q9 (by decide), fun q9 => ?_⟩, fun v => w_X7_gathers_38 hd hs1 (go 1 _ _ (Or.inr rfl) ⟨fun _ => Or.inr ?_, fun _ => rfl⟩)⟩⟩⟩
      · rcases q9 with z | z
        · exact absurd (i_ne.mpr (by rw [h1', z]; rfl)) w
        · exact absurd (Int32.toInt_inj.mp (by rw [h1', m77, hk, z])) v
      · have := congrArg Int32.toInt (Classical.not_not.mp v)
        rw [h1', m77, hk] at this
        omega
  exact first m 0 0 none none h (Nat.add_zero _) rfl (F84.rf h) (fun a ha => by omega) (fun a ha => by omega) (fun z => by omega) (fun z => by omega)
end
