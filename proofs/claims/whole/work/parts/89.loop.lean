/-! ===== layer 4: the law's loop ===== -/
/-- a call's outcome, by its number -/
noncomputable def fO (j : Nat) (a b c e f g : Int32) (S : XS) : XC := match j with
  | 0 => f_kind a S
  | 1 => f_clear a S
  | 2 => f_finite a b S
  | 3 => f_omega a b S
  | 4 => f_number a b c S
  | 5 => f_signs a b c S
  | 6 => f_term a b c e f g S
  | 7 => f_sum a b c S
  | 8 => f_product a b c S
  | 9 => f_difference a b c S
  | 10 => f_natural a b c e S
  | 11 => f_derive a b S
  | 12 => f_compare a b S
  | 13 => f_step a b c S
  | 14 => f_descent a b c S
  | 15 => f_powers a S
  | 16 => f_times a b S
  | 17 => f_exponent a b c S
  | 18 => f_cut a b c S
  | 19 => f_birthday a S
  | 20 => f_signOf a b S
  | 21 => f_parts a S
  | 22 => f_tends a S
  | 23 => f_terms a S
  | 24 => f_part a b c S
  | _ => (0, 0, S)
def stepO (S : XS) (o : XC) : Prop := ∃ (j : Nat) (a b c e f g : Int32), j < 25 ∧ o = fO j a b c e f g S
def S_0 : XS := (fun _ => 0, fun _ => .leaf, fun _ => 0, fun _ => [])
def y_0 : Nat → Nat
  | 0 => 7
  | 1 => 8
  | 2 => 9
  | 3 => 10
  | 4 => 32
  | 5 => 32
  | 6 => 64
  | 7 => 64
  | 8 => 20
  | _ => 23
set_option maxRecDepth 100000 in
set_option maxHeartbeats 4000000 in
theorem sg_0 (L : Nat) (xs : Nat → Int32) : Sg (hp_189 L xs).1 y_0 := by
  refine ⟨fun k t hk => ?_, rfl, ⟨rfl, rfl, rfl, rfl⟩, rfl, Or.inl ⟨rfl, rfl⟩, ⟨Or.inl rfl, Or.inl rfl, Or.inl rfl, Or.inl rfl⟩, by decide, by decide⟩
  unfold shp at hk
  split at hk
  all_goals first
    | (cases hk; rfl)
    | cases hk
theorem gd_0 : gd .leaf := ⟨trivial, Nat.zero_le _, fun p hp => absurd hp List.not_mem_nil, Nat.zero_le _⟩
theorem CI_0 (L : Nat) (xs : Nat → Int32) : CI (hp_189 L xs) y_0 1 S_0 := by
  refine ⟨fun _ => .leaf, ⟨⟨rfl, rfl, Nat.le_refl _, Nat.le_refl _, by decide⟩, rfl, ⟨by decide, by decide, by decide, by decide, by unfold Yl; decide⟩, fun i hi => ?_, fun i hi => ?_, fun i hi => gd_0, fun i a b => absurd a (by omega), fun i hi m e n hm => by cases hm⟩, fun p hp => ⟨rfl, fun w => absurd w (by show ¬ (0 : Int32) = 1; decide), fun w => absurd w (by show ¬ (0 : Int32) = 2; decide), fun w => absurd w (by show ¬ (0 : Int32) = 3; decide)⟩⟩
  · match i, hi with
    | 0, _ => rfl
    | 1, _ => rfl
    | n + 2, h => exact absurd h (by omega)
  · match i, hi with
    | 0, _ => rfl
    | n + 1, h => exact absurd h (by omega)
theorem MI_0 (L : Nat) (xs : Nat → Int32) : MI (hp_189 L xs) S_0 := by
  refine ⟨1, fun _ => .leaf, ⟨⟨rfl, Nat.le_refl _, by decide⟩, rfl, fun i hi => ?_, fun i hi => ?_, fun i hi => gd_0, fun i j a b _ => by omega, fun i hi k e n hk => by cases hk⟩, fun p hp hk => absurd hk (by show ¬ (0 : Int32) = 1; decide), fun p hp => ⟨rfl, fun w => absurd w (by show ¬ (0 : Int32) = 2; decide), fun w => absurd w (by show ¬ (0 : Int32) = 3; decide)⟩⟩
  · match i, hi with
    | 0, _ => rfl
    | n + 1, h => exact absurd h (by omega)
  · match i, hi with
    | 0, _ => rfl
    | n + 1, h => exact absurd h (by omega)
theorem VA_0 : VA S_0 := ⟨fun p _ w => absurd w (by show ¬ (0 : Int32) = 2; decide), fun p _ w => absurd w (by show ¬ (0 : Int32) = 3; decide), fun _ _ => Or.inl rfl⟩
theorem i_and31 (x : Int32) : ∃ j, j < 32 ∧ (x &&& 31) = Int32.ofNat j := by
  have h1 : (x &&& 31).toBitVec.toNat = x.toBitVec.toNat % 32 := by
    show (x.toBitVec &&& 31#32).toNat = _
    rw [BitVec.toNat_and]
    show x.toBitVec.toNat &&& (2 ^ 5 - 1) = _
    rw [Nat.and_two_pow_sub_one_eq_mod]
  refine ⟨x.toBitVec.toNat % 32, by omega, Int32.toBitVec_inj.mp (BitVec.toNat_inj.mp ?_)⟩
  rw [h1]
  show _ = (BitVec.ofNat 32 (x.toBitVec.toNat % 32)).toNat
  rw [BitVec.toNat_ofNat]
  omega
/-- good, and so is all in it -/
def hgd (x : O) : Prop := gd x ∧ ∀ e, inS x e → gd e
def HG (S : XS) : Prop := ∀ p, p < 16 → S.1 p = 1 → hgd (S.2.1 p)
theorem inS_in : ∀ (x z : O), inS x z → ∃ p ∈ pl x, z = p.1 ∨ inS p.1 z := by
  intro x
  induction x with
  | leaf => intro z h; exact h.elim
  | inner n k v e r _ ih =>
    intro z h
    rcases h with w | w | w
    · exact ⟨(e, n), List.mem_cons_self, Or.inl w⟩
    · exact ⟨(e, n), List.mem_cons_self, Or.inr w⟩
    · obtain ⟨p, hp, g⟩ := ih z w
      exact ⟨p, List.mem_cons_of_mem _ hp, g⟩
theorem hgd_of {x : O} (g : gd x) (h : ∀ p ∈ pl x, hgd p.1) : hgd x := by
  refine ⟨g, fun e he => ?_⟩
  obtain ⟨p, hp, w⟩ := inS_in x e he
  rcases w with w | w
  · rw [w]; exact (h p hp).1
  · exact (h p hp).2 e w
theorem Mo.hg {h : XH} {m : Nat} {ov : Nat → O} (M : Mo h m ov) : ∀ n i, i < n → i < m → hgd (ov i) := by
  intro n
  induction n with
  | zero => intro i hi; omega
  | succ n ih =>
    intro i hi hm
    obtain ⟨-, -, -, -, M5, -, M7⟩ := M
    refine hgd_of (M5 i hm) (fun p hp => ?_)
    obtain ⟨k, hk⟩ := List.getElem?_of_mem hp
    obtain ⟨j, hj, e, -, -⟩ := M7 i hm k p.1 p.2 hk
    rw [← e]
    exact ih j (by omega) (by omega)
theorem MI.hg {h : XH} {S : XS} (J : MI h S) : HG S := by
  obtain ⟨m, om, M, P, Q⟩ := J
  intro p hp hk
  obtain ⟨c, c1, -, c3⟩ := P p hp (by rw [(Q p hp).1]; exact hk)
  rw [← c3]
  exact M.hg (c + 1) c (by omega) c1
theorem Ty_le {h : XH} {y : Nat → Nat} {c : Nat} {S : XS} (I : CI h y c S) : Ty y ≤ 589832 := by
  obtain ⟨ov, I1, -⟩ := I
  have := I1.2.2.1.2.2.2.2
  unfold Yl at this
  unfold Ty
  omega
/-- the loop's invariant, n calls made -/
def LI (PH : Nat → XS → Prop) (L : Nat) (xs : Nat → Int32) (n : Nat) (h : XH) (y : Nat → Nat) : Prop := Sg h.1 y ∧ h.1[0]? = some (5, L, []) ∧ h.2.1 0 = xs ∧ ∃ (c : Nat) (S : XS), CI h y c S ∧ c ≤ 1 + 9 * n ∧ MI h S ∧ VA S ∧ PH n S ∧ h.1.length ≤ 95 + Ty y + n ∧ h.2.2.2 ≤ 42681 + 2 * Ty y + 6 * n
def Kfin : XK := fun v h2 => v = some (.int 1) ∧ h2.1.length ≤ 601025 ∧ h2.2.2.2 ≤ 7293034
set_option maxRecDepth 100000 in
theorem law_case {d n L : Nat} {i : Int32} {xs : Nat → Int32} {h : XH} {y : Nat → Nat} {c : Nat} {S : XS} {u5 u6 u7 : Option Value} {K : XK} {E : XE} (hd : 70 ≤ d) (hs : Sg h.1 y) (hT : h.1[0]? = some (5, L, [])) (hx : h.2.1 0 = xs) (I : CI h y c S) (J : MI h S) (V : VA S) (LB : LBS S) (LD : LBD S) (hc : c + 10020 < 16384) (hi : i.toInt = n) (hk : n + 6 < L) (hL : L ≤ 3584) (kk : ∀ S2, (S2 = S ∨ ∃ o, stepO S o ∧ S2 = o.2.2) → KL i L xs c h y S2 d K E) : ∀ j, j < 32 → Ex d [] tb_L_law (40, [some (.ref 0), some (.ref 1), some (.ref 77), some (.ref 94), some (.int i), u5, u6, u7], [.int (Int32.ofNat j)]) h (Po K E) := by
  intro j hj
  match j, hj with
  | 0, _ =>
    refine Ex.pure 1 (fr2 := (156, [some (.ref 0), some (.ref 1), some (.ref 77), some (.ref 94), some (.int i), u5, u6, u7], [])) rfl ?_
    exact cs_kind hd hs hT hx I J V LB LD hc hi hk hL (kk _ (Or.inr ⟨_, ⟨0, (xs (n + 1)), 0, 0, 0, 0, 0, by decide, rfl⟩, rfl⟩))
  | 1, _ =>
    refine Ex.pure 1 (fr2 := (212, [some (.ref 0), some (.ref 1), some (.ref 77), some (.ref 94), some (.int i), u5, u6, u7], [])) rfl ?_
    exact cs_clear hd hs hT hx I J V LB LD hc hi hk hL (kk _ (Or.inr ⟨_, ⟨1, (xs (n + 1)), 0, 0, 0, 0, 0, by decide, rfl⟩, rfl⟩))
  | 2, _ =>
    refine Ex.pure 1 (fr2 := (268, [some (.ref 0), some (.ref 1), some (.ref 77), some (.ref 94), some (.int i), u5, u6, u7], [])) rfl ?_
    exact cs_finite hd hs hT hx I J V LB LD hc hi hk hL (kk _ (Or.inr ⟨_, ⟨2, (xs (n + 1)), (xs (n + 2)), 0, 0, 0, 0, by decide, rfl⟩, rfl⟩))
  | 3, _ =>
    refine Ex.pure 1 (fr2 := (316, [some (.ref 0), some (.ref 1), some (.ref 77), some (.ref 94), some (.int i), u5, u6, u7], [])) rfl ?_
    exact cs_omega hd hs hT hx I J V LB LD hc hi hk hL (kk _ (Or.inr ⟨_, ⟨3, (xs (n + 1)), (xs (n + 2)), 0, 0, 0, 0, by decide, rfl⟩, rfl⟩))
  | 4, _ =>
    refine Ex.pure 1 (fr2 := (364, [some (.ref 0), some (.ref 1), some (.ref 77), some (.ref 94), some (.int i), u5, u6, u7], [])) rfl ?_
    exact cs_number hd hs hT hx I J V LB LD hc hi hk hL (kk _ (Or.inr ⟨_, ⟨4, (xs (n + 1)), (xs (n + 2)), (xs (n + 3)), 0, 0, 0, by decide, rfl⟩, rfl⟩))
  | 5, _ =>
    refine Ex.pure 1 (fr2 := (424, [some (.ref 0), some (.ref 1), some (.ref 77), some (.ref 94), some (.int i), u5, u6, u7], [])) rfl ?_
    exact cs_signs hd hs hT hx I J V LB LD hc hi hk hL (kk _ (Or.inr ⟨_, ⟨5, (xs (n + 1)), (xs (n + 2)), (xs (n + 3)), 0, 0, 0, by decide, rfl⟩, rfl⟩))
  | 6, _ =>
    refine Ex.pure 1 (fr2 := (484, [some (.ref 0), some (.ref 1), some (.ref 77), some (.ref 94), some (.int i), u5, u6, u7], [])) rfl ?_
    exact cs_term hd hs hT hx I J V LB LD hc hi hk hL (kk _ (Or.inr ⟨_, ⟨6, (xs (n + 1)), (xs (n + 2)), (xs (n + 3)), (xs (n + 4)), (xs (n + 5)), (xs (n + 6)), by decide, rfl⟩, rfl⟩))
  | 7, _ =>
    refine Ex.pure 1 (fr2 := (582, [some (.ref 0), some (.ref 1), some (.ref 77), some (.ref 94), some (.int i), u5, u6, u7], [])) rfl ?_
    exact cs_sum hd hs hT hx I J V LB LD hc hi hk hL (kk _ (Or.inr ⟨_, ⟨7, (xs (n + 1)), (xs (n + 2)), (xs (n + 3)), 0, 0, 0, by decide, rfl⟩, rfl⟩))
  | 8, _ =>
    refine Ex.pure 1 (fr2 := (662, [some (.ref 0), some (.ref 1), some (.ref 77), some (.ref 94), some (.int i), u5, u6, u7], [])) rfl ?_
    exact cs_product hd hs hT hx I J V LB LD hc hi hk hL (kk _ (Or.inr ⟨_, ⟨8, (xs (n + 1)), (xs (n + 2)), (xs (n + 3)), 0, 0, 0, by decide, rfl⟩, rfl⟩))
  | 9, _ =>
    refine Ex.pure 1 (fr2 := (742, [some (.ref 0), some (.ref 1), some (.ref 77), some (.ref 94), some (.int i), u5, u6, u7], [])) rfl ?_
    exact cs_difference hd hs hT hx I J V LB LD hc hi hk hL (kk _ (Or.inr ⟨_, ⟨9, (xs (n + 1)), (xs (n + 2)), (xs (n + 3)), 0, 0, 0, by decide, rfl⟩, rfl⟩))
  | 10, _ =>
    refine Ex.pure 1 (fr2 := (822, [some (.ref 0), some (.ref 1), some (.ref 77), some (.ref 94), some (.int i), u5, u6, u7], [])) rfl ?_
    exact cs_natural hd hs hT hx I J V LB LD hc hi hk hL (kk _ (Or.inr ⟨_, ⟨10, (xs (n + 1)), (xs (n + 2)), (xs (n + 3)), (bi (¬ xs (n + 4) = 0)), 0, 0, by decide, rfl⟩, rfl⟩))
  | 11, _ =>
    refine Ex.pure 1 (fr2 := (910, [some (.ref 0), some (.ref 1), some (.ref 77), some (.ref 94), some (.int i), u5, u6, u7], [])) rfl ?_
    exact cs_derive hd hs hT hx I J V LB LD hc hi hk hL (kk _ (Or.inr ⟨_, ⟨11, (xs (n + 1)), (xs (n + 2)), 0, 0, 0, 0, by decide, rfl⟩, rfl⟩))
  | 12, _ =>
    refine Ex.pure 1 (fr2 := (958, [some (.ref 0), some (.ref 1), some (.ref 77), some (.ref 94), some (.int i), u5, u6, u7], [])) rfl ?_
    exact cs_compare hd hs hT hx I J V LB LD hc hi hk hL (kk _ (Or.inr ⟨_, ⟨12, (xs (n + 1)), (xs (n + 2)), 0, 0, 0, 0, by decide, rfl⟩, rfl⟩))
  | 13, _ =>
    refine Ex.pure 1 (fr2 := (1026, [some (.ref 0), some (.ref 1), some (.ref 77), some (.ref 94), some (.int i), u5, u6, u7], [])) rfl ?_
    exact cs_step hd hs hT hx I J V LB LD hc hi hk hL (kk _ (Or.inr ⟨_, ⟨13, (xs (n + 1)), (xs (n + 2)), (xs (n + 3)), 0, 0, 0, by decide, rfl⟩, rfl⟩))
  | 14, _ =>
    refine Ex.pure 1 (fr2 := (1086, [some (.ref 0), some (.ref 1), some (.ref 77), some (.ref 94), some (.int i), u5, u6, u7], [])) rfl ?_
    exact cs_descent hd hs hT hx I J V LB LD hc hi hk hL (kk _ (Or.inr ⟨_, ⟨14, (xs (n + 1)), (xs (n + 2)), (xs (n + 3)), 0, 0, 0, by decide, rfl⟩, rfl⟩))
  | 15, _ =>
    refine Ex.pure 1 (fr2 := (1166, [some (.ref 0), some (.ref 1), some (.ref 77), some (.ref 94), some (.int i), u5, u6, u7], [])) rfl ?_
    exact cs_powers hd hs hT hx I J V LB LD hc hi hk hL (kk _ (Or.inr ⟨_, ⟨15, (xs (n + 1)), 0, 0, 0, 0, 0, by decide, rfl⟩, rfl⟩))
  | 16, _ =>
    refine Ex.pure 1 (fr2 := (1222, [some (.ref 0), some (.ref 1), some (.ref 77), some (.ref 94), some (.int i), u5, u6, u7], [])) rfl ?_
    exact cs_times hd hs hT hx I J V LB LD hc hi hk hL (kk _ (Or.inr ⟨_, ⟨16, (xs (n + 1)), (xs (n + 2)), 0, 0, 0, 0, by decide, rfl⟩, rfl⟩))
  | 17, _ =>
    refine Ex.pure 1 (fr2 := (1289, [some (.ref 0), some (.ref 1), some (.ref 77), some (.ref 94), some (.int i), u5, u6, u7], [])) rfl ?_
    exact cs_exponent hd hs hT hx I J V LB LD hc hi hk hL (kk _ (Or.inr ⟨_, ⟨17, (xs (n + 1)), (xs (n + 2)), (xs (n + 3)), 0, 0, 0, by decide, rfl⟩, rfl⟩))
  | 18, _ =>
    refine Ex.pure 1 (fr2 := (1349, [some (.ref 0), some (.ref 1), some (.ref 77), some (.ref 94), some (.int i), u5, u6, u7], [])) rfl ?_
    exact cs_cut hd hs hT hx I J V LB LD hc hi hk hL (kk _ (Or.inr ⟨_, ⟨18, (xs (n + 1)), (xs (n + 2)), (xs (n + 3)), 0, 0, 0, by decide, rfl⟩, rfl⟩))
  | 19, _ =>
    refine Ex.pure 1 (fr2 := (1429, [some (.ref 0), some (.ref 1), some (.ref 77), some (.ref 94), some (.int i), u5, u6, u7], [])) rfl ?_
    exact cs_birthday hd hs hT hx I J V LB LD hc hi hk hL (kk _ (Or.inr ⟨_, ⟨19, (xs (n + 1)), 0, 0, 0, 0, 0, by decide, rfl⟩, rfl⟩))
  | 20, _ =>
    refine Ex.pure 1 (fr2 := (1485, [some (.ref 0), some (.ref 1), some (.ref 77), some (.ref 94), some (.int i), u5, u6, u7], [])) rfl ?_
    exact cs_signOf hd hs hT hx I J V LB LD hc hi hk hL (kk _ (Or.inr ⟨_, ⟨20, (xs (n + 1)), (xs (n + 2)), 0, 0, 0, 0, by decide, rfl⟩, rfl⟩))
  | 21, _ =>
    refine Ex.pure 1 (fr2 := (1553, [some (.ref 0), some (.ref 1), some (.ref 77), some (.ref 94), some (.int i), u5, u6, u7], [])) rfl ?_
    exact cs_parts hd hs hT hx I J V LB LD hc hi hk hL (kk _ (Or.inr ⟨_, ⟨21, (xs (n + 1)), 0, 0, 0, 0, 0, by decide, rfl⟩, rfl⟩))
  | 22, _ =>
    refine Ex.pure 1 (fr2 := (1608, [some (.ref 0), some (.ref 1), some (.ref 77), some (.ref 94), some (.int i), u5, u6, u7], [])) rfl ?_
    exact cs_tends hd hs hT hx I J V LB LD hc hi hk hL (kk _ (Or.inr ⟨_, ⟨22, (xs (n + 1)), 0, 0, 0, 0, 0, by decide, rfl⟩, rfl⟩))
  | 23, _ =>
    refine Ex.pure 1 (fr2 := (1664, [some (.ref 0), some (.ref 1), some (.ref 77), some (.ref 94), some (.int i), u5, u6, u7], [])) rfl ?_
    exact cs_terms hd hs hT hx I J V LB LD hc hi hk hL (kk _ (Or.inr ⟨_, ⟨23, (xs (n + 1)), 0, 0, 0, 0, 0, by decide, rfl⟩, rfl⟩))
  | 24, _ =>
    refine Ex.pure 1 (fr2 := (1720, [some (.ref 0), some (.ref 1), some (.ref 77), some (.ref 94), some (.int i), u5, u6, u7], [])) rfl ?_
    exact cs_part hd hs hT hx I J V LB LD hc hi hk hL (kk _ (Or.inr ⟨_, ⟨24, (xs (n + 1)), (xs (n + 2)), (xs (n + 3)), 0, 0, 0, by decide, rfl⟩, rfl⟩))
  | 25, _ =>
    refine Ex.pure 1 (fr2 := (1799, [some (.ref 0), some (.ref 1), some (.ref 77), some (.ref 94), some (.int i), u5, u6, u7], [])) rfl ?_
    exact kk S (Or.inl rfl) h y c u5 u6 u7 (Nat.le_refl _) (by omega) hs hT hx I J (by omega) (by omega)
  | 26, _ =>
    refine Ex.pure 1 (fr2 := (1799, [some (.ref 0), some (.ref 1), some (.ref 77), some (.ref 94), some (.int i), u5, u6, u7], [])) rfl ?_
    exact kk S (Or.inl rfl) h y c u5 u6 u7 (Nat.le_refl _) (by omega) hs hT hx I J (by omega) (by omega)
  | 27, _ =>
    refine Ex.pure 1 (fr2 := (1799, [some (.ref 0), some (.ref 1), some (.ref 77), some (.ref 94), some (.int i), u5, u6, u7], [])) rfl ?_
    exact kk S (Or.inl rfl) h y c u5 u6 u7 (Nat.le_refl _) (by omega) hs hT hx I J (by omega) (by omega)
  | 28, _ =>
    refine Ex.pure 1 (fr2 := (1799, [some (.ref 0), some (.ref 1), some (.ref 77), some (.ref 94), some (.int i), u5, u6, u7], [])) rfl ?_
    exact kk S (Or.inl rfl) h y c u5 u6 u7 (Nat.le_refl _) (by omega) hs hT hx I J (by omega) (by omega)
  | 29, _ =>
    refine Ex.pure 1 (fr2 := (1799, [some (.ref 0), some (.ref 1), some (.ref 77), some (.ref 94), some (.int i), u5, u6, u7], [])) rfl ?_
    exact kk S (Or.inl rfl) h y c u5 u6 u7 (Nat.le_refl _) (by omega) hs hT hx I J (by omega) (by omega)
  | 30, _ =>
    refine Ex.pure 1 (fr2 := (1799, [some (.ref 0), some (.ref 1), some (.ref 77), some (.ref 94), some (.int i), u5, u6, u7], [])) rfl ?_
    exact kk S (Or.inl rfl) h y c u5 u6 u7 (Nat.le_refl _) (by omega) hs hT hx I J (by omega) (by omega)
  | 31, _ =>
    refine Ex.pure 1 (fr2 := (1799, [some (.ref 0), some (.ref 1), some (.ref 77), some (.ref 94), some (.int i), u5, u6, u7], [])) rfl ?_
    exact kk S (Or.inl rfl) h y c u5 u6 u7 (Nat.le_refl _) (by omega) hs hT hx I J (by omega) (by omega)
  | n + 32, h => exact absurd h (by omega)
set_option maxRecDepth 100000 in
theorem law_loop {d L : Nat} {xs : Nat → Int32} {E : XE} (PH : Nat → XS → Prop) (hd : 70 ≤ d) (hL : L ≤ 3584) (p1 : ∀ n S, n ≤ 511 → VA S → HG S → PH n S → LBS S ∧ LBD S) (p2 : ∀ n S o, VA S → HG S → PH n S → stepO S o → VA o.2.2 ∧ (HG o.2.2 → PH (n + 1) o.2.2)) (p3 : ∀ n S, PH n S → PH (n + 1) S) : ∀ (q n : Nat) (i : Int32) (u5 u6 u7 : Option Value) (h : XH) (y : Nat → Nat), L ≤ 7 * (n + q) + 6 → 7 * n ≤ L + 6 → i.toInt = (7 * n : Nat) → LI PH L xs n h y → Ex d [] tb_L_law (23, [some (.ref 0), some (.ref 1), some (.ref 77), some (.ref 94), some (.int i), u5, u6, u7], []) h (Po Kfin E) := by
  have e7 : (7 : Int32).toInt = 7 := rfl
  have eL : (Int32.ofNat L).toInt = L := by rw [Int32.toInt_ofNat_of_lt (by omega)]
  have eL7 : (Int32.ofNat L - 7).toInt = L - 7 := by rw [i_sub (by rw [eL, e7]; omega) (by rw [eL, e7]; omega), eL, e7]
  intro q
  induction q with
  | zero =>
    intro n i u5 u6 u7 h y hq hn hi I
    obtain ⟨hs, hT, hx, c, S, I1, hc, J, V, ph, r1, r2⟩ := I
    have ty := Ty_le I1
    refine Ex.pure 2 (fr2 := (26, [some (.ref 0), some (.ref 1), some (.ref 77), some (.ref 94), some (.int i), u5, u6, u7], [.ref 0, .int i])) rfl ?_
    refine Ex.alen rfl (by decide) hT ?_
    refine Ex.pure 2 (fr2 := (30, [some (.ref 0), some (.ref 1), some (.ref 77), some (.ref 94), some (.int i), u5, u6, u7], [.int (Int32.ofNat L - 7), .int i])) rfl ?_
    refine Ex.br (x := (1805, [some (.ref 0), some (.ref 1), some (.ref 77), some (.ref 94), some (.int i), u5, u6, u7], [])) (y := (33, [some (.ref 0), some (.ref 1), some (.ref 77), some (.ref 94), some (.int i), u5, u6, u7], [])) (b := (Int32.ofNat L - 7) < i) rfl (fun _ => ?_) (fun hb => absurd (i_lt.mpr (by rw [eL7, hi]; omega)) hb)
    refine Ex.pure 1 (fr2 := (1806, [some (.ref 0), some (.ref 1), some (.ref 77), some (.ref 94), some (.int i), u5, u6, u7], [.int 1])) rfl ?_
    exact Ex.iret rfl (Or.inr ⟨rfl, by decide⟩) ⟨rfl, by omega, by omega⟩
  | succ q ih =>
    intro n i u5 u6 u7 h y hq hn hi I
    obtain ⟨hs, hT, hx, c, S, I1, hc, J, V, ph, r1, r2⟩ := I
    have ty := Ty_le I1
    refine Ex.pure 2 (fr2 := (26, [some (.ref 0), some (.ref 1), some (.ref 77), some (.ref 94), some (.int i), u5, u6, u7], [.ref 0, .int i])) rfl ?_
    refine Ex.alen rfl (by decide) hT ?_
    refine Ex.pure 2 (fr2 := (30, [some (.ref 0), some (.ref 1), some (.ref 77), some (.ref 94), some (.int i), u5, u6, u7], [.int (Int32.ofNat L - 7), .int i])) rfl ?_
    refine Ex.br (x := (1805, [some (.ref 0), some (.ref 1), some (.ref 77), some (.ref 94), some (.int i), u5, u6, u7], [])) (y := (33, [some (.ref 0), some (.ref 1), some (.ref 77), some (.ref 94), some (.int i), u5, u6, u7], [])) (b := (Int32.ofNat L - 7) < i) rfl (fun hb => ?_) (fun hb => ?_)
    · refine Ex.pure 1 (fr2 := (1806, [some (.ref 0), some (.ref 1), some (.ref 77), some (.ref 94), some (.int i), u5, u6, u7], [.int 1])) rfl ?_
      exact Ex.iret rfl (Or.inr ⟨rfl, by decide⟩) ⟨rfl, by omega, by omega⟩
    · rw [i_lt, eL7, hi] at hb
      have hk : 7 * n + 6 < L := by omega
      obtain ⟨LB, LD⟩ := p1 n S (by omega) V J.hg ph
      obtain ⟨j, hj, ej⟩ := i_and31 (xs (7 * n))
      refine Ex.pure 2 (fr2 := (36, [some (.ref 0), some (.ref 1), some (.ref 77), some (.ref 94), some (.int i), u5, u6, u7], [.int i, .ref 0])) rfl ?_
      refine Ex.scr rfl hT hx hi (by omega) ?_
      refine Ex.pure 2 (fr2 := (40, [some (.ref 0), some (.ref 1), some (.ref 77), some (.ref 94), some (.int i), u5, u6, u7], [.int (xs (7 * n) &&& 31)])) rfl ?_
      rw [ej]
      refine law_case (n := 7 * n) hd hs hT hx I1 J V LB LD (by omega) hi hk hL (fun S2 hS2 h2 y2 c2 v5 v6 v7 g1 g2 hs2 hT2 hx2 I2 J2 q1 q2 => ?_) j hj
      have nx : (i + 7).toInt = (7 * (n + 1) : Nat) := by rw [i_add (by rw [e7]; omega) (by rw [e7]; omega), hi, e7]; omega
      have VP : VA S2 ∧ PH (n + 1) S2 := by
        rcases hS2 with w | ⟨o, w1, w2⟩
        · rw [w]; exact ⟨V, p3 n S ph⟩
        · obtain ⟨g1, g2⟩ := p2 n S o V J.hg ph w1
          have J3 := J2.hg
          rw [w2] at J3
          rw [w2]; exact ⟨g1, g2 J3⟩
      refine Ex.pure 2 (fr2 := (23, [some (.ref 0), some (.ref 1), some (.ref 77), some (.ref 94), some (.int (i + 7)), v5, v6, v7], [])) rfl ?_
      exact ih (n + 1) (i + 7) v5 v6 v7 h2 y2 (by omega) (by omega) nx ⟨hs2, hT2, hx2, c2, S2, I2, by omega, J2, VP.1, VP.2, by omega, by omega⟩
theorem law_of (PH : Nat → XS → Prop) (p0 : PH 0 S_0) (p1 : ∀ n S, n ≤ 511 → VA S → HG S → PH n S → LBS S ∧ LBD S) (p2 : ∀ n S o, VA S → HG S → PH n S → stepO S o → VA o.2.2 ∧ (HG o.2.2 → PH (n + 1) o.2.2)) (p3 : ∀ n S, PH n S → PH (n + 1) S) : x_Law := by
  intro L xs hL
  have H : Ex 100 [] tb_L_law (0, x_entry [.ref 0] 8, []) (x_h0 L xs) (Po Kfin (fun _ _ => False)) := by
    refine law_begins (by omega) (law_loop PH (by omega) hL p1 p2 p3 (L / 7 + 1) 0 0 none none none (hp_189 L xs) y_0 (by omega) (by omega) rfl ⟨sg_0 L xs, rfl, rfl, 1, S_0, CI_0 L xs, by omega, MI_0 L xs, VA_0, p0, ?_, ?_⟩)
    · show 95 ≤ 95 + Ty y_0 + 0
      omega
    · show 42681 ≤ 42681 + 2 * Ty y_0 + 6 * 0
      omega
  obtain ⟨o, h2, F, p, e⟩ := H
  cases o with
  | inl v =>
    obtain ⟨rfl, q1, q2⟩ := p
    exact ⟨100, F, F, h2, by omega, e, q1, q2⟩
  | inr x => exact p.elim
