/-! ===== layer 2: contracts of the class's ordinals: drafts and what is made ===== -/
/-- the store alone has changed; n exceptions more -/
def Fs (n : Nat) (h : XH) (y : Nat → Nat) (h2 : XH) (y2 : Nat → Nat) : Prop :=
  Sg h2.1 y2 ∧ (∀ r, (r ≤ 5 ∨ 18 ≤ r) → r < 77 → h2.2.1 r = h.2.1 r ∧ h2.2.2.1 r = h.2.2.1 r) ∧ (y2 8 = y 8 ∧ y2 9 = y 9) ∧
  h2.1.length + Ty y ≤ h.1.length + Ty y2 + n ∧ h2.2.2.2 + 2 * Ty y ≤ h.2.2.2 + 2 * Ty y2 + 6 * n
theorem Fs.tr {n m : Nat} {h h2 h3 : XH} {y y2 y3 : Nat → Nat} (a : Fs n h y h2 y2) (b : Fs m h2 y2 h3 y3) : Fs (n + m) h y h3 y3 := by
  obtain ⟨a1, a2, a3, a4, a5⟩ := a
  obtain ⟨b1, b2, b3, b4, b5⟩ := b
  refine ⟨b1, fun r h1 h2 => ?_, ⟨b3.1.trans a3.1, b3.2.trans a3.2⟩, by omega, by omega⟩
  rw [(b2 r h1 h2).1, (b2 r h1 h2).2]
  exact a2 r h1 h2
theorem Fs.rf {h : XH} {y : Nat → Nat} (hs : Sg h.1 y) : Fs 0 h y h y := ⟨hs, fun _ _ _ => ⟨rfl, rfl⟩, ⟨rfl, rfl⟩, Nat.le_refl _, Nat.le_refl _⟩
theorem Fs.fd {h h2 : XH} {y : Nat → Nat} {q : Nat} (hs : Sg h.1 y) (F : Fdr q h h2) (hq : q = 11 ∨ q = 14) : Fs 0 h y h2 y := by
  refine ⟨F.sg hs, fun r h1 h2 => F.2.2 r (by omega) (by omega) (by omega), ⟨rfl, rfl⟩, ?_, ?_⟩
  · rw [F.1]; exact Nat.le_refl _
  · rw [F.2.1]; exact Nat.le_refl _
theorem Fs.gw {n : Nat} {h h2 : XH} {y y2 : Nat → Nat} (hs : Sg h.1 y) (G : Gw n h y h2 y2) : Fs n h y h2 y2 := by
  have := sg_size hs
  exact ⟨G.1, fun r h1 h2 => G.2.1 r (by omega), G.2.2.2.2.1, G.2.2.2.2.2⟩
section
variable {d : Nat} {h : XH} {y : Nat → Nat} {c k : Nat} {ov : Nat → O} {K : XK} {E : XE}
theorem t_X2_draftLess {a b : Int32} {i l : Nat} {e : O} {n : Nat} (hd : 22 ≤ d) (hs : Sg h.1 y) (S : St h y c k ov) (ha : a.toInt = i) (hb : b.toInt = l) (hi : i < c) (hm : (pl (ov i))[(pl (ov i)).length - 1]? = some (e, n)) (kk : ∀ h2, Do h2 11 c ov ((pl (ov i)).take ((pl (ov i)).length - 1) ++ (if l < n then [(e, n - l)] else [])) → Fdr 11 h h2 → K none h2) : Ca d m_X2_draftLess [.ref 6, .int a, .int b] h K E := by
  obtain ⟨d, rfl⟩ : ∃ e, d = e + 1 := ⟨d - 1, by omega⟩
  have p1 := S.pows hs ha hi
  have n1 := S.len hi
  have hl : (pl (ov i)).length - 1 < (pl (ov i)).length := (List.getElem?_eq_some_iff.mp hm).1
  have hlast : (pw h y a - 1).toInt = ((pl (ov i)).length - 1 : Nat) := by
    rw [i_sub (by rw [i_1]; omega) (by rw [i_1]; omega), p1, i_1]
    omega
  refine w_X2_draftLess (by omega) hs (fun h2 e2 => ?_)
  obtain ⟨D2, F2⟩ := Do.restart h 11 c ov
  rw [← e2] at D2 F2
  have hs2 := F2.sg hs
  have S2 := S.fd hs F2 (Or.inl rfl)
  refine t_X2_draftPowers (by omega) hs2 S2 D2 ha i_0 hlast hi (by omega) (by simp only [List.length_nil]; omega) (fun h3 D3 F3 => ⟨rfl, F3.sg hs2, ?_⟩)
  have hs3 := F3.sg hs2
  have S3 := S2.fd hs2 F3 (Or.inl rfl)
  have t3 := S3.tims hs3 ha hlast hi hm
  obtain ⟨j, j1, j2, j3⟩ := S3.exps hs3 ha hlast hi hm
  rw [List.nil_append, List.drop_zero] at D3
  refine ⟨fun z => kk h3 ?_ (F2.tr F3), fun z h8 e8 => ?_⟩
  · rw [i_le, t3, hb] at z
    rw [if_neg (by omega), List.append_nil]
    exact D3
  · rw [i_le, t3, hb] at z
    obtain ⟨D4, F4⟩ := D3.add (v := (tm h3 y a (pw h y a - 1) - b).toInt64) (n := n - l) (by rw [List.length_take]; omega) (by
      have := i_hi (tm h3 y a (pw h y a - 1))
      rw [i_2j, i_sub (by omega) (by omega), t3, hb]
      omega) j3 (by omega) j2
    subst e8
    refine kk _ ?_ ((F2.tr F3).tr F4)
    rw [if_pos (by omega)]
    exact D4
/-- how many times the last power is, if it is finite -/
def tl (A : List OP) : Nat := match A[A.length - 1]? with
  | some (.leaf, n) => n
  | _ => 0
theorem t_X2_finiteTail {a : Int32} {i : Nat} (hd : 21 ≤ d) (hs : Sg h.1 y) (S : St h y c k ov) (ha : a.toInt = i) (hi : i < c) (kk : ∀ r : Int32, r.toInt = tl (pl (ov i)) → K (some (.int r)) h) : Ca d m_X2_finiteTail [.ref 6, .int a] h K E := by
  obtain ⟨d, rfl⟩ : ∃ e, d = e + 1 := ⟨d - 1, by omega⟩
  have p1 := S.pows hs ha hi
  have n1 := S.len hi
  have h0 : (pw h y a - 1).toInt = (pl (ov i)).length - 1 := by rw [i_sub (by rw [i_1]; omega) (by rw [i_1]; omega), p1, i_1]
  refine w_X2_finiteTail (by omega) hs ⟨fun z => kk 0 ?_, fun z => ?_⟩
  · rw [i_lt, h0, i_0] at z
    have : pl (ov i) = [] := List.eq_nil_of_length_eq_zero (by omega)
    rw [this]
    rfl
  · rw [i_lt, h0, i_0] at z
    obtain ⟨e, n, g⟩ := getc (A := pl (ov i)) (m := (pl (ov i)).length - 1) (by omega)
    have hlast : (pw h y a - 1).toInt = ((pl (ov i)).length - 1 : Nat) := by rw [h0]; omega
    obtain ⟨j, j1, j2, j3⟩ := S.exps hs ha hlast hi g
    have t3 := S.tims hs ha hlast hi g
    have hj := S.ne (show j < c by omega)
    rw [j2] at hj
    refine ⟨fun q => kk 0 ?_, fun q => kk _ ?_⟩
    · have : ¬ e = .leaf := fun w => q (i_ne.mpr (by rw [j3, hj.mp w]; rfl))
      unfold tl
      rw [g]
      cases e with
      | leaf => exact absurd rfl this
      | inner => rfl
    · have : e = .leaf := hj.mpr (by have := i_ne.mp (Classical.not_not.mp q); omega)
      subst this
      unfold tl
      rw [g, t3]
/-- the greatest depth of the exponents -/
def dm : List OP → Nat
  | [] => 0
  | p :: l => max (dep p.1) (dm l)
theorem dm_app : ∀ a b, dm (a ++ b) = max (dm a) (dm b) := by
  intro a b
  induction a with
  | nil => show dm b = max 0 (dm b); omega
  | cons p a ih => show max _ (dm (a ++ b)) = max (max _ (dm a)) _; rw [ih]; omega
theorem dep_mk : ∀ L, L ≠ [] → dep (mk L) = dm L + 1 := by
  intro L
  induction L with
  | nil => intro z; exact absurd rfl z
  | cons p L ih =>
    intro _
    obtain ⟨e, n⟩ := p
    show max (dep e + 1) (dep (mk L)) = max (dep e) (dm L) + 1
    cases L with
    | nil => show max (dep e + 1) 0 = max (dep e) 0 + 1; omega
    | cons q L => rw [ih (by simp)]; omega
theorem t_X2_depthOf {o : Nat} {L : List OP} (hd : 21 ≤ d) (hs : Sg h.1 y) (S : St h y c k ov) (ho : Dq h.1 o) (D : Do h o c ov L) (kk : ∀ r : Int32, r.toInt = (dm L + 1 : Nat) → K (some (.int r)) h) : Ca d m_X2_depthOf [.ref 6, .ref o] h K E := by
  obtain ⟨d, rfl⟩ : ∃ e, d = e + 1 := ⟨d - 1, by omega⟩
  have loop : ∀ (q m : Nat) (l2 l3 : Int32), q + m = L.length → l3.toInt = m → l2.toInt = dm (L.take m) → dm (L.take m) ≤ 5 → b_X2_depthOf_4 d 6 o l2 l3 h K E := by
    intro q
    induction q with
    | zero =>
      intro m l2 l3 hq h3 h2 h5
      refine w_X2_depthOf_4 (by omega) hs ho ⟨fun _ => kk _ ?_, fun z => absurd (i_le.mpr (by rw [D.1]; omega)) z⟩
      rw [List.take_of_length_le (by omega)] at h2 h5
      rw [i_add (by rw [i_1]; omega) (by rw [i_1]; omega), h2, i_1]
      rfl
    | succ q ih =>
      intro m l2 l3 hq h3 h2 h5
      obtain ⟨e, n, g⟩ := getc (A := L) (m := m) (by omega)
      obtain ⟨j, j1, j2, j3, j4⟩ := D.2.2 m e n g
      have D2 := D.2.1
      have hdp := S.2.2.2.2.1 j j1
      have hdp5 := (S.good j1).2.2.2
      have e1 : g_I h (o + 2) 64 l3 = h.2.1 (o + 2) m := g_in h3 (by omega)
      have e2 : (g_I h (y 1) (y 5) (g_I h (o + 2) 64 l3)).toInt = dep e := by
        rw [e1, g_in j3 (by have := S.2.2.1.2.1; omega), hdp, j2]
      have e3 : dm (L.take (m + 1)) = max (dm (L.take m)) (dep e) := by
        rw [takec g, dm_app]
        show max _ (max (dep e) 0) = _
        omega
      refine w_X2_depthOf_4 (by omega) hs ho ⟨fun z => absurd (i_le.mp z) (by rw [D.1]; omega), fun _ => ih (m + 1) _ _ (by omega) ?_ ?_ ?_⟩
      · rw [i_add (by rw [i_1]; omega) (by rw [i_1]; omega), h3, i_1]
        rfl
      · rw [mxI_i, h2, e2, e3]
        omega
      · rw [j2] at hdp5
        omega
  exact w_X2_depthOf (by omega) hs ho (loop _ 0 0 0 (Nat.add_zero _) rfl rfl (Nat.zero_le _))
theorem t_X2_powersFit {o : Nat} {L : List OP} (hd : 21 ≤ d) (hs : Sg h.1 y) (ho : Dq h.1 o) (D : Do h o c ov L) (kk : ∀ r : Int32, (¬ r = 0 ↔ L.length ≤ 8 ∧ ∀ p ∈ L, p.2 ≤ 1000000) → K (some (.int r)) h) : Ca d m_X2_powersFit [.ref o] h K E := by
  obtain ⟨d, rfl⟩ : ∃ e, d = e + 1 := ⟨d - 1, by omega⟩
  have D2 := D.2.1
  have loop : ∀ (q m : Nat) (l1 l2 : Int32), q + m = L.length → l2.toInt = m → (l1 = 0 ∨ l1 = 1) → (¬ l1 = 0 ↔ L.length ≤ 8 ∧ ∀ p ∈ L.take m, p.2 ≤ 1000000) → b_X2_powersFit_17 d o l1 l2 h K E := by
    intro q
    induction q with
    | zero =>
      intro m l1 l2 hq h2 h01 hI
      rw [List.take_of_length_le (by omega)] at hI
      exact w_X2_powersFit_17 (by omega) hs ho ⟨fun _ => ⟨h01, kk _ hI⟩, fun z => absurd (i_le.mpr (by rw [D.1]; omega)) z⟩
    | succ q ih =>
      intro m l1 l2 hq h2 h01 hI
      obtain ⟨e, n, g⟩ := getc (A := L) (m := m) (by omega)
      obtain ⟨j, j1, j2, j3, j4⟩ := D.2.2 m e n g
      have e1 : (g_J h (o + 1) 64 l2).toInt = n := by rw [gJ_in h2 (by omega)]; exact j4
      have h3 : (l2 + 1).toInt = (m + 1 : Nat) := by rw [i_add (by rw [i_1]; omega) (by rw [i_1]; omega), h2, i_1]; rfl
      have hmem : ∀ p, p ∈ L.take (m + 1) ↔ p ∈ L.take m ∨ p = (e, n) := fun p => by rw [takec g, List.mem_append, List.mem_singleton]
      refine w_X2_powersFit_17 (by omega) hs ho ⟨fun z => absurd (i_le.mp z) (by rw [D.1]; omega), fun _ => ⟨fun z => ?_, fun z => ⟨fun w => ?_, fun w => ?_⟩⟩⟩
      · refine w_X2_powersFit_45 (by omega) hs ho (w_X2_powersFit_46 (by omega) hs ho (ih (m + 1) _ _ (by omega) h3 (Or.inl rfl) ⟨fun w => absurd rfl w, fun w => absurd z (hI.mpr ⟨w.1, fun p hp => w.2 p ((hmem p).mpr (Or.inl hp))⟩)⟩))
      · rw [j_lt, e1] at w
        refine w_X2_powersFit_45 (by omega) hs ho (w_X2_powersFit_46 (by omega) hs ho (ih (m + 1) _ _ (by omega) h3 (Or.inl rfl) ⟨fun w => absurd rfl w, fun v => ?_⟩))
        have v2 : n ≤ 1000000 := v.2 (e, n) ((hmem _).mpr (Or.inr rfl))
        have w2 : (1000000 : Int64).toInt = 1000000 := rfl
        omega
      · rw [j_lt, e1] at w
        have w2 : (1000000 : Int64).toInt = 1000000 := rfl
        refine w_X2_powersFit_46 (by omega) hs ho (ih (m + 1) _ _ (by omega) h3 (Or.inr rfl) ⟨fun _ => ⟨(hI.mp z).1, fun p hp => ?_⟩, fun _ => by decide⟩)
        rcases (hmem p).mp hp with v | v
        · exact (hI.mp z).2 p v
        · subst v
          show n ≤ 1000000
          omega
  have st : ∀ s : Int32, (s = 0 ∨ s = 1) → (¬ s = 0 ↔ L.length ≤ 8) → b_X2_powersFit_14 d o none none s h K E := fun s h01 hI => w_X2_powersFit_14 (by omega) hs ho (loop _ 0 s 0 (Nat.add_zero _) rfl h01 ⟨fun z => ⟨hI.mp z, fun p hp => by cases hp⟩, fun z => hI.mpr z.1⟩)
  have e8 : (8 : Int32).toInt = 8 := rfl
  refine w_X2_powersFit (by omega) hs ho ⟨fun z => st 0 (Or.inl rfl) ⟨fun w => absurd rfl w, fun w => ?_⟩, fun z => st 1 (Or.inr rfl) ⟨fun _ => ?_, fun _ => by decide⟩⟩
  · rw [i_lt, D.1, e8] at z; omega
  · rw [i_lt, D.1, e8] at z; omega
end
