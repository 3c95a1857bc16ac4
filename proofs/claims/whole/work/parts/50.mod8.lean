/-! ===== layer 2: the model puts a power among others ===== -/
theorem abv_at {x : O} : ∀ (P : List OP) (k : Nat), srt P → k ≤ P.length → (∀ (t : Nat) (e : O) (n : Nat), k ≤ t → P[t]? = some (e, n) → ¬ oc e x = 1) → (k = 0 ∨ ∃ (e : O) (n : Nat), P[k - 1]? = some (e, n) ∧ oc e x = 1) → abv x P = k := by
  intro P
  induction P with
  | nil => intro k _ h _ _; rw [show k = 0 from Nat.le_zero.mp h]; rfl
  | cons p P ih =>
    intro k hs hk h1 h2
    show (if oc p.1 x = 1 then abv x P + 1 else 0) = k
    cases k with
    | zero => rw [if_neg (h1 0 p.1 p.2 (Nat.le_refl _) rfl)]
    | succ k =>
      rcases h2 with z | ⟨e, n, g, g2⟩
      · omega
      · have hp : oc p.1 x = 1 := by
          cases k with
          | zero =>
            cases g
            exact g2
          | succ k =>
            have g' : P[k]? = some (e, n) := g
            exact oc_tr _ _ _ (hs.2.1 (e, n) (List.mem_of_getElem? g')) g2
        rw [if_pos hp, ih k hs.2.2 (by rw [List.length_cons] at hk; omega) (fun t e n ht g => h1 (t + 1) e n (by omega) g) ?_]
        cases k with
        | zero => exact Or.inl rfl
        | succ k => exact Or.inr ⟨e, n, g, g2⟩
section
variable {d : Nat} {h : XH} {y : Nat → Nat} {m : Nat} {ov : Nat → O} {K : XK} {E : XE}
theorem t_X7_puts {a : Int32} {b : Int64} {j n : Nat} {x : O} {P : List OP} (hd : 23 ≤ d) (hs : Sg h.1 y) (M : Mo h m ov) (D : Dm h m ov P) (hl : P.length < 80) (sP : srt P) (ha : a.toInt = j) (hj : j < m) (hx : ov j = x) (hb : b.toInt = n) (hB : ∀ p ∈ P, p.2 + n < 9223372036854775808) (kk : ∀ h2, Mo h2 m ov → Dm h2 m ov (ins x n P) → Fmk h h2 → K none h2) : Ca d m_X7_puts [.ref 77, .int a, .long b] h K E := by
  obtain ⟨d, rfl⟩ : ∃ e, d = e + 1 := ⟨d - 1, by omega⟩
  obtain ⟨D1, D2, D3⟩ := D
  have em1 : (-1 : Int32).toInt = -1 := rfl
  have hm := M.1.2.2
  have idx : ∀ (t : Nat) (e : O) (n : Nat), P[t]? = some (e, n) → (h.2.1 85 t = a ↔ e = x) := fun t e n g => by
    obtain ⟨j9, a1, a2, a3, a4⟩ := D3 t e n g
    constructor
    · intro v
      rw [v, ha] at a3
      rw [← a2, ← hx, show j9 = j by omega]
    · intro v
      have := M.inj a1 hj (by rw [a2, hx, v])
      exact Int32.toInt_inj.mp (by rw [a3, ha, this])
  -- shifted, then laid at k
  have lay : ∀ (k : Nat) (l4 : Int32), k ≤ P.length → l4.toInt = k → ins x n P = P.take k ++ (x, n) :: P.drop k → ∀ (q t : Nat) (l5 : Int32) (h2 : XH), q + k = t → t ≤ P.length → l5.toInt = t → h2.1 = h.1 → h2.2.2.2 = h.2.2.2 → (∀ r, r ≠ 85 → h2.2.1 r = h.2.1 r) → (∀ r, r ≠ 86 → h2.2.2.1 r = h.2.2.1 r) → (∀ s, s ≤ t → s < P.length → h2.2.1 85 s = h.2.1 85 s ∧ h2.2.2.1 86 s = h.2.2.1 86 s) → (∀ s, t < s → s ≤ P.length → h2.2.1 85 s = h.2.1 85 (s - 1) ∧ h2.2.2.1 86 s = h.2.2.1 86 (s - 1)) → b_X7_puts_85 d 77 a b l4 l5 h2 K E := by
    intro k l4 hk h4 hins q
    induction q with
    | zero =>
      intro t l5 h2 hq ht h5 e1 e2 f1 f2 f3 f4
      have hs2 : Sg h2.1 y := by rw [e1]; exact hs
      have I4 : Ix l4 80 := i_Ix h4 (by omega)
      refine w_X7_puts_85 (by omega) hs2 ⟨fun _ => ⟨I4, fun h3 g3 => ⟨I4, fun h6 g6 h7 g7 => ?_⟩⟩, fun w => absurd (i_le.mpr (by omega)) w⟩
      rw [i_ix h4] at g3 g6
      have c6 : h6.2.1 = h3.2.1 := by rw [g6]; rfl
      have c77 : h3.2.1 77 = h.2.1 77 := by rw [g3, sI_nq _ _ (by omega)]; exact f1 77 (by omega)
      rw [c6, c77] at g7
      have i85 : ∀ s, h7.2.1 85 s = if s = k then a else h2.2.1 85 s := fun s => by
        rw [g7, sI_nq _ _ (by omega), c6, g3]
        by_cases z : s = k
        · rw [z, sI_eq, if_pos rfl]
        · rw [sI_ne _ _ z, if_neg z]
      have j86 : ∀ s, h7.2.2.1 86 s = if s = k then b else h2.2.2.1 86 s := fun s => by
        rw [g7]
        show h6.2.2.1 86 s = _
        rw [g6]
        by_cases z : s = k
        · rw [z, sJ_eq, if_pos rfl]
        · rw [sJ_ne _ _ z, if_neg z, g3]; rfl
      have iot : ∀ r, r ≠ 77 → r ≠ 85 → h7.2.1 r = h.2.1 r := fun r q1 q2 => by rw [g7, sI_nq _ _ q1, c6, g3, sI_nq _ _ q2]; exact f1 r q2
      have jot : ∀ r, r ≠ 86 → h7.2.2.1 r = h.2.2.1 r := fun r q1 => by rw [g7]; show h6.2.2.1 r = _; rw [g6, sJ_nq _ _ q1, g3]; exact f2 r q1
      have i77 : ∀ s, s ≠ 11 → h7.2.1 77 s = h.2.1 77 s := fun s q1 => by rw [g7, sI_ne _ _ q1, c6, c77]
      have hlen : (P.take k ++ (x, n) :: P.drop k).length = P.length + 1 := by rw [List.length_append, List.length_cons, List.length_take, List.length_drop]; omega
      refine kk h7 (M.fr (i77 7 (by omega)) (fun r q1 q2 => iot r (by omega) (by omega))) ?_ ⟨by rw [g7]; show h6.1 = _; rw [g6]; show h3.1 = _; rw [g3]; exact e1, by rw [g7]; show h6.2.2.2 = _; rw [g6]; show h3.2.2.2 = _; rw [g3]; exact e2, fun r hr => ⟨iot r (by omega) (by omega), jot r (by omega)⟩, fun s _ q2 => i77 s q2, jot 77 (by omega)⟩
      rw [hins]
      refine ⟨by rw [g7, sI_eq, i_add (by rw [i_1]; omega) (by rw [i_1]; omega), D1, i_1, hlen]; rfl, by rw [hlen]; omega, fun s e9 n9 hs9 => ?_⟩
      rw [i85, j86]
      have hsl := (List.getElem?_eq_some_iff.mp hs9).1
      rw [hlen] at hsl
      have ltk : (P.take k).length = k := by rw [List.length_take]; omega
      by_cases z1 : s < k
      · rw [List.getElem?_append_left (by omega), List.getElem?_take_of_lt z1] at hs9
        rw [if_neg (by omega), if_neg (by omega), (f3 s (by omega) (by omega)).1, (f3 s (by omega) (by omega)).2]
        exact D3 s e9 n9 hs9
      · rw [List.getElem?_append_right (by omega), ltk] at hs9
        by_cases z2 : s = k
        · rw [z2, Nat.sub_self] at hs9
          rw [if_pos z2, if_pos z2]
          cases hs9
          exact ⟨j, hj, hx, ha, hb⟩
        · obtain ⟨s2, rfl⟩ : ∃ s2, s = s2 + 1 := ⟨s - 1, by omega⟩
          rw [show s2 + 1 - k = (s2 - k) + 1 by omega, List.getElem?_cons_succ, List.getElem?_drop, show k + (s2 - k) = s2 by omega] at hs9
          rw [if_neg z2, if_neg z2, (f4 (s2 + 1) (by omega) (by omega)).1, (f4 (s2 + 1) (by omega) (by omega)).2]
          exact D3 s2 e9 n9 hs9
    | succ q ih =>
      intro t l5 h2 hq ht h5 e1 e2 f1 f2 f3 f4
      have hs2 : Sg h2.1 y := by rw [e1]; exact hs
      have I5 : Ix l5 80 := i_Ix h5 (by omega)
      have m5 : (l5 - 1).toInt = (t - 1 : Nat) := by rw [i_sub (by rw [i_1]; omega) (by rw [i_1]; omega), h5, i_1]; omega
      have J5 : Ix (l5 - 1) 80 := i_Ix m5 (by omega)
      refine w_X7_puts_85 (by omega) hs2 ⟨fun w => absurd (i_le.mp w) (by omega), fun _ => ⟨J5, I5, fun h3 g3 => ⟨J5, I5, fun h6 g6 => ?_⟩⟩⟩
      rw [i_ix m5, i_ix h5] at g3 g6
      have c3 : h3.2.2.1 = h2.2.2.1 := by rw [g3]; rfl
      rw [c3] at g6
      have i85 : ∀ s, h6.2.1 85 s = if s = t then h2.2.1 85 (t - 1) else h2.2.1 85 s := fun s => by
        rw [g6]
        show h3.2.1 85 s = _
        rw [g3]
        by_cases z : s = t
        · rw [z, sI_eq, if_pos rfl]
        · rw [sI_ne _ _ z, if_neg z]
      have j86 : ∀ s, h6.2.2.1 86 s = if s = t then h2.2.2.1 86 (t - 1) else h2.2.2.1 86 s := fun s => by
        rw [g6]
        by_cases z : s = t
        · rw [z, sJ_eq, if_pos rfl]
        · rw [sJ_ne _ _ z, if_neg z, c3]
      clear J5 m5
      obtain ⟨l9, hl9, m6⟩ : ∃ z : Int32, z = l5 + (-1) ∧ z.toInt = (t - 1 : Nat) := ⟨_, rfl, by rw [i_add (by rw [em1]; omega) (by rw [em1]; omega), h5, em1]; omega⟩
      rw [← hl9]
      refine ih (t - 1) l9 h6 (by omega) (by omega) m6 (by rw [g6]; show h3.1 = _; rw [g3]; exact e1) (by rw [g6]; show h3.2.2.2 = _; rw [g3]; exact e2) (fun r q1 => by rw [g6]; show h3.2.1 r = _; rw [g3, sI_nq _ _ q1]; exact f1 r q1) (fun r q1 => by rw [g6, sJ_nq _ _ q1, c3]; exact f2 r q1) (fun s q1 q2 => ?_) (fun s q1 q2 => ?_)
      · rw [i85, j86, if_neg (by omega), if_neg (by omega)]
        exact f3 s (by omega) q2
      · rw [i85, j86]
        by_cases z : s = t
        · rw [if_pos z, if_pos z, z]
          exact f3 (t - 1) (by omega) (by omega)
        · rw [if_neg z, if_neg z]
          exact f4 s (by omega) q2
  -- at its place
  have place : ∀ (k : Nat) (l4 : Int32) (u5 : Option Value), k ≤ P.length → l4.toInt = k → (∀ (t : Nat) (e : O) (n : Nat), k ≤ t → P[t]? = some (e, n) → oc e x = -1) → (k = 0 ∨ ∃ (e : O) (n : Nat), P[k - 1]? = some (e, n) ∧ (oc e x = 1 ∨ oc e x = 0)) → b_X7_puts_47 d 77 a b l4 u5 h K E := by
    intro k l4 u5 hk h4 hlow hup
    have new : (k = 0 ∨ ∃ (e : O) (n : Nat), P[k - 1]? = some (e, n) ∧ oc e x = 1) → b_X7_puts_79 d 77 a b l4 u5 h K E := by
      intro hup2
      have hab := abv_at P k sP hk (fun t e n q1 q2 => by have := hlow t e n q1 q2; omega) hup2
      have hins : ins x n P = P.take k ++ (x, n) :: P.drop k := by
        rw [ins_abv, hab]
        congr 1
        by_cases z : k < P.length
        · obtain ⟨e, n2, g⟩ := getc z
          rw [dropc g]
          show (if oc e x = 0 then _ else _) = _
          rw [if_neg (by have := hlow k e n2 (Nat.le_refl _) g; omega)]
        · rw [List.drop_eq_nil_of_le (by omega)]
      exact w_X7_puts_79 (by omega) hs (lay k l4 hk h4 hins (P.length - k) P.length _ h (by omega) (Nat.le_refl _) D1 rfl rfl (fun _ _ => rfl) (fun _ _ => rfl) (fun _ _ _ => ⟨rfl, rfl⟩) (fun s q1 q2 => by omega))
    by_cases hk0 : k = 0
    · exact w_X7_puts_47 (by omega) hs ⟨fun _ => new (Or.inl hk0), fun w => absurd (i_le.mpr (by rw [i_0]; omega)) w⟩
    · rcases hup with z | ⟨e, n2, g, ge⟩
      · exact absurd z hk0
      · have m4 : (l4 - 1).toInt = (k - 1 : Nat) := by rw [i_sub (by rw [i_1]; omega) (by rw [i_1]; omega), h4, i_1]; omega
        have J4 : Ix (l4 - 1) 80 := i_Ix m4 (by omega)
        refine w_X7_puts_47 (by omega) hs ⟨fun w => absurd (i_le.mp w) (by rw [i_0]; omega), fun _ => ⟨J4, fun w => new (Or.inr ⟨e, n2, g, ?_⟩), fun w => ⟨J4, J4, fun h3 g3 => ?_⟩⟩⟩
        · rw [i_ix m4, idx _ e n2 g] at w
          rcases ge with z | z
          · exact z
          · exact absurd (oc_eq _ _ z) w
        · rw [i_ix m4, idx _ e n2 g] at w
          have ee := Classical.not_not.mp w
          subst ee
          rw [i_ix m4] at g3
          have hab : abv e P = k - 1 := by
            refine abv_at P (k - 1) sP (by omega) (fun t e9 n9 q1 q2 => ?_) ?_
            · by_cases z : t = k - 1
              · rw [z, g] at q2
                cases q2
                rw [oc_self]
                omega
              · have := hlow t e9 n9 (by omega) q2
                omega
            · by_cases z : k - 1 = 0
              · exact Or.inl z
              · obtain ⟨e9, n9, g9⟩ := getc (A := P) (m := k - 1 - 1) (by omega)
                refine Or.inr ⟨e9, n9, g9, ?_⟩
                have h9 := srt_drop P (k - 1 - 1) sP
                rw [dropc g9, show k - 1 - 1 + 1 = k - 1 by omega, dropc g] at h9
                exact h9.2.1 (e, n2) List.mem_cons_self
          have ei : ins e n P = P.take (k - 1) ++ (e, n2 + n) :: P.drop k := by
            rw [ins_abv, hab, dropc g, show k - 1 + 1 = k by omega]
            show _ ++ (if oc e e = 0 then _ else _) = _
            rw [if_pos (oc_self e)]
          obtain ⟨j9, a1, a2, a3, a4⟩ := D3 (k - 1) e n2 g
          have hBm : n2 + n < 9223372036854775808 := hB (e, n2) (List.mem_of_getElem? g)
          have hsum : (h.2.2.1 86 (k - 1) + b).toInt = (n2 + n : Nat) := by rw [j_add (by rw [a4, hb]; omega) (by rw [a4, hb]; omega), a4, hb]; omega
          have j86 : ∀ s, h3.2.2.1 86 s = if s = k - 1 then h.2.2.1 86 (k - 1) + b else h.2.2.1 86 s := fun s => by
            rw [g3]
            by_cases z : s = k - 1
            · rw [z, sJ_eq, if_pos rfl]
            · rw [sJ_ne _ _ z, if_neg z]
          have hlen : (P.take (k - 1) ++ (e, n2 + n) :: P.drop k).length = P.length := by rw [List.length_append, List.length_cons, List.length_take, List.length_drop]; omega
          refine kk h3 (M.fr (by rw [g3]; rfl) (fun r _ _ => by rw [g3]; rfl)) ?_ ⟨by rw [g3]; rfl, by rw [g3]; rfl, fun r hr => ⟨by rw [g3]; rfl, by rw [g3]; exact sJ_nq _ _ (by omega)⟩, fun s _ _ => by rw [g3]; rfl, by rw [g3]; exact sJ_nq _ _ (by omega)⟩
          rw [ei]
          refine ⟨by rw [g3, hlen]; exact D1, by rw [hlen]; exact D2, fun s e9 n9 hs9 => ?_⟩
          have i3 : h3.2.1 = h.2.1 := by rw [g3]; rfl
          rw [i3, j86]
          have ltk : (P.take (k - 1)).length = k - 1 := by rw [List.length_take]; omega
          by_cases z1 : s < k - 1
          · rw [List.getElem?_append_left (by omega), List.getElem?_take_of_lt z1] at hs9
            rw [if_neg (by omega)]
            exact D3 s e9 n9 hs9
          · rw [List.getElem?_append_right (by omega), ltk] at hs9
            by_cases z2 : s = k - 1
            · rw [z2, Nat.sub_self] at hs9
              rw [if_pos z2]
              cases hs9
              exact ⟨j9, a1, a2, by rw [z2]; exact a3, hsum⟩
            · rw [show s - (k - 1) = (s - k) + 1 by omega, List.getElem?_cons_succ, List.getElem?_drop, show k + (s - k) = s by omega] at hs9
              rw [if_neg z2]
              exact D3 s e9 n9 hs9
  have loop : ∀ (k : Nat) (l4 : Int32) (u5 : Option Value), k ≤ P.length → l4.toInt = k → (∀ (t : Nat) (e : O) (n : Nat), k ≤ t → P[t]? = some (e, n) → oc e x = -1) → b_X7_puts_6 d 77 a b l4 u5 h K E := by
    intro k
    induction k with
    | zero =>
      intro l4 u5 hk h4 hlow
      exact w_X7_puts_6 (by omega) hs ⟨fun _ => place 0 l4 u5 hk h4 hlow (Or.inl rfl), fun w => absurd (i_le.mpr (by rw [i_0]; omega)) w⟩
    | succ k ih =>
      intro l4 u5 hk h4 hlow
      obtain ⟨e, n2, g⟩ := getc (A := P) (m := k) (by omega)
      obtain ⟨j9, a1, a2, a3, a4⟩ := D3 k e n2 g
      have nxt : oc e x = -1 → b_X7_puts_6 d 77 a b (l4 + (-1)) u5 h K E := fun ho => by
        obtain ⟨l9, hl9, m6⟩ : ∃ z : Int32, z = l4 + (-1) ∧ z.toInt = k := ⟨_, rfl, by rw [i_add (by rw [em1]; omega) (by rw [em1]; omega), h4, em1]; omega⟩
        rw [← hl9]
        refine ih l9 u5 (by omega) m6 (fun t e9 n9 q1 q2 => ?_)
        by_cases z : t = k
        · rw [z, g] at q2
          cases q2
          exact ho
        · exact hlow t e9 n9 (by omega) q2
      have m4 : (l4 - 1).toInt = (k : Nat) := by rw [i_sub (by rw [i_1]; omega) (by rw [i_1]; omega), h4, i_1]; omega
      have J4 : Ix (l4 - 1) 80 := i_Ix m4 (by omega)
      refine w_X7_puts_6 (by omega) hs ⟨fun w => absurd (i_le.mp w) (by rw [i_0]; omega), fun _ => ⟨J4, fun w => place (k + 1) l4 u5 hk h4 hlow (Or.inr ⟨e, n2, g, Or.inr ?_⟩), fun w => ⟨J4, ?_⟩⟩⟩
      · rw [i_ix m4, idx _ e n2 g] at w
        rw [w, oc_self]
      · rw [i_ix m4]
        rw [i_ix m4, idx _ e n2 g] at w
        refine t_X7_compared (i := j9) (j := j) (by omega) hs M a3 ha a1 hj (fun r hr => ⟨r, rfl, hs, fun v => place (k + 1) l4 u5 hk h4 hlow (Or.inr ⟨e, n2, g, ?_⟩), fun v => nxt ?_⟩)
        · rw [a2, hx] at hr
          rw [i_le, hr, i_0] at v
          have := oc_val e x
          omega
        · rw [a2, hx] at hr
          rw [i_le, hr, i_0] at v
          have := oc_val e x
          omega
  exact w_X7_puts (by omega) hs (loop P.length _ none (Nat.le_refl _) D1 (fun t e n q1 q2 => by have := (List.getElem?_eq_some_iff.mp q2).1; omega))
end
