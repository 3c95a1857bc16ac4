/-! ===== layer 2: contracts of the class's ordinals: descents ===== -/
/-- by f steps at most, the s-th next, x comes to res: what it comes to and the steps made; none if one does not fit -/
def dsR (n : Nat) : Nat → Nat → O → Option (O × Nat) → Prop
  | 0, s, x, res => res = some (x, s)
  | f + 1, s, x, res => (x = .leaf ∧ res = some (x, s)) ∨ (¬ x = .leaf ∧ stpok (n + s) 5 x ∧ dsR n f (s + 1) (stpF (n + s) 5 x) res) ∨ (¬ x = .leaf ∧ ¬ stpok (n + s) 5 x ∧ res = none)
theorem tl_last {A : List OP} (h : 0 < tl A) : A[A.length - 1]? = some (.leaf, tl A) := by
  unfold tl at h ⊢
  cases hg : A[A.length - 1]? with
  | none => rw [hg] at h; exact absurd h (Nat.lt_irrefl 0)
  | some p =>
    obtain ⟨e, n⟩ := p
    cases e with
    | leaf => rfl
    | inner => rw [hg] at h; exact absurd h (Nat.lt_irrefl 0)
theorem stp_fin {x : O} (m : Nat) (hg : gd x) (h : 0 < tl (pl x)) : stpok m 5 x ∧ stpF m 5 x = mk (lsL (pl x) 1) := by
  have g := tl_last h
  have e1 : stpF m 5 x = mk (lsL (pl x) 1) := by
    rw [stpF_eq g]
    show mk (lsL (pl x) 1 ++ (if oc .leaf .leaf = 0 then [] else _)) = _
    rw [if_pos (show oc .leaf .leaf = 0 from rfl), List.append_nil]
  refine ⟨?_, e1⟩
  rw [stpok_eq g]
  refine ⟨(stp_leaf m 4).2, ?_⟩
  rw [e1]
  exact (gd_ls 1 hg).2
theorem ls_ls {A : List OP} {k : Nat} (h : 0 < tl A) (hk : k + 1 < tl A) : lsL (lsL A 1) k = lsL A (k + 1) ∧ tl (lsL A 1) = tl A - 1 := by
  have g := tl_last h
  have hl := (List.getElem?_eq_some_iff.mp g).1
  have e1 : lsL A 1 = A.take (A.length - 1) ++ [(.leaf, tl A - 1)] := by rw [lsL_eq g, if_pos (by omega)]
  have len : (A.take (A.length - 1) ++ [((.leaf, tl A - 1) : OP)]).length = A.length := by rw [List.length_append, List.length_take]; simp only [List.length_singleton]; omega
  have tk : (A.take (A.length - 1)).length = A.length - 1 := by rw [List.length_take]; omega
  have g2 : (lsL A 1)[(lsL A 1).length - 1]? = some (.leaf, tl A - 1) := by
    rw [e1, len, List.getElem?_append_right (by omega), tk, Nat.sub_self]
    rfl
  constructor
  · rw [lsL_eq g2, lsL_eq (l := k + 1) g, e1, len, List.take_append_of_le_length (by omega), List.take_of_length_le (by omega)]
    by_cases z : k < tl A - 1
    · rw [if_pos z, if_pos (by omega), Nat.sub_sub, Nat.add_comm 1 k]
    · rw [if_neg z, if_neg (by omega)]
  · unfold tl
    rw [g2, g]
theorem dsR_fin {n : Nat} {res : Option (O × Nat)} : ∀ (k f s : Nat) (x : O), gd x → k + 1 ≤ tl (pl x) → k + 1 ≤ f → dsR n f s x res → dsR n (f - (k + 1)) (s + (k + 1)) (mk (lsL (pl x) (k + 1))) res := by
  intro k
  induction k with
  | zero =>
    intro f s x hg ht hf h
    obtain ⟨f, rfl⟩ : ∃ g, f = g + 1 := ⟨f - 1, by omega⟩
    have hst := stp_fin (n + s) hg (by omega)
    have hnl : ¬ x = .leaf := fun z => by
      rw [z] at ht
      exact absurd ht (by show ¬ 0 + 1 ≤ 0; omega)
    rcases h with h | h | h
    · exact absurd h.1 hnl
    · rw [hst.2] at h
      exact h.2.2
    · exact absurd hst.1 h.2.1
  | succ k ih =>
    intro f s x hg ht hf h
    obtain ⟨f, rfl⟩ : ∃ g, f = g + 1 := ⟨f - 1, by omega⟩
    have hst := stp_fin (n + s) hg (by omega)
    have hnl : ¬ x = .leaf := fun z => by
      rw [z] at ht
      exact absurd ht (by show ¬ k + 1 + 1 ≤ 0; omega)
    have hll := ls_ls (A := pl x) (k := k) (by omega) (by omega)
    rcases h with h | h | h
    · exact absurd h.1 hnl
    · rw [hst.2] at h
      have := ih f (s + 1) (mk (lsL (pl x) 1)) (gd_ls 1 hg) (by rw [pl_mk, hll.2]; omega) (by omega) h.2.2
      by_cases hk : k + 1 < tl (pl x) - 1
      · have hll2 := ls_ls (A := pl x) (k := k + 1) (by omega) (by omega)
        rw [pl_mk, hll2.1] at this
        rw [show f + 1 - (k + 1 + 1) = f - (k + 1) by omega, show s + (k + 1 + 1) = s + 1 + (k + 1) by omega]
        exact this
      · have e2 : lsL (lsL (pl x) 1) (k + 1) = lsL (pl x) (k + 1 + 1) := by
          have g := tl_last (A := pl x) (by omega)
          have hl := (List.getElem?_eq_some_iff.mp g).1
          have e1 : lsL (pl x) 1 = (pl x).take ((pl x).length - 1) ++ [(.leaf, tl (pl x) - 1)] := by rw [lsL_eq g, if_pos (by omega)]
          have len : ((pl x).take ((pl x).length - 1) ++ [((.leaf, tl (pl x) - 1) : OP)]).length = (pl x).length := by rw [List.length_append, List.length_take]; simp only [List.length_singleton]; omega
          have tk : ((pl x).take ((pl x).length - 1)).length = (pl x).length - 1 := by rw [List.length_take]; omega
          have g2 : (lsL (pl x) 1)[(lsL (pl x) 1).length - 1]? = some (.leaf, tl (pl x) - 1) := by
            rw [e1, len, List.getElem?_append_right (by omega), tk, Nat.sub_self]
            rfl
          rw [lsL_eq g2, lsL_eq (l := k + 1 + 1) g, e1, len, List.take_append_of_le_length (by omega), List.take_of_length_le (by omega), if_neg (by omega), if_neg (by omega)]
        rw [pl_mk, e2] at this
        rw [show f + 1 - (k + 1 + 1) = f - (k + 1) by omega, show s + (k + 1 + 1) = s + 1 + (k + 1) by omega]
        exact this
    · exact absurd hst.1 h.2.1
section
variable {d : Nat} {h : XH} {y : Nat → Nat} {c k : Nat} {ov : Nat → O} {K : XK} {E : XE}
theorem t_X2_stepsToZero {a b n : Int32} {i nn most : Nat} {res : Option (O × Nat)} (hd : 38 ≤ d) (hs : Sg h.1 y) (S : St h y c k ov) (ha : a.toInt = i) (hb : b.toInt = nn) (hm : n.toInt = most) (h1 : 1 ≤ nn) (h2 : nn ≤ 99) (h3 : most ≤ 2000) (hi : i < c) (hc : c + 10020 < 16384) (hk : k ≤ c) (hR : dsR nn most 0 (ov i) res)
    (kk : ∀ (x : O) (s : Nat) (r : Int32) (h2 : XH) (y2 : Nat → Nat), res = some (x, s) → (x = .leaf → r.toInt = s) → (¬ x = .leaf → r.toInt = -1) → Fs 0 h y h2 y2 → St h2 y2 k k ov → K (some (.int r)) h2) (ke : res = none → Kf h y k ov E) : Ca d m_X2_stepsToZero [.ref 6, .int a, .int b, .int n] h K E := by
  obtain ⟨d, rfl⟩ : ∃ e, d = e + 1 := ⟨d - 1, by omega⟩
  have loop : ∀ (q s i1 : Nat) (l4 l5 : Int32) (u1 u6 u7 : Option Value) (h1 : XH) (y1 : Nat → Nat) (c1 : Nat) (ov1 : Nat → O), most - s ≤ q → s ≤ most → l4.toInt = i1 → l5.toInt = s → i1 < c1 → Fs 0 h y h1 y1 → St h1 y1 c1 k ov1 → c ≤ c1 → c1 ≤ c + 5 * s → (∀ i, i < c → ov1 i = ov i) → dsR nn (most - s) s (ov1 i1) res → b_X2_stepsToZero_6 d 6 u1 b n l4 l5 u6 u7 h1 K E := by
    intro q
    induction q with
    | zero =>
      intro s i1 l4 l5 u1 u6 u7 h1 y1 c1 ov1 hq hsm h4 h5 hi1 F S1 hc1 hc2 he hR
      have hs1 := F.1
      have hz : most - s = 0 := by omega
      rw [hz] at hR
      have hR2 : res = some (ov1 i1, s) := hR
      have hne := S1.ne hi1
      have fin : b_X2_stepsToZero_78 d 6 u1 (some (.int b)) (some (.int n)) l4 l5 u6 u7 h1 K E := by
        refine w_X2_stepsToZero_78 (by omega) hs1 (fun h2 e2 => ?_)
        have S2 : St h2 y1 k k ov := by rw [e2]; exact (S1.forget hs1).cg (fun i hi => (he i (by omega)).symm)
        have F2 : Fs 0 h y h2 y1 := by
          obtain ⟨f1, f2, f3, f4, f5⟩ := F
          refine ⟨by rw [e2]; exact f1, fun r a b => ?_, f3, by rw [e2]; exact f4, by rw [e2]; exact f5⟩
          rw [e2, sI_nq _ _ (by omega)]
          exact f2 r a b
        refine ⟨fun z => kk _ _ _ _ _ hR2 (fun w => ?_) (fun _ => rfl) F2 S2, fun z => kk _ _ _ _ _ hR2 (fun _ => h5) (fun w => ?_) F2 S2⟩
        · exact absurd (i_ne.mpr (by have := hne.mp w; omega)) z
        · exact absurd (hne.mpr (by have := i_ne.mp (Classical.not_not.mp z); omega)) w
      refine w_X2_stepsToZero_6 (by omega) hs1 ⟨fun _ => fin, fun _ => ⟨fun _ => fin, fun z => absurd (i_le.mpr (by omega)) z⟩⟩
    | succ q ih =>
      intro s i1 l4 l5 u1 u6 u7 h1 y1 c1 ov1 hq hsm h4 h5 hi1 F S1 hc1 hc2 he hR
      have hs1 := F.1
      have hne := S1.ne hi1
      have fin : (res = some (ov1 i1, s)) → b_X2_stepsToZero_78 d 6 u1 (some (.int b)) (some (.int n)) l4 l5 u6 u7 h1 K E := by
        intro hR2
        refine w_X2_stepsToZero_78 (by omega) hs1 (fun h2 e2 => ?_)
        have S2 : St h2 y1 k k ov := by rw [e2]; exact (S1.forget hs1).cg (fun i hi => (he i (by omega)).symm)
        have F2 : Fs 0 h y h2 y1 := by
          obtain ⟨f1, f2, f3, f4, f5⟩ := F
          refine ⟨by rw [e2]; exact f1, fun r a b => ?_, f3, by rw [e2]; exact f4, by rw [e2]; exact f5⟩
          rw [e2, sI_nq _ _ (by omega)]
          exact f2 r a b
        refine ⟨fun z => kk _ _ _ _ _ hR2 (fun w => ?_) (fun _ => rfl) F2 S2, fun z => kk _ _ _ _ _ hR2 (fun _ => h5) (fun w => ?_) F2 S2⟩
        · exact absurd (i_ne.mpr (by have := hne.mp w; omega)) z
        · exact absurd (hne.mpr (by have := i_ne.mp (Classical.not_not.mp z); omega)) w
      refine w_X2_stepsToZero_6 (by omega) hs1 ⟨fun z => fin ?_, fun z => ⟨fun w => fin ?_, fun w => ?_⟩⟩
      · have hl : ov1 i1 = .leaf := hne.mpr (by have := i_ne.mp z; omega)
        cases hf : most - s with
        | zero => rw [hf] at hR; exact hR
        | succ f =>
          rw [hf] at hR
          rcases hR with v | v | v
          · exact v.2
          · exact absurd hl v.1
          · exact absurd hl v.1
      · rw [i_le] at w
        have hz : most - s = 0 := by omega
        rw [hz] at hR
        exact hR
      · rw [i_le] at w
        have hlt : s < most := by omega
        have hnl : ¬ ov1 i1 = .leaf := fun v => z (i_ne.mpr (by have := hne.mp v; omega))
        have hg := S1.good hi1
        refine t_X2_finiteTail (i := i1) (by omega) hs1 S1 h4 hi1 (fun r hr => ⟨r, rfl, hs1, fun v => ?_, fun v => ?_⟩)
        · rw [i_le, hr, i_0] at v
          have htk : (mxI 1 (mnI r (n - l5))).toInt = 1 := by
            rw [mxI_i, mnI_i, hr, i_1]; omega
          have hns : (b + l5).toInt = (nn + s : Nat) := by rw [i_add (by omega) (by omega), hb, h5]; omega
          obtain ⟨f, hf⟩ : ∃ f, most - s = f + 1 := ⟨most - s - 1, by omega⟩
          rw [hf] at hR
          refine t_X2_stepped (i := i1) (nn := nn + s) (by omega) hs1 S1 h4 hns (by omega) (by omega) hi1 (by omega) (by omega) (fun ok r2 h2 y2 ov2 c2 r2' x1 x2 x3 x4 x5 x6 x7 x8 x9 => ⟨r2, rfl, y2, x7.1, ?_⟩) (fun nok h2 y2 x1 x2 => ?_)
          · rcases hR with v2 | v2 | v2
            · exact absurd v2.1 hnl
            · refine w_X2_stepsToZero_66 (by omega) x7.1 (ih (s + 1) r2' _ _ _ _ _ h2 y2 c2 ov2 (by omega) (by omega) x1 ?_ x2 (F.tr x7) x9 (by omega) (by omega) (fun i hi => (x4 i (by omega)).trans (he i hi)) ?_)
              · rw [i_add (by rw [htk]; omega) (by rw [htk]; omega), htk, h5]; rfl
              · rw [show most - (s + 1) = f by omega, x3]
                exact v2.2.2
            · exact absurd ok v2.2.1
          · rcases hR with v2 | v2 | v2
            · exact absurd v2.1 hnl
            · exact absurd v2.2.1 nok
            · exact ke v2.2.2 h2 y2 (F.tr x1) (x2.cg (fun i hi => (he i (by omega)).symm))
        · rw [i_le, hr, i_0] at v
          have hnl5 : (n - l5).toInt = (most - s : Nat) := by rw [i_sub (by omega) (by omega), hm, h5]; omega
          have htk : (mxI 1 (mnI r (n - l5))).toInt = (min (tl (pl (ov1 i1))) (most - s) : Nat) := by
            rw [mxI_i, mnI_i, hr, hnl5, i_1]; omega
          obtain ⟨k9, hk9⟩ : ∃ k9, min (tl (pl (ov1 i1))) (most - s) = k9 + 1 := ⟨min (tl (pl (ov1 i1))) (most - s) - 1, by omega⟩
          rw [hk9] at htk
          refine t_X2_lessened (i := i1) (l := k9 + 1) (by omega) hs1 S1 h4 htk hi1 hnl (by omega) (by omega) (fun r2 h2 y2 ov2 c2 r2' x1 x2 x3 x4 x5 x6 x7 x8 x9 => ⟨r2, rfl, y2, x7.1, ?_⟩)
          refine w_X2_stepsToZero_66 (by omega) x7.1 (ih (s + (k9 + 1)) r2' _ _ _ _ _ h2 y2 c2 ov2 (by omega) (by omega) x1 ?_ x2 (F.tr x7) x9 (by omega) (by omega) (fun i hi => (x4 i (by omega)).trans (he i hi)) ?_)
          · rw [i_add (by rw [htk]; omega) (by rw [htk]; omega), htk, h5]; omega
          · rw [show most - (s + (k9 + 1)) = most - s - (k9 + 1) by omega, x3]
            exact dsR_fin k9 _ _ _ hg (by omega) (by omega) hR
  exact w_X2_stepsToZero (by omega) hs (loop most 0 i a 0 _ none none h y c ov (by omega) (Nat.zero_le _) ha rfl hi (Fs.rf hs) S (Nat.le_refl _) (by omega) (fun _ _ => rfl) hR)
end
