/-! ===== of changes, what p28 needs ===== -/
/-- what a call may lay as an ordinal -/
def Src (S : XS) (x : O) : Prop := (∀ e, inS x e → e = .leaf) ∨
  (∃ q, q < 16 ∧ S.1 q = 1 ∧ (x = mk [(S.2.1 q, 1)] ∨ (∃ pr, pr ∈ pl (S.2.1 q) ∧ x = pr.1) ∨ ∃ n, 1 ≤ n ∧ n ≤ 99 ∧ ¬ S.2.1 q = .leaf ∧ stpok n 5 (S.2.1 q) ∧ x = stpF n 5 (S.2.1 q))) ∨
  ∃ q r, q < 16 ∧ r < 16 ∧ S.1 q = 1 ∧ S.1 r = 1 ∧ (x = addO (S.2.1 q) (S.2.1 r) ∨ x = naO (S.2.1 q) (S.2.1 r) ∨ x = mulO (S.2.1 q) (S.2.1 r) ∨ x = nmO (S.2.1 q) (S.2.1 r))
/-- what a call changes -/
def Chg (S S2 : XS) : Prop := S2 = S ∨ ∃ p, p < 16 ∧ (S2 = sK S p 0 ∨ (∃ z, fitN z ∧ S2 = sN S p z) ∨ (∃ L, gok L ∧ S2 = sG S p L) ∨ ∃ x, Src S x ∧ S2 = sO S p x)
theorem out2_c {c1 c2 : Prop} {v : Int} {S S2 : XS} (h : c1 → c2 → Chg S S2) : Chg S (out2 c1 c2 v S S2).2.2 := by
  by_cases a : c1
  · by_cases b : c2
    · rw [out2_0 a b]; exact h a b
    · rw [out2_2 a b]; exact Or.inl rfl
  · rw [out2_1 a]; exact Or.inl rfl
theorem out3_c {c1 c2 c3 : Prop} {v : Int} {S S2 : XS} (h : c1 → c2 → c3 → Chg S S2) : Chg S (out3 c1 c2 c3 v S S2).2.2 := by
  by_cases a : c1
  · by_cases b : c2
    · by_cases c : c3
      · rw [out3_0 a b c]; exact h a b c
      · rw [out3_3 a b c]; exact Or.inl rfl
    · rw [out3_2 a b]; exact Or.inl rfl
  · rw [out3_1 a]; exact Or.inl rfl
theorem gok_gnz {L : GL} (h : gs L) (f : gfit (gnz L)) : gok (gnz L) := ⟨gs_gnz h, gNZ_gnz _, f⟩
theorem gok_g1 {b : Int} {e : GE} (hb : -1000000 ≤ b ∧ b ≤ 1000000) (he : e99 e) : gok (g1 e b) := by
  refine ⟨?_, fun p hp => by rw [(mem_g1 hp).1]; exact (mem_g1 hp).2, ?_, fun p hp => ?_⟩
  · unfold g1
    split
    · exact trivial
    · exact ⟨fun q hq => absurd hq List.not_mem_nil, trivial⟩
  · unfold g1
    split
    · exact Nat.zero_le _
    · show 1 ≤ 20; omega
  · rw [(mem_g1 hp).1]
    exact ⟨by dsimp only; omega, he⟩
theorem chg_of {S : XS} {o : XC} (V : VA S) (h : stepO S o) : Chg S o.2.2 := by
  obtain ⟨VN1, VG1, VK1⟩ := V
  obtain ⟨j, a, b, c, e, f, g, hj, rfl⟩ := h
  match j, hj with
  | 0, _ => exact out2_c fun _ _ => Or.inl rfl
  | 1, _ => exact out2_c fun z _ => Or.inr ⟨_, (isp_p z).2, Or.inl rfl⟩
  | 2, _ =>
    refine out2_c fun z w => Or.inr ⟨_, (isp_p z).2, Or.inr (Or.inr (Or.inr ⟨_, Or.inl ?_, rfl⟩))⟩
    intro e he
    split at he
    · rcases he with w | w | w
      · exact w
      · exact w.elim
      · exact w.elim
    · exact he.elim
  | 3, _ => exact out2_c fun z w => Or.inr ⟨_, (isp_p z.1).2, Or.inr (Or.inr (Or.inr ⟨_, Or.inr (Or.inl ⟨_, (isp_p z.2).2, w.1, Or.inl rfl⟩), rfl⟩))⟩
  | 4, _ => exact out2_c fun z w => Or.inr ⟨_, (isp_p z).2, Or.inr (Or.inl ⟨_, w.2, rfl⟩)⟩
  | 5, _ => exact out2_c fun z w => Or.inr ⟨_, (isp_p z).2, Or.inr (Or.inl ⟨_, (aQ_ok (by omega) (alg_Q (btI b) c.toInt.toNat (by omega)).1).2, rfl⟩)⟩
  | 6, _ => exact out2_c fun z w => Or.inr ⟨_, (isp_p z).2, Or.inr (Or.inr (Or.inl ⟨_, gok_g1 w.1 (by unfold e99; dsimp only; omega), rfl⟩))⟩
  | 7, _ =>
    refine out2_c fun z w => Or.inr ⟨pN a, (isp_p z.1).2, ?_⟩
    obtain ⟨z1, z2, z3⟩ := z
    obtain ⟨w1, w2, w3, w4, w5⟩ := w
    have y2 := (isp_p z2).2
    have y3 := (isp_p z3).2
    by_cases k1 : S.1 (pN b) = 1
    · rw [if_pos k1]
      exact Or.inr (Or.inr (Or.inr ⟨_, Or.inr (Or.inr ⟨_, _, y2, y3, k1, by rw [← w2]; exact k1, Or.inl rfl⟩), rfl⟩))
    · rw [if_neg k1]
      by_cases k2 : S.1 (pN b) = 2
      · rw [if_pos k2]
        exact Or.inr (Or.inl ⟨_, w4 k2, rfl⟩)
      · rw [if_neg k2]
        have k3 : S.1 (pN b) = 3 := by rcases VK1 _ y2 with v | v | v | v <;> first | exact v | exact absurd v w1 | exact absurd v k1 | exact absurd v k2
        exact Or.inr (Or.inr (Or.inl ⟨_, gok_gnz (gsm_can (VG1 _ y2 k3) (VG1 _ y3 (by rw [← w2]; exact k3))).1 (w5 k3), rfl⟩))
  | 8, _ =>
    refine out2_c fun z w => Or.inr ⟨pN a, (isp_p z.1).2, ?_⟩
    obtain ⟨z1, z2, z3⟩ := z
    obtain ⟨w1, w2, w3, w4, w5⟩ := w
    have y2 := (isp_p z2).2
    have y3 := (isp_p z3).2
    by_cases k1 : S.1 (pN b) = 1
    · rw [if_pos k1]
      exact Or.inr (Or.inr (Or.inr ⟨_, Or.inr (Or.inr ⟨_, _, y2, y3, k1, by rw [← w2]; exact k1, Or.inr (Or.inr (Or.inl rfl))⟩), rfl⟩))
    · rw [if_neg k1]
      by_cases k2 : S.1 (pN b) = 2
      · rw [if_pos k2]
        exact Or.inr (Or.inl ⟨_, (w4 k2).2, rfl⟩)
      · rw [if_neg k2]
        have k3 : S.1 (pN b) = 3 := by rcases VK1 _ y2 with v | v | v | v <;> first | exact v | exact absurd v w1 | exact absurd v k1 | exact absurd v k2
        have g2 := VG1 _ y2 k3
        have g3 := VG1 _ y3 (by rw [← w2]; exact k3)
        exact Or.inr (Or.inr (Or.inl ⟨_, gok_gnz (gmu_can (fun q hq => (g3.2.2.2 q hq).2) _ [] (fun q hq => (g2.2.2.2 q hq).2) trivial (fun p hp => absurd hp List.not_mem_nil)).1 (w5 k3), rfl⟩))
  | 9, _ =>
    refine out2_c fun z w => Or.inr ⟨pN a, (isp_p z.1).2, ?_⟩
    obtain ⟨z1, z2, z3⟩ := z
    obtain ⟨w1, w2, w3, w4, w5⟩ := w
    have y2 := (isp_p z2).2
    have y3 := (isp_p z3).2
    by_cases k2 : S.1 (pN b) = 2
    · rw [if_pos k2]
      exact Or.inr (Or.inl ⟨_, w4 k2, rfl⟩)
    · rw [if_neg k2]
      have k3 : S.1 (pN b) = 3 := by rcases VK1 _ y2 with v | v | v | v <;> first | exact v | exact absurd v w1 | exact absurd v w3 | exact absurd v k2
      exact Or.inr (Or.inr (Or.inl ⟨_, gok_gnz (gsm_can (VG1 _ y2 k3) (VG1 _ y3 (by rw [← w2]; exact k3))).1 (w5 k3), rfl⟩))
  | 10, _ =>
    refine out2_c fun z w => Or.inr ⟨pN a, (isp_p z.1).2, Or.inr (Or.inr (Or.inr ⟨_, Or.inr (Or.inr ⟨_, _, (isp_p z.2.1).2, (isp_p z.2.2).2, w.1, w.2.1, ?_⟩), rfl⟩))⟩
    split
    · exact Or.inr (Or.inl rfl)
    · exact Or.inr (Or.inr (Or.inr rfl))
  | 11, _ =>
    refine out2_c fun z w => Or.inr ⟨pN a, (isp_p z.1).2, Or.inr (Or.inr (Or.inl ⟨_, gok_gnz ?_ w.2, rfl⟩))⟩
    have g2 := VG1 _ (isp_p z.2).2 w.1
    exact (gdv_can _ [] (fun q hq => (g2.2.2.2 q hq).2) trivial (fun p hp => absurd hp List.not_mem_nil)).1
  | 12, _ => exact out2_c fun _ _ => Or.inl rfl
  | 13, _ => exact out3_c fun z w v => Or.inr ⟨_, (isp_p z.1).2, Or.inr (Or.inr (Or.inr ⟨_, Or.inr (Or.inl ⟨_, (isp_p z.2).2, v.1, Or.inr (Or.inr ⟨_, by omega, by omega, v.2.1, v.2.2, rfl⟩)⟩), rfl⟩))⟩
  | 14, _ => exact out3_c fun _ _ _ => Or.inl rfl
  | 15, _ => exact out2_c fun _ _ => Or.inl rfl
  | 16, _ => exact out2_c fun _ _ => Or.inl rfl
  | 17, _ =>
    refine out2_c fun z w => Or.inr ⟨_, (isp_p z.1).2, Or.inr (Or.inr (Or.inr ⟨_, Or.inr (Or.inl ⟨_, (isp_p z.2.1).2, w.1, Or.inr (Or.inl ⟨_, ?_, rfl⟩)⟩), rfl⟩))⟩
    obtain ⟨-, -, z3⟩ := z
    have hl : c.toInt.toNat < (pl (S.2.1 (pN b))).length := by have := w.2; omega
    rw [List.getElem?_eq_getElem hl]
    exact List.getElem_mem hl
  | 18, _ =>
    refine out3_c fun z w v => Or.inr ⟨_, (isp_p z).2, Or.inr (Or.inl ⟨_, ?_, rfl⟩)⟩
    obtain ⟨-, -, v3⟩ := v
    cases hw : cW S b c with
    | none => rw [hw] at v3; exact v3.elim
    | some u => rw [hw] at v3; exact v3
  | 19, _ => exact out2_c fun _ _ => Or.inl rfl
  | 20, _ => exact out2_c fun _ _ => Or.inl rfl
  | 21, _ => exact out2_c fun _ _ => Or.inl rfl
  | 22, _ => exact out2_c fun _ _ => Or.inl rfl
  | 23, _ => exact out2_c fun _ _ => Or.inl rfl
  | 24, _ => exact out3_c fun _ _ _ => Or.inl rfl
  | n + 25, h => exact absurd h (by omega)
theorem chg_VA {S S2 : XS} (V : VA S) (h : Chg S S2) : VA S2 := by
  obtain ⟨V1, V2, V3⟩ := id V
  have n10 : ¬ (1 : Int32) = 2 ∧ ¬ (1 : Int32) = 3 ∧ ¬ (2 : Int32) = 3 ∧ ¬ (3 : Int32) = 2 ∧ ¬ (0 : Int32) = 2 ∧ ¬ (0 : Int32) = 3 := by decide
  obtain ⟨n1, n2, n3, n4, n5, n6⟩ := n10
  rcases h with rfl | ⟨p, hp, rfl | ⟨z, hz, rfl⟩ | ⟨L, hL, rfl⟩ | ⟨x, -, rfl⟩⟩
  · exact V
  · refine ⟨fun q hq hk => ?_, fun q hq hk => ?_, fun q hq => ?_⟩
    all_goals by_cases w : q = p
    · rw [w] at hk; exact absurd ((upw_e S.1 p 0).symm.trans hk) n5
    · exact V1 q hq ((upw_n S.1 0 w).symm.trans hk)
    · rw [w] at hk; exact absurd ((upw_e S.1 p 0).symm.trans hk) n6
    · exact V2 q hq ((upw_n S.1 0 w).symm.trans hk)
    · rw [w]; exact Or.inl (upw_e S.1 p 0)
    · show upw S.1 p 0 q = 0 ∨ upw S.1 p 0 q = 1 ∨ upw S.1 p 0 q = 2 ∨ upw S.1 p 0 q = 3
      rw [upw_n S.1 0 w]; exact V3 q hq
  · refine ⟨fun q hq hk => ?_, fun q hq hk => ?_, fun q hq => ?_⟩
    all_goals by_cases w : q = p
    · rw [w]; show fitN (upw S.2.2.1 p z p); rw [upw_e]; exact hz
    · show fitN (upw S.2.2.1 p z q); rw [upw_n _ _ w]; exact V1 q hq ((upw_n S.1 2 w).symm.trans hk)
    · rw [w] at hk; exact absurd ((upw_e S.1 p 2).symm.trans hk) n3
    · exact V2 q hq ((upw_n S.1 2 w).symm.trans hk)
    · rw [w]; exact Or.inr (Or.inr (Or.inl (upw_e S.1 p 2)))
    · show upw S.1 p 2 q = 0 ∨ upw S.1 p 2 q = 1 ∨ upw S.1 p 2 q = 2 ∨ upw S.1 p 2 q = 3
      rw [upw_n S.1 2 w]; exact V3 q hq
  · refine ⟨fun q hq hk => ?_, fun q hq hk => ?_, fun q hq => ?_⟩
    all_goals by_cases w : q = p
    · rw [w] at hk; exact absurd ((upw_e S.1 p 3).symm.trans hk) n4
    · exact V1 q hq ((upw_n S.1 3 w).symm.trans hk)
    · rw [w]; show gok (upw S.2.2.2 p L p); rw [upw_e]; exact hL
    · show gok (upw S.2.2.2 p L q); rw [upw_n _ _ w]; exact V2 q hq ((upw_n S.1 3 w).symm.trans hk)
    · rw [w]; exact Or.inr (Or.inr (Or.inr (upw_e S.1 p 3)))
    · show upw S.1 p 3 q = 0 ∨ upw S.1 p 3 q = 1 ∨ upw S.1 p 3 q = 2 ∨ upw S.1 p 3 q = 3
      rw [upw_n S.1 3 w]; exact V3 q hq
  · refine ⟨fun q hq hk => ?_, fun q hq hk => ?_, fun q hq => ?_⟩
    all_goals by_cases w : q = p
    · rw [w] at hk; exact absurd ((upw_e S.1 p 1).symm.trans hk) n1
    · exact V1 q hq ((upw_n S.1 1 w).symm.trans hk)
    · rw [w] at hk; exact absurd ((upw_e S.1 p 1).symm.trans hk) n2
    · exact V2 q hq ((upw_n S.1 1 w).symm.trans hk)
    · rw [w]; exact Or.inr (Or.inl (upw_e S.1 p 1))
    · show upw S.1 p 1 q = 0 ∨ upw S.1 p 1 q = 1 ∨ upw S.1 p 1 q = 2 ∨ upw S.1 p 1 q = 3
      rw [upw_n S.1 1 w]; exact V3 q hq
