/-! ===== layer 2: the class's tally ===== -/
/-- only the tally has changed -/
def Ft (h : XH) (y : Nat → Nat) (h2 : XH) (y2 : Nat → Nat) : Prop := Sg h2.1 y2 ∧ (∀ b, b < 8 → y2 b = y b) ∧ (∀ r, (r < 20 ∨ 29 ≤ r) → h2.2.1 r = h.2.1 r ∧ h2.2.2.1 r = h.2.2.1 r) ∧ h2.1.length = h.1.length ∧ h2.2.2.2 = h.2.2.2
theorem Ft.rf {h : XH} {y : Nat → Nat} (hs : Sg h.1 y) : Ft h y h y := ⟨hs, fun _ _ => rfl, fun _ _ => ⟨rfl, rfl⟩, rfl, rfl⟩
theorem Ft.tr {h h2 h3 : XH} {y y2 y3 : Nat → Nat} (a : Ft h y h2 y2) (b : Ft h2 y2 h3 y3) : Ft h y h3 y3 := ⟨b.1, fun k hk => (b.2.1 k hk).trans (a.2.1 k hk), fun r hr => ⟨(b.2.2.1 r hr).1.trans (a.2.2.1 r hr).1, (b.2.2.1 r hr).2.trans (a.2.2.1 r hr).2⟩, b.2.2.2.1.trans a.2.2.2.1, b.2.2.2.2.trans a.2.2.2.2⟩
theorem Ft.fd {h h2 : XH} {y : Nat → Nat} {q : Nat} (hs : Sg h.1 y) (F : Fdr q h h2) (hq : 20 ≤ q ∧ q ≤ 26) : Ft h y h2 y := ⟨F.sg hs, fun _ _ => rfl, fun r hr => F.2.2 r (by omega) (by omega) (by omega), by rw [F.1], F.2.1⟩
theorem y89 {T : List XT} {y : Nat → Nat} (hs : Sg T y) : (20 ≤ y 8 ∧ y 8 ≤ 23) ∧ (20 ≤ y 9 ∧ y 9 ≤ 23) ∧ (y 8 + 2 < y 9 ∨ y 9 + 2 < y 8) := by
  rcases sg_89v hs with ⟨a, b⟩ | ⟨a, b⟩ <;> rw [a, b] <;> omega
/-- both rows of the tally for one another -/
def y89s (y : Nat → Nat) : Nat → Nat := fun b => if b = 8 then y 9 else if b = 9 then y 8 else y b
theorem sg_swp {h : XH} {y : Nat → Nat} (hs : Sg h.1 y) : Sg (swp h y).1 (y89s y) := by
  have h19 : 19 < h.1.length := (List.getElem?_eq_some_iff.mp (sg_19 hs)).1
  have hne : ∀ k, k ≠ 19 → (h.1.set 19 (0, 3, [some (y 9), some (y 8), some 26]))[k]? = h.1[k]? := fun k z => List.getElem?_set_ne (fun w => z w.symm)
  have hh := sg_hnd hs
  obtain ⟨s1, s2, s3, s4, s5, s6, s7, s8⟩ := hs
  have e : ∀ b, b < 8 → y89s y b = y b := fun b hb => by unfold y89s; rw [if_neg (by omega), if_neg (by omega)]
  have e8 : y89s y 8 = y 9 := rfl
  have e9 : y89s y 9 = y 8 := rfl
  unfold Sg
  rw [e 0 (by omega), e 1 (by omega), e 2 (by omega), e 3 (by omega), e 4 (by omega), e 5 (by omega), e 6 (by omega), e 7 (by omega), e8, e9]
  refine ⟨fun k t hk => ?_, ?_, ⟨?_, ?_, ?_, ?_⟩, ?_, ?_, s6, s7, s8⟩
  · show (h.1.set 19 _)[k]? = _
    rw [hne k (fun z => by rw [z] at hk; cases hk)]
    exact s1 k t hk
  · show (h.1.set 19 _)[6]? = _
    rw [hne 6 (by omega)]; exact s2
  · show (h.1.set 19 _)[y 0]? = _
    rw [hne _ (by omega)]; exact s3.1
  · show (h.1.set 19 _)[y 1]? = _
    rw [hne _ (by omega)]; exact s3.2.1
  · show (h.1.set 19 _)[y 2]? = _
    rw [hne _ (by omega)]; exact s3.2.2.1
  · show (h.1.set 19 _)[y 3]? = _
    rw [hne _ (by omega)]; exact s3.2.2.2
  · show (h.1.set 19 _)[19]? = _
    rw [List.getElem?_set_self h19]
  · omega
theorem Ft.sw {h : XH} {y : Nat → Nat} (hs : Sg h.1 y) : Ft h y (swp h y) (y89s y) := ⟨sg_swp hs, fun b hb => by unfold y89s; rw [if_neg (by omega), if_neg (by omega)], fun _ _ => ⟨rfl, rfl⟩, by show (h.1.set 19 _).length = _; rw [List.length_set], rfl⟩
theorem gB_le {b c : Int} {L : GL} (h : gB b L) (hc : b ≤ c) : gB c L := fun p hp => by have := h p hp; omega
theorem gB_g1 {c t : Int} {e : GE} (h : -c ≤ t ∧ t ≤ c) : gB c (g1 e t) := fun p hp => by
  rw [(mem_g1 hp).1]
  exact h
section
variable {d : Nat} {h : XH} {y : Nat → Nat} {K : XK} {E : XE}
/-- N is made of what stands before k in A and before m in B -/
def mgI (A B N R C : GL) (b : Int) (n : Nat) : Prop := gcan N ∧ gB b N ∧ N.length ≤ n ∧ (∀ p ∈ N, ∀ q ∈ R, gck q.1 < gck p.1) ∧ (∀ p ∈ N, ∀ q ∈ C, gck q.1 < gck p.1) ∧ ∀ f, gco N f + gco R f + gco C f = gco A f + gco B f
theorem gcan_app {N : GL} {e : GE} {t : Int} (c : gcan N) (he : gE e) (h : ∀ p ∈ N, gck e < gck p.1) : gcan (N ++ g1 e t) := by
  refine ⟨gs_app.mpr ⟨c.1, gs_g1 e t, fun p hp q hq => ?_⟩, fun p hp => ?_, fun p hp => ?_⟩
  · rw [(mem_g1 hq).1]; exact h p hp
  · rcases List.mem_append.mp hp with z | z
    · exact c.2.1 p z
    · rw [(mem_g1 z).1]; exact he
  · rcases List.mem_append.mp hp with z | z
    · exact c.2.2 p z
    · have := (mem_g1 z).2
      rw [(mem_g1 z).1]; exact this
theorem gB_app {N M : GL} {b : Int} (h : gB b N) (g : gB b M) : gB b (N ++ M) := fun p hp => by
  rcases List.mem_append.mp hp with z | z
  · exact h p z
  · exact g p z
theorem t_X4_addRow {A B : GL} {b c : Int} (hd : 24 ≤ d) (hs : Sg h.1 y) (GA : Gc h (y 8) A) (GB : Gc h 26 B) (cA : gcan A) (cB : gcan B) (hl : A.length + B.length ≤ 400) (hlb : B.length ≤ 20) (bA : gB b A) (bB : gB c B) (h0b : 0 ≤ b) (h0c : 0 ≤ c) (hbc : b + c ≤ 4611686018427387904)
    (kk : ∀ h2 y2 L, Gc h2 (y2 8) L → gcan L → L.length ≤ A.length + B.length → gB (b + c) L → (∀ f, gco L f = gco A f + gco B f) → Ft h y h2 y2 → K none h2) : Ca d m_X4_addRow [.ref 19] h (fun rv h2 => rv = none ∧ ∃ y4 : Nat → Nat, Sg h2.1 y4 ∧ K none h2) E := by
  obtain ⟨d, rfl⟩ : ∃ e, d = e + 1 := ⟨d - 1, by omega⟩
  obtain ⟨v8, v9, vn⟩ := y89 hs
  have frA : ∀ h1, Fdr (y 9) h h1 → Gc h1 (y 8) A := fun h1 F => GA.fr (F.2.2 _ (by omega) (by omega) (by omega)).1 (F.2.2 _ (by omega) (by omega) (by omega)).2 (F.2.2 _ (by omega) (by omega) (by omega)).2
  have frB : ∀ h1, Fdr (y 9) h h1 → Gc h1 26 B := fun h1 F => GB.fr (F.2.2 _ (by omega) (by omega) (by omega)).1 (F.2.2 _ (by omega) (by omega) (by omega)).2 (F.2.2 _ (by omega) (by omega) (by omega)).2
  have lA := GA.2.1
  -- the rest of A
  have rest : ∀ (r k : Nat) (l1 : Int32) (u2 u3 u4 u5 u6 : Option Value) (h1 : XH) (N : GL), r + k = A.length → l1.toInt = k → Fdr (y 9) h h1 → Gc h1 (y 9) N → mgI A B N (A.drop k) [] (b + c) (k + B.length) → b_X4_addRow_150 d 19 l1 u2 u3 u4 u5 u6 h1 (fun rv h2 => rv = none ∧ ∃ y4 : Nat → Nat, Sg h2.1 y4 ∧ K none h2) E := by
    intro r
    induction r with
    | zero =>
      intro k l1 u2 u3 u4 u5 u6 h1 N hr h1' F1 GN I
      have hs1 := F1.sg hs
      have ga := (frA h1 F1).1
      rw [List.drop_eq_nil_of_le (by omega)] at I
      obtain ⟨i1, i2, i3, -, -, i6⟩ := I
      refine w_X4_addRow_150 (by omega) hs1 ⟨fun _ => w_X4_addRow_190 (by omega) hs1 ⟨rfl, y89s y, sg_swp hs1, kk (swp h1 y) (y89s y) N GN i1 (by omega) i2 (fun f => ?_) ((Ft.fd hs F1 (by omega)).tr (Ft.sw hs1))⟩, fun z => absurd (i_le.mpr (by omega)) z⟩
      have := i6 f
      have h9 : gco ([] : GL) f = 0 := rfl
      rw [h9] at this
      omega
    | succ r ih =>
      intro k l1 u2 u3 u4 u5 u6 h1 N hr h1' F1 GN I
      have hs1 := F1.sg hs
      have ga := frA h1 F1
      have gc := ga.1
      obtain ⟨e, t, g⟩ := gget (A := A) (m := k) (by omega)
      obtain ⟨v1, v2⟩ := ga.2.2 k e t g
      obtain ⟨dc, dm⟩ := gs_dropc cA.1 g
      have ge := cA.2.1 _ dm
      have gt := cA.2.2 _ dm
      have gb := bA _ dm
      dsimp only at ge gt gb
      have nx : (l1 + 1).toInt = (k + 1 : Nat) := by rw [i_add (by rw [i_1]; omega) (by rw [i_1]; omega), h1', i_1]; rfl
      obtain ⟨i1, i2, i3, i4, i5, i6⟩ := I
      rw [gdrop g] at i4 i6
      have top : ∀ p ∈ N, gck e < gck p.1 := fun p hp => i4 p hp (e, t) List.mem_cons_self
      refine w_X4_addRow_150 (by omega) hs1 ⟨fun z => absurd (i_le.mp z) (by omega), fun _ => t_X1_add (e := e) (t := t) (by omega) hs1 (sg_Gn hs1).2 (Nat.le_refl _) GN (by omega) (by rw [gJ_in h1' (by omega)]; exact v1) (by rw [gJ_in h1' (by omega)]; exact v2) (fun h3 G3 F3 => ⟨rfl, F3.sg hs1, ih (k + 1) (l1 + 1) _ _ _ _ _ h3 (N ++ g1 e t) (by omega) nx (F1.tr F3) G3 ⟨gcan_app i1 ge top, gB_app i2 (gB_g1 ⟨by omega, by omega⟩), ?_, fun p hp q hq => ?_, fun p hp q hq => absurd hq List.not_mem_nil, fun f => ?_⟩⟩)⟩
      · rw [List.length_append]
        have := len_g1 e t
        omega
      · rcases List.mem_append.mp hp with z | z
        · exact i4 p z q (List.mem_cons_of_mem _ hq)
        · rw [(mem_g1 z).1]; exact dc q hq
      · rw [gco_app, gco_g1]
        have h9 : gco ((e, t) :: A.drop (k + 1)) f = (if e = f then t else 0) + gco (A.drop (k + 1)) f := rfl
        have := i6 f
        rw [h9] at this
        omega
  -- the turns of B
  have turns : ∀ (r m k : Nat) (l1 l2 : Int32) (u3 u4 u5 u6 : Option Value) (h1 : XH) (N : GL), r + m = B.length → l1.toInt = k → k ≤ A.length → l2.toInt = m → Fdr (y 9) h h1 → Gc h1 (y 9) N → mgI A B N (A.drop k) (B.drop m) (b + c) (k + m) → b_X4_addRow_11 d 19 l1 l2 u3 u4 u5 u6 h1 (fun rv h2 => rv = none ∧ ∃ y4 : Nat → Nat, Sg h2.1 y4 ∧ K none h2) E := by
    intro r
    induction r with
    | zero =>
      intro m k l1 l2 u3 u4 u5 u6 h1 N hr h1' hk h2' F1 GN I
      have hs1 := F1.sg hs
      have gb := (frB h1 F1).1
      rw [List.drop_eq_nil_of_le (show B.length ≤ m by omega)] at I
      exact w_X4_addRow_11 (by omega) hs1 ⟨fun _ => rest (A.length - k) k l1 _ _ _ _ _ h1 N (by omega) h1' F1 GN (by rw [show B.length = m by omega]; exact I), fun z => absurd (i_le.mpr (by omega)) z⟩
    | succ r ih =>
      intro m k l1 l2 u3 u4 u5 u6 h1 N hr h1' hk h2' F1 GN I
      have hs1 := F1.sg hs
      have gb := frB h1 F1
      have gbc := gb.1
      obtain ⟨e, t, g⟩ := gget (A := B) (m := m) (by omega)
      obtain ⟨v1, v2⟩ := gb.2.2 m e t g
      obtain ⟨dc, dm⟩ := gs_dropc cB.1 g
      have ge := cB.2.1 _ dm
      have gt := bB _ dm
      dsimp only at ge gt
      have nm : (l2 + 1).toInt = (m + 1 : Nat) := by rw [i_add (by rw [i_1]; omega) (by rw [i_1]; omega), h2', i_1]; rfl
      have vt : (g_J h1 27 20 l2).toInt = t := by rw [gJ_in h2' (by omega)]; exact v1
      have vk : (g_J h1 28 20 l2).toInt = gck e := by rw [gJ_in h2' (by omega)]; exact v2
      generalize hjt : g_J h1 27 20 l2 = jt at vt
      generalize hjk : g_J h1 28 20 l2 = jk at vk
      -- the part of B goes in
      have put : ∀ (k : Nat) (l1 : Int32) (l5 : Int64) (t2 : Int) (h1 : XH) (N : GL), l1.toInt = k → k ≤ A.length → l5.toInt = t2 → Fdr (y 9) h h1 → Gc h1 (y 9) N → gcan N → gB (b + c) N → N.length + 1 ≤ k + (m + 1) → (∀ p ∈ N, gck e < gck p.1) → (∀ p ∈ N, ∀ q ∈ A.drop k, gck q.1 < gck p.1) → (∀ q ∈ A.drop k, gck q.1 < gck e) → (-(b + c) ≤ t2 ∧ t2 ≤ b + c) → (∀ f, gco N f + gco (A.drop k) f + ((if e = f then t2 else 0) + gco (B.drop (m + 1)) f) = gco A f + gco B f) → b_X4_addRow_134 d 19 l1 l2 jk l5 h1 (fun rv h2 => rv = none ∧ ∃ y4 : Nat → Nat, Sg h2.1 y4 ∧ K none h2) E := by
        intro k l1 l5 t2 h1 N q1 qk q5 F1 GN n1 n2 n3 n4 n5 n6 n7 n8
        have hs1 := F1.sg hs
        refine w_X4_addRow_134 (by omega) hs1 (t_X1_add (e := e) (t := t2) (by omega) hs1 (sg_Gn hs1).2 (Nat.le_refl _) GN (by omega) q5 vk (fun h3 G3 F3 => ⟨rfl, F3.sg hs1, ih (m + 1) k l1 (l2 + 1) _ _ _ _ h3 (N ++ g1 e t2) (by omega) q1 qk nm (F1.tr F3) G3 ⟨gcan_app n1 ge n4, gB_app n2 (gB_g1 n7), ?_, fun p hp q hq => ?_, fun p hp q hq => ?_, fun f => ?_⟩⟩))
        · rw [List.length_append]
          have := len_g1 e t2
          omega
        · rcases List.mem_append.mp hp with z | z
          · exact n5 p z q hq
          · rw [(mem_g1 z).1]; exact n6 q hq
        · have d1 := dc q hq
          rcases List.mem_append.mp hp with z | z
          · have := n4 p z
            dsimp only at d1
            omega
          · rw [(mem_g1 z).1]; exact d1
        · rw [gco_app, gco_g1]
          have := n8 f
          omega
      have walk : ∀ (s k : Nat) (l1 : Int32) (h1 : XH) (N : GL), s + k = A.length → l1.toInt = k → Fdr (y 9) h h1 → Gc h1 (y 9) N → mgI A B N (A.drop k) (B.drop m) (b + c) (k + m) → b_X4_addRow_41 d 19 l1 l2 jk jt h1 (fun rv h2 => rv = none ∧ ∃ y4 : Nat → Nat, Sg h2.1 y4 ∧ K none h2) E := by
        intro s
        induction s with
        | zero =>
          intro k l1 h1 N hs' h1' F1 GN I
          have hs1 := F1.sg hs
          have gac := (frA h1 F1).1
          obtain ⟨i1, i2, i3, i4, i5, i6⟩ := I
          rw [gdrop g] at i5 i6
          have dz : A.drop k = [] := List.drop_eq_nil_of_le (by omega)
          refine w_X4_addRow_41 (by omega) hs1 ⟨fun _ => w_X4_addRow_94 (by omega) hs1 ⟨fun _ => put k l1 jt t h1 N h1' (by omega) vt F1 GN i1 i2 (by omega) (fun p hp => i5 p hp (e, t) List.mem_cons_self) i4 (fun q hq => by rw [dz] at hq; exact absurd hq List.not_mem_nil) ⟨by omega, by omega⟩ i6, fun z => absurd (i_le.mpr (by omega)) z⟩, fun z => absurd (i_le.mpr (by omega)) z⟩
        | succ s ihs =>
          intro k l1 h1 N hs' h1' F1 GN I
          have hs1 := F1.sg hs
          have ga := frA h1 F1
          have gac := ga.1
          obtain ⟨f, u, g2⟩ := gget (A := A) (m := k) (by omega)
          obtain ⟨w1, w2⟩ := ga.2.2 k f u g2
          obtain ⟨dc2, dm2⟩ := gs_dropc cA.1 g2
          have gf := cA.2.1 _ dm2
          have gu := bA _ dm2
          dsimp only at gf gu dc2
          have nx : (l1 + 1).toInt = (k + 1 : Nat) := by rw [i_add (by rw [i_1]; omega) (by rw [i_1]; omega), h1', i_1]; rfl
          have vu : (g_J h1 (y 8 + 1) 400 l1).toInt = u := by rw [gJ_in h1' (by omega)]; exact w1
          have vf : (g_J h1 (y 8 + 2) 400 l1).toInt = gck f := by rw [gJ_in h1' (by omega)]; exact w2
          obtain ⟨i1, i2, i3, i4, i5, i6⟩ := id I
          rw [gdrop g] at i5 i6
          have i4' := i4
          rw [gdrop g2] at i4 i6
          have h9 : ∀ z, gco ((f, u) :: A.drop (k + 1)) z = (if f = z then u else 0) + gco (A.drop (k + 1)) z := fun z => rfl
          have topN : ∀ p ∈ N, gck e < gck p.1 := fun p hp => i5 p hp (e, t) List.mem_cons_self
          have le94 : gck f ≤ gck e → b_X4_addRow_94 d 19 l1 l2 jk jt h1 (fun rv h2 => rv = none ∧ ∃ y4 : Nat → Nat, Sg h2.1 y4 ∧ K none h2) E := by
            intro hle
            refine w_X4_addRow_94 (by omega) hs1 ⟨fun z => absurd (i_le.mp z) (by omega), fun _ => ⟨fun z => ?_, fun z => ?_⟩⟩
            · have hne : ¬ gck f = gck e := fun q9 => z (Int64.toInt_inj.mp (by rw [vf, vk, q9]))
              refine put k l1 jt t h1 N h1' (by omega) vt F1 GN i1 i2 (by omega) topN i4' (fun q hq => ?_) ⟨by omega, by omega⟩ (fun z9 => ?_)
              · rw [gdrop g2] at hq
                rcases List.mem_cons.mp hq with w | w
                · rw [w]; show gck f < gck e; omega
                · have := dc2 q w; omega
              · rw [gdrop g2]; exact i6 z9
            · have heq := congrArg Int64.toInt (Classical.not_not.mp z)
              rw [vf, vk] at heq
              have efe : f = e := (gck_eq gf ge).mp heq
              refine put (k + 1) (l1 + 1) _ (t + u) h1 N nx (by omega) ?_ F1 GN i1 i2 (by omega) topN (fun p hp q hq => i4 p hp q (List.mem_cons_of_mem _ hq)) (fun q hq => ?_) ⟨by omega, by omega⟩ (fun z9 => ?_)
              · rw [j_add (by rw [vt, vu]; omega) (by rw [vt, vu]; omega), vt, vu]
              · have := dc2 q hq
                rw [heq] at this
                exact this
              · have := i6 z9
                rw [h9, efe] at this
                split at this
                · rename_i q9
                  rw [if_pos q9]
                  have h8 : gco ((e, t) :: B.drop (m + 1)) z9 = t + gco (B.drop (m + 1)) z9 := by
                    show (if e = z9 then t else 0) + _ = _
                    rw [if_pos q9]
                  rw [h8] at this
                  omega
                · rename_i q9
                  rw [if_neg q9]
                  have h8 : gco ((e, t) :: B.drop (m + 1)) z9 = gco (B.drop (m + 1)) z9 := by
                    show (if e = z9 then t else 0) + _ = _
                    rw [if_neg q9]; omega
                  rw [h8] at this
                  omega
          refine w_X4_addRow_41 (by omega) hs1 ⟨fun z => absurd (i_le.mp z) (by omega), fun _ => ⟨fun z => le94 ?_, fun z => ?_⟩⟩
          · rw [j_le, vf, vk] at z; exact z
          · rw [j_le, vf, vk] at z
            have top : ∀ p ∈ N, gck f < gck p.1 := fun p hp => i4 p hp (f, u) List.mem_cons_self
            refine t_X1_add (e := f) (t := u) (by omega) hs1 (sg_Gn hs1).2 (Nat.le_refl _) GN (by omega) vu vf (fun h3 G3 F3 => ⟨rfl, F3.sg hs1, ihs (k + 1) (l1 + 1) h3 (N ++ g1 f u) (by omega) nx (F1.tr F3) G3 ⟨gcan_app i1 gf top, gB_app i2 (gB_g1 ⟨by omega, by omega⟩), ?_, fun p hp q hq => ?_, fun p hp q hq => ?_, fun z9 => ?_⟩⟩)
            · rw [List.length_append]
              have := len_g1 f u
              omega
            · rcases List.mem_append.mp hp with w | w
              · exact i4 p w q (List.mem_cons_of_mem _ hq)
              · rw [(mem_g1 w).1]; exact dc2 q hq
            · rw [gdrop g] at hq
              rcases List.mem_append.mp hp with w | w
              · exact i5 p w q hq
              · rw [(mem_g1 w).1]
                show gck q.1 < gck f
                rcases List.mem_cons.mp hq with v | v
                · rw [v]; show gck e < gck f; omega
                · have := dc q v
                  dsimp only at this
                  omega
            · rw [gco_app, gco_g1, gdrop g]
              have := i6 z9
              rw [h9] at this
              omega
      refine w_X4_addRow_11 (by omega) hs1 ⟨fun z => absurd (i_le.mp z) (by omega), fun _ => ?_⟩
      rw [hjk, hjt]
      exact walk (A.length - k) k l1 h1 N (by omega) h1' F1 GN I
  refine w_X4_addRow (by omega) hs (fun h1 e1 => ?_)
  obtain ⟨Z1, Z2⟩ := Gc.z h (y 9)
  rw [← e1] at Z1 Z2
  exact turns B.length 0 0 0 0 none none none none h1 [] (Nat.add_zero _) rfl (Nat.zero_le _) rfl Z2 Z1 ⟨⟨trivial, fun p hp => absurd hp List.not_mem_nil, fun p hp => absurd hp List.not_mem_nil⟩, fun p hp => absurd hp List.not_mem_nil, Nat.zero_le _, fun p hp => absurd hp List.not_mem_nil, fun p hp => absurd hp List.not_mem_nil, fun f => by show (0 : Int) + _ + _ = _; rw [List.drop_zero, List.drop_zero]; omega⟩
end
