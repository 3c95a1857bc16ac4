/-! ===== layer 2: the model by blocks, written by a program ===== -/
theorem w_X7_lays {d : Nat} {h : XH} {y : Nat → Nat} {K : XK} {E : XE} {a : Int32} {b : Int32} {c : Int32} (hd : 20 ≤ d) (hs : Sg h.1 y) (H : (Ix a 16 ∧ (∀ h1 : XH, h1 = (x_setI h 78 (ix a) b) → (Ix a 16 ∧ (∀ h2 : XH, h2 = (x_setI h1 79 (ix a) c) → K none h2))))) : Ca (d + 1) m_X7_lays [.ref 77, .int a, .int b, .int c] h K E := by
  refine Ca.of ⟨by show 4 ≤ 4; omega, rfl⟩ ?_
  show Ex d [] tb_X7_lays (0, [some (.ref 77), some (.int a), some (.int b), some (.int c)], []) h _
  refine Ex.pure 1 (fr2 := (1, [some (.ref 77), some (.int a), some (.int b), some (.int c)], [.ref 77])) rfl ?_
  refine Ex.getQ rfl (sg_77 hs) rfl ?_
  refine Ex.pure 2 (fr2 := (6, [some (.ref 77), some (.int a), some (.int b), some (.int c)], [.int b, .int a, .ref 78])) rfl ?_
  refine Ex.iast rfl (sg_78 hs) H.1 ?_
  replace H := H.2
  obtain ⟨h1, e1⟩ : ∃ z : XH, z = (x_setI h 78 (ix a) b) := ⟨_, rfl⟩
  rw [← e1]
  replace H := H h1 e1
  replace hs : Sg h1.1 y := by rw [e1]; exact hs
  refine Ex.pure 1 (fr2 := (8, [some (.ref 77), some (.int a), some (.int b), some (.int c)], [.ref 77])) rfl ?_
  refine Ex.getQ rfl (sg_77 hs) rfl ?_
  refine Ex.pure 2 (fr2 := (13, [some (.ref 77), some (.int a), some (.int b), some (.int c)], [.int c, .int a, .ref 79])) rfl ?_
  refine Ex.iast rfl (sg_79 hs) H.1 ?_
  replace H := H.2
  obtain ⟨h2, e2⟩ : ∃ z : XH, z = (x_setI h1 79 (ix a) c) := ⟨_, rfl⟩
  rw [← e2]
  replace H := H h2 e2
  replace hs : Sg h2.1 y := by rw [e2]; exact hs
  exact Ex.vret rfl H
theorem w_X7_last {d : Nat} {h : XH} {y : Nat → Nat} {K : XK} {E : XE} {a : Int32} (hd : 20 ≤ d) (hs : Sg h.1 y) (H : (Ix a 2000 ∧ K (some (.int (((8 * a) + (h.2.1 82 (ix a))) - 1))) h)) : Ca (d + 1) m_X7_last [.ref 77, .int a] h K E := by
  refine Ca.of ⟨by show 2 ≤ 2; omega, rfl⟩ ?_
  show Ex d [] tb_X7_last (0, [some (.ref 77), some (.int a)], []) h _
  refine Ex.pure 4 (fr2 := (5, [some (.ref 77), some (.int a)], [.ref 77, .int (8 * a)])) rfl ?_
  refine Ex.getQ rfl (sg_77 hs) rfl ?_
  refine Ex.pure 1 (fr2 := (9, [some (.ref 77), some (.int a)], [.int a, .ref 82, .int (8 * a)])) rfl ?_
  refine Ex.iald rfl (Or.inl rfl) (sg_82 hs) H.1 ?_
  replace H := H.2
  refine Ex.pure 3 (fr2 := (13, [some (.ref 77), some (.int a)], [.int (((8 * a) + (h.2.1 82 (ix a))) - 1)])) rfl ?_
  exact Ex.iret rfl (Or.inl rfl) H
def b_X7_compared_5 (d : Nat) (r_0 : Nat) (u1 : Option Value) (u2 : Option Int32) (l3 : Int32) (l4 : Int32) (u5 : Option Value) (u6 : Option Value) (u7 : Option Value) (h : XH) (K : XK) (E : XE) : Prop := Ex d [] tb_X7_compared (5, [some (.ref r_0), u1, (xoi u2), some (.int l3), some (.int l4), u5, u6, u7], []) h (Po K E)
def b_X7_compared_14 (d : Nat) (r_0 : Nat) (u1 : Option Value) (u2 : Option Int32) (l3 : Int32) (l4 : Int32) (l5 : Int32) (u6 : Option Value) (u7 : Option Value) (h : XH) (K : XK) (E : XE) : Prop := Ex d [] tb_X7_compared (14, [some (.ref r_0), u1, (xoi u2), some (.int l3), some (.int l4), some (.int l5), u6, u7], []) h (Po K E)
def b_X7_compared_99 (d : Nat) (r_0 : Nat) (u1 : Option Value) (u2 : Option Int32) (l3 : Int32) (l4 : Int32) (l5 : Int32) (u6 : Option Value) (u7 : Option Value) (h : XH) (K : XK) (E : XE) : Prop := Ex d [] tb_X7_compared (99, [some (.ref r_0), u1, (xoi u2), some (.int l3), some (.int l4), some (.int l5), u6, u7], []) h (Po K E)
def b_X7_compared_122 (d : Nat) (r_0 : Nat) (u1 : Option Value) (u2 : Option Int32) (l3 : Int32) (u4 : Option Value) (l5 : Int32) (u6 : Option Value) (u7 : Option Value) (h : XH) (K : XK) (E : XE) : Prop := Ex d [] tb_X7_compared (122, [some (.ref r_0), u1, (xoi u2), some (.int l3), u4, some (.int l5), u6, u7], []) h (Po K E)
theorem w_X7_compared {d : Nat} {h : XH} {y : Nat → Nat} {K : XK} {E : XE} {a : Int32} {b : Int32} (hd : 20 ≤ d) (hs : Sg h.1 y) (H : b_X7_compared_5 d 77 (some (.int a)) (some b) a b none none none h K E) : Ca (d + 1) m_X7_compared [.ref 77, .int a, .int b] h K E := by
  refine Ca.of ⟨by show 3 ≤ 8; omega, rfl⟩ ?_
  show Ex d [] tb_X7_compared (0, [some (.ref 77), some (.int a), some (.int b), none, none, none, none, none], []) h _
  refine Ex.pure 4 (fr2 := (5, [some (.ref 77), some (.int a), some (.int b), some (.int a), some (.int b), none, none, none], [])) rfl ?_
  exact H
theorem w_X7_compared_5 {d : Nat} {h : XH} {y : Nat → Nat} {K : XK} {E : XE} {u1 : Option Value} {u2 : Option Int32} {l3 : Int32} {l4 : Int32} {u5 : Option Value} {u6 : Option Value} {u7 : Option Value} (hd : 20 ≤ d) (hs : Sg h.1 y) (H : (l3 = l4 → K (some (.int 0)) h) ∧ (¬ (l3 = l4) → b_X7_compared_14 d 77 (u1) u2 l3 l4 0 (u6) (u7) h K E)) : b_X7_compared_5 d 77 u1 u2 l3 l4 u5 u6 u7 h K E := by
  cases u2 with
  | none =>
    show Ex d [] tb_X7_compared (5, [some (.ref 77), u1, (xoi none), some (.int l3), some (.int l4), u5, u6, u7], []) h _
    refine Ex.pure 2 (fr2 := (8, [some (.ref 77), u1, (xoi none), some (.int l3), some (.int l4), u5, u6, u7], [.int l4, .int l3])) rfl ?_
    refine Ex.br (x := (219, [some (.ref 77), u1, (xoi none), some (.int l3), some (.int l4), u5, u6, u7], [])) (y := (11, [some (.ref 77), u1, (xoi none), some (.int l3), some (.int l4), u5, u6, u7], [])) (b := l3 = l4) rfl (fun hb => ?_) (fun hb => ?_)
    · replace H := H.1 (hb)
      refine Ex.pure 1 (fr2 := (220, [some (.ref 77), u1, (xoi none), some (.int l3), some (.int l4), u5, u6, u7], [.int 0])) rfl ?_
      exact Ex.iret rfl (Or.inl rfl) H
    · replace H := H.2 (hb)
      refine Ex.pure 2 (fr2 := (14, [some (.ref 77), u1, (xoi none), some (.int l3), some (.int l4), some (.int 0), u6, u7], [])) rfl ?_
      exact H
  | some v2 =>
    show Ex d [] tb_X7_compared (5, [some (.ref 77), u1, (xoi (some v2)), some (.int l3), some (.int l4), u5, u6, u7], []) h _
    refine Ex.pure 2 (fr2 := (8, [some (.ref 77), u1, (xoi (some v2)), some (.int l3), some (.int l4), u5, u6, u7], [.int l4, .int l3])) rfl ?_
    refine Ex.br (x := (219, [some (.ref 77), u1, (xoi (some v2)), some (.int l3), some (.int l4), u5, u6, u7], [])) (y := (11, [some (.ref 77), u1, (xoi (some v2)), some (.int l3), some (.int l4), u5, u6, u7], [])) (b := l3 = l4) rfl (fun hb => ?_) (fun hb => ?_)
    · replace H := H.1 (hb)
      refine Ex.pure 1 (fr2 := (220, [some (.ref 77), u1, (xoi (some v2)), some (.int l3), some (.int l4), u5, u6, u7], [.int 0])) rfl ?_
      exact Ex.iret rfl (Or.inl rfl) H
    · replace H := H.2 (hb)
      refine Ex.pure 2 (fr2 := (14, [some (.ref 77), u1, (xoi (some v2)), some (.int l3), some (.int l4), some (.int 0), u6, u7], [])) rfl ?_
      exact H
theorem w_X7_compared_14 {d : Nat} {h : XH} {y : Nat → Nat} {K : XK} {E : XE} {u1 : Option Value} {u2 : Option Int32} {l3 : Int32} {l4 : Int32} {l5 : Int32} {u6 : Option Value} {u7 : Option Value} (hd : 20 ≤ d) (hs : Sg h.1 y) (H : (Ix l3 2000 ∧ ((h.2.1 82 (ix l3)) ≤ l5 → b_X7_compared_99 d 77 (u1) u2 l3 l4 l5 (u6) (u7) h K E) ∧ (¬ ((h.2.1 82 (ix l3)) ≤ l5) → (Ix l4 2000 ∧ ((h.2.1 82 (ix l4)) ≤ l5 → b_X7_compared_99 d 77 (u1) u2 l3 l4 l5 (u6) (u7) h K E) ∧ (¬ ((h.2.1 82 (ix l4)) ≤ l5) → (Ix ((8 * l3) + l5) 16000 ∧ (Ix ((8 * l4) + l5) 16000 ∧ (¬ (h.2.1 80 (ix ((8 * l3) + l5))) = (h.2.1 80 (ix ((8 * l4) + l5))) → b_X7_compared_99 d 77 (u1) u2 l3 l4 l5 (u6) (u7) h K E) ∧ (¬ (¬ (h.2.1 80 (ix ((8 * l3) + l5))) = (h.2.1 80 (ix ((8 * l4) + l5)))) → (Ix ((8 * l3) + l5) 16000 ∧ (Ix ((8 * l4) + l5) 16000 ∧ (¬ (h.2.1 81 (ix ((8 * l3) + l5))) = (h.2.1 81 (ix ((8 * l4) + l5))) → b_X7_compared_99 d 77 (u1) u2 l3 l4 l5 (u6) (u7) h K E) ∧ (¬ (¬ (h.2.1 81 (ix ((8 * l3) + l5))) = (h.2.1 81 (ix ((8 * l4) + l5)))) → b_X7_compared_14 d 77 (u1) u2 l3 l4 (l5 + 1) (u6) (u7) h K E))))))))))) : b_X7_compared_14 d 77 u1 u2 l3 l4 l5 u6 u7 h K E := by
  cases u2 with
  | none =>
    show Ex d [] tb_X7_compared (14, [some (.ref 77), u1, (xoi none), some (.int l3), some (.int l4), some (.int l5), u6, u7], []) h _
    refine Ex.pure 2 (fr2 := (17, [some (.ref 77), u1, (xoi none), some (.int l3), some (.int l4), some (.int l5), u6, u7], [.ref 77, .int l5])) rfl ?_
    refine Ex.getQ rfl (sg_77 hs) rfl ?_
    refine Ex.pure 1 (fr2 := (21, [some (.ref 77), u1, (xoi none), some (.int l3), some (.int l4), some (.int l5), u6, u7], [.int l3, .ref 82, .int l5])) rfl ?_
    refine Ex.iald rfl (Or.inl rfl) (sg_82 hs) H.1 ?_
    replace H := H.2
    refine Ex.br (x := (99, [some (.ref 77), u1, (xoi none), some (.int l3), some (.int l4), some (.int l5), u6, u7], [])) (y := (25, [some (.ref 77), u1, (xoi none), some (.int l3), some (.int l4), some (.int l5), u6, u7], [])) (b := (h.2.1 82 (ix l3)) ≤ l5) rfl (fun hb => ?_) (fun hb => ?_)
    · replace H := H.1 (hb)
      exact H
    · replace H := H.2 (hb)
      refine Ex.pure 2 (fr2 := (28, [some (.ref 77), u1, (xoi none), some (.int l3), some (.int l4), some (.int l5), u6, u7], [.ref 77, .int l5])) rfl ?_
      refine Ex.getQ rfl (sg_77 hs) rfl ?_
      refine Ex.pure 1 (fr2 := (33, [some (.ref 77), u1, (xoi none), some (.int l3), some (.int l4), some (.int l5), u6, u7], [.int l4, .ref 82, .int l5])) rfl ?_
      refine Ex.iald rfl (Or.inl rfl) (sg_82 hs) H.1 ?_
      replace H := H.2
      refine Ex.br (x := (99, [some (.ref 77), u1, (xoi none), some (.int l3), some (.int l4), some (.int l5), u6, u7], [])) (y := (37, [some (.ref 77), u1, (xoi none), some (.int l3), some (.int l4), some (.int l5), u6, u7], [])) (b := (h.2.1 82 (ix l4)) ≤ l5) rfl (fun hb => ?_) (fun hb => ?_)
      · replace H := H.1 (hb)
        exact H
      · replace H := H.2 (hb)
        refine Ex.pure 1 (fr2 := (38, [some (.ref 77), u1, (xoi none), some (.int l3), some (.int l4), some (.int l5), u6, u7], [.ref 77])) rfl ?_
        refine Ex.getQ rfl (sg_77 hs) rfl ?_
        refine Ex.pure 5 (fr2 := (48, [some (.ref 77), u1, (xoi none), some (.int l3), some (.int l4), some (.int l5), u6, u7], [.int ((8 * l3) + l5), .ref 80])) rfl ?_
        refine Ex.iald rfl (Or.inl rfl) (sg_80 hs) H.1 ?_
        replace H := H.2
        refine Ex.pure 1 (fr2 := (50, [some (.ref 77), u1, (xoi none), some (.int l3), some (.int l4), some (.int l5), u6, u7], [.ref 77, .int (h.2.1 80 (ix ((8 * l3) + l5)))])) rfl ?_
        refine Ex.getQ rfl (sg_77 hs) rfl ?_
        refine Ex.pure 5 (fr2 := (61, [some (.ref 77), u1, (xoi none), some (.int l3), some (.int l4), some (.int l5), u6, u7], [.int ((8 * l4) + l5), .ref 80, .int (h.2.1 80 (ix ((8 * l3) + l5)))])) rfl ?_
        refine Ex.iald rfl (Or.inl rfl) (sg_80 hs) H.1 ?_
        replace H := H.2
        refine Ex.br (x := (99, [some (.ref 77), u1, (xoi none), some (.int l3), some (.int l4), some (.int l5), u6, u7], [])) (y := (65, [some (.ref 77), u1, (xoi none), some (.int l3), some (.int l4), some (.int l5), u6, u7], [])) (b := ¬ (h.2.1 80 (ix ((8 * l3) + l5))) = (h.2.1 80 (ix ((8 * l4) + l5)))) rfl (fun hb => ?_) (fun hb => ?_)
        · replace H := H.1 (hb)
          exact H
        · replace H := H.2 (hb)
          refine Ex.pure 1 (fr2 := (66, [some (.ref 77), u1, (xoi none), some (.int l3), some (.int l4), some (.int l5), u6, u7], [.ref 77])) rfl ?_
          refine Ex.getQ rfl (sg_77 hs) rfl ?_
          refine Ex.pure 5 (fr2 := (76, [some (.ref 77), u1, (xoi none), some (.int l3), some (.int l4), some (.int l5), u6, u7], [.int ((8 * l3) + l5), .ref 81])) rfl ?_
          refine Ex.iald rfl (Or.inl rfl) (sg_81 hs) H.1 ?_
          replace H := H.2
          refine Ex.pure 1 (fr2 := (78, [some (.ref 77), u1, (xoi none), some (.int l3), some (.int l4), some (.int l5), u6, u7], [.ref 77, .int (h.2.1 81 (ix ((8 * l3) + l5)))])) rfl ?_
          refine Ex.getQ rfl (sg_77 hs) rfl ?_
          refine Ex.pure 5 (fr2 := (89, [some (.ref 77), u1, (xoi none), some (.int l3), some (.int l4), some (.int l5), u6, u7], [.int ((8 * l4) + l5), .ref 81, .int (h.2.1 81 (ix ((8 * l3) + l5)))])) rfl ?_
          refine Ex.iald rfl (Or.inl rfl) (sg_81 hs) H.1 ?_
          replace H := H.2
          refine Ex.br (x := (99, [some (.ref 77), u1, (xoi none), some (.int l3), some (.int l4), some (.int l5), u6, u7], [])) (y := (93, [some (.ref 77), u1, (xoi none), some (.int l3), some (.int l4), some (.int l5), u6, u7], [])) (b := ¬ (h.2.1 81 (ix ((8 * l3) + l5))) = (h.2.1 81 (ix ((8 * l4) + l5)))) rfl (fun hb => ?_) (fun hb => ?_)
          · replace H := H.1 (hb)
            exact H
          · replace H := H.2 (hb)
            refine Ex.pure 2 (fr2 := (14, [some (.ref 77), u1, (xoi none), some (.int l3), some (.int l4), some (.int (l5 + 1)), u6, u7], [])) rfl ?_
            exact H
  | some v2 =>
    show Ex d [] tb_X7_compared (14, [some (.ref 77), u1, (xoi (some v2)), some (.int l3), some (.int l4), some (.int l5), u6, u7], []) h _
    refine Ex.pure 2 (fr2 := (17, [some (.ref 77), u1, (xoi (some v2)), some (.int l3), some (.int l4), some (.int l5), u6, u7], [.ref 77, .int l5])) rfl ?_
    refine Ex.getQ rfl (sg_77 hs) rfl ?_
    refine Ex.pure 1 (fr2 := (21, [some (.ref 77), u1, (xoi (some v2)), some (.int l3), some (.int l4), some (.int l5), u6, u7], [.int l3, .ref 82, .int l5])) rfl ?_
    refine Ex.iald rfl (Or.inl rfl) (sg_82 hs) H.1 ?_
    replace H := H.2
    refine Ex.br (x := (99, [some (.ref 77), u1, (xoi (some v2)), some (.int l3), some (.int l4), some (.int l5), u6, u7], [])) (y := (25, [some (.ref 77), u1, (xoi (some v2)), some (.int l3), some (.int l4), some (.int l5), u6, u7], [])) (b := (h.2.1 82 (ix l3)) ≤ l5) rfl (fun hb => ?_) (fun hb => ?_)
    · replace H := H.1 (hb)
      exact H
    · replace H := H.2 (hb)
      refine Ex.pure 2 (fr2 := (28, [some (.ref 77), u1, (xoi (some v2)), some (.int l3), some (.int l4), some (.int l5), u6, u7], [.ref 77, .int l5])) rfl ?_
      refine Ex.getQ rfl (sg_77 hs) rfl ?_
      refine Ex.pure 1 (fr2 := (33, [some (.ref 77), u1, (xoi (some v2)), some (.int l3), some (.int l4), some (.int l5), u6, u7], [.int l4, .ref 82, .int l5])) rfl ?_
      refine Ex.iald rfl (Or.inl rfl) (sg_82 hs) H.1 ?_
      replace H := H.2
      refine Ex.br (x := (99, [some (.ref 77), u1, (xoi (some v2)), some (.int l3), some (.int l4), some (.int l5), u6, u7], [])) (y := (37, [some (.ref 77), u1, (xoi (some v2)), some (.int l3), some (.int l4), some (.int l5), u6, u7], [])) (b := (h.2.1 82 (ix l4)) ≤ l5) rfl (fun hb => ?_) (fun hb => ?_)
      · replace H := H.1 (hb)
        exact H
      · replace H := H.2 (hb)
        refine Ex.pure 1 (fr2 := (38, [some (.ref 77), u1, (xoi (some v2)), some (.int l3), some (.int l4), some (.int l5), u6, u7], [.ref 77])) rfl ?_
        refine Ex.getQ rfl (sg_77 hs) rfl ?_
        refine Ex.pure 5 (fr2 := (48, [some (.ref 77), u1, (xoi (some v2)), some (.int l3), some (.int l4), some (.int l5), u6, u7], [.int ((8 * l3) + l5), .ref 80])) rfl ?_
        refine Ex.iald rfl (Or.inl rfl) (sg_80 hs) H.1 ?_
        replace H := H.2
        refine Ex.pure 1 (fr2 := (50, [some (.ref 77), u1, (xoi (some v2)), some (.int l3), some (.int l4), some (.int l5), u6, u7], [.ref 77, .int (h.2.1 80 (ix ((8 * l3) + l5)))])) rfl ?_
        refine Ex.getQ rfl (sg_77 hs) rfl ?_
        refine Ex.pure 5 (fr2 := (61, [some (.ref 77), u1, (xoi (some v2)), some (.int l3), some (.int l4), some (.int l5), u6, u7], [.int ((8 * l4) + l5), .ref 80, .int (h.2.1 80 (ix ((8 * l3) + l5)))])) rfl ?_
        refine Ex.iald rfl (Or.inl rfl) (sg_80 hs) H.1 ?_
        replace H := H.2
        refine Ex.br (x := (99, [some (.ref 77), u1, (xoi (some v2)), some (.int l3), some (.int l4), some (.int l5), u6, u7], [])) (y := (65, [some (.ref 77), u1, (xoi (some v2)), some (.int l3), some (.int l4), some (.int l5), u6, u7], [])) (b := ¬ (h.2.1 80 (ix ((8 * l3) + l5))) = (h.2.1 80 (ix ((8 * l4) + l5)))) rfl (fun hb => ?_) (fun hb => ?_)
        · replace H := H.1 (hb)
          exact H
        · replace H := H.2 (hb)
          refine Ex.pure 1 (fr2 := (66, [some (.ref 77), u1, (xoi (some v2)), some (.int l3), some (.int l4), some (.int l5), u6, u7], [.ref 77])) rfl ?_
          refine Ex.getQ rfl (sg_77 hs) rfl ?_
          refine Ex.pure 5 (fr2 := (76, [some (.ref 77), u1, (xoi (some v2)), some (.int l3), some (.int l4), some (.int l5), u6, u7], [.int ((8 * l3) + l5), .ref 81])) rfl ?_
          refine Ex.iald rfl (Or.inl rfl) (sg_81 hs) H.1 ?_
          replace H := H.2
          refine Ex.pure 1 (fr2 := (78, [some (.ref 77), u1, (xoi (some v2)), some (.int l3), some (.int l4), some (.int l5), u6, u7], [.ref 77, .int (h.2.1 81 (ix ((8 * l3) + l5)))])) rfl ?_
          refine Ex.getQ rfl (sg_77 hs) rfl ?_
          refine Ex.pure 5 (fr2 := (89, [some (.ref 77), u1, (xoi (some v2)), some (.int l3), some (.int l4), some (.int l5), u6, u7], [.int ((8 * l4) + l5), .ref 81, .int (h.2.1 81 (ix ((8 * l3) + l5)))])) rfl ?_
          refine Ex.iald rfl (Or.inl rfl) (sg_81 hs) H.1 ?_
          replace H := H.2
          refine Ex.br (x := (99, [some (.ref 77), u1, (xoi (some v2)), some (.int l3), some (.int l4), some (.int l5), u6, u7], [])) (y := (93, [some (.ref 77), u1, (xoi (some v2)), some (.int l3), some (.int l4), some (.int l5), u6, u7], [])) (b := ¬ (h.2.1 81 (ix ((8 * l3) + l5))) = (h.2.1 81 (ix ((8 * l4) + l5)))) rfl (fun hb => ?_) (fun hb => ?_)
          · replace H := H.1 (hb)
            exact H
          · replace H := H.2 (hb)
            refine Ex.pure 2 (fr2 := (14, [some (.ref 77), u1, (xoi (some v2)), some (.int l3), some (.int l4), some (.int (l5 + 1)), u6, u7], [])) rfl ?_
            exact H
theorem w_X7_compared_99 {d : Nat} {h : XH} {y : Nat → Nat} {K : XK} {E : XE} {u1 : Option Value} {u2 : Option Int32} {l3 : Int32} {l4 : Int32} {l5 : Int32} {u6 : Option Value} {u7 : Option Value} (hd : 20 ≤ d) (hs : Sg h.1 y) (H : (Ix l3 2000 ∧ (l5 = (h.2.1 82 (ix l3)) → b_X7_compared_122 d 77 (u1) u2 l3 (some (.int l4)) l5 (u6) (u7) h K E) ∧ (¬ (l5 = (h.2.1 82 (ix l3))) → (Ix l4 2000 ∧ (¬ l5 = (h.2.1 82 (ix l4)) → (Ix ((8 * l3) + l5) 16000 ∧ (Ix ((8 * l4) + l5) 16000 ∧ (¬ (h.2.1 80 (ix ((8 * l3) + l5))) = (h.2.1 80 (ix ((8 * l4) + l5))) → b_X7_compared_5 d 77 (u1) u2 (h.2.1 80 (ix ((8 * l3) + l5))) (h.2.1 80 (ix ((8 * l4) + l5))) (some (.int l5)) (some (.int (h.2.1 80 (ix ((8 * l3) + l5))))) (some (.int (h.2.1 80 (ix ((8 * l4) + l5))))) h K E) ∧ (¬ (¬ (h.2.1 80 (ix ((8 * l3) + l5))) = (h.2.1 80 (ix ((8 * l4) + l5)))) → (Ix ((8 * l3) + l5) 16000 ∧ (Ix ((8 * l4) + l5) 16000 ∧ ((h.2.1 81 (ix ((8 * l3) + l5))) ≤ (h.2.1 81 (ix ((8 * l4) + l5))) → K (some (.int (-1))) h) ∧ (¬ ((h.2.1 81 (ix ((8 * l3) + l5))) ≤ (h.2.1 81 (ix ((8 * l4) + l5)))) → K (some (.int 1)) h))))))) ∧ (¬ (¬ l5 = (h.2.1 82 (ix l4))) → b_X7_compared_122 d 77 (u1) u2 l3 (some (.int l4)) l5 (u6) (u7) h K E))))) : b_X7_compared_99 d 77 u1 u2 l3 l4 l5 u6 u7 h K E := by
  cases u2 with
  | none =>
    show Ex d [] tb_X7_compared (99, [some (.ref 77), u1, (xoi none), some (.int l3), some (.int l4), some (.int l5), u6, u7], []) h _
    refine Ex.pure 2 (fr2 := (102, [some (.ref 77), u1, (xoi none), some (.int l3), some (.int l4), some (.int l5), u6, u7], [.ref 77, .int l5])) rfl ?_
    refine Ex.getQ rfl (sg_77 hs) rfl ?_
    refine Ex.pure 1 (fr2 := (106, [some (.ref 77), u1, (xoi none), some (.int l3), some (.int l4), some (.int l5), u6, u7], [.int l3, .ref 82, .int l5])) rfl ?_
    refine Ex.iald rfl (Or.inl rfl) (sg_82 hs) H.1 ?_
    replace H := H.2
    refine Ex.br (x := (122, [some (.ref 77), u1, (xoi none), some (.int l3), some (.int l4), some (.int l5), u6, u7], [])) (y := (110, [some (.ref 77), u1, (xoi none), some (.int l3), some (.int l4), some (.int l5), u6, u7], [])) (b := l5 = (h.2.1 82 (ix l3))) rfl (fun hb => ?_) (fun hb => ?_)
    · replace H := H.1 (hb)
      exact H
    · replace H := H.2 (hb)
      refine Ex.pure 2 (fr2 := (113, [some (.ref 77), u1, (xoi none), some (.int l3), some (.int l4), some (.int l5), u6, u7], [.ref 77, .int l5])) rfl ?_
      refine Ex.getQ rfl (sg_77 hs) rfl ?_
      refine Ex.pure 1 (fr2 := (118, [some (.ref 77), u1, (xoi none), some (.int l3), some (.int l4), some (.int l5), u6, u7], [.int l4, .ref 82, .int l5])) rfl ?_
      refine Ex.iald rfl (Or.inl rfl) (sg_82 hs) H.1 ?_
      replace H := H.2
      refine Ex.br (x := (139, [some (.ref 77), u1, (xoi none), some (.int l3), some (.int l4), some (.int l5), u6, u7], [])) (y := (122, [some (.ref 77), u1, (xoi none), some (.int l3), some (.int l4), some (.int l5), u6, u7], [])) (b := ¬ l5 = (h.2.1 82 (ix l4))) rfl (fun hb => ?_) (fun hb => ?_)
      · replace H := H.1 (hb)
        refine Ex.pure 1 (fr2 := (140, [some (.ref 77), u1, (xoi none), some (.int l3), some (.int l4), some (.int l5), u6, u7], [.ref 77])) rfl ?_
        refine Ex.getQ rfl (sg_77 hs) rfl ?_
        refine Ex.pure 5 (fr2 := (150, [some (.ref 77), u1, (xoi none), some (.int l3), some (.int l4), some (.int l5), u6, u7], [.int ((8 * l3) + l5), .ref 80])) rfl ?_
        refine Ex.iald rfl (Or.inl rfl) (sg_80 hs) H.1 ?_
        replace H := H.2
        refine Ex.pure 2 (fr2 := (154, [some (.ref 77), u1, (xoi none), some (.int l3), some (.int l4), some (.int l5), some (.int (h.2.1 80 (ix ((8 * l3) + l5)))), u7], [.ref 77])) rfl ?_
        refine Ex.getQ rfl (sg_77 hs) rfl ?_
        refine Ex.pure 5 (fr2 := (165, [some (.ref 77), u1, (xoi none), some (.int l3), some (.int l4), some (.int l5), some (.int (h.2.1 80 (ix ((8 * l3) + l5)))), u7], [.int ((8 * l4) + l5), .ref 80])) rfl ?_
        refine Ex.iald rfl (Or.inl rfl) (sg_80 hs) H.1 ?_
        replace H := H.2
        refine Ex.pure 3 (fr2 := (172, [some (.ref 77), u1, (xoi none), some (.int l3), some (.int l4), some (.int l5), some (.int (h.2.1 80 (ix ((8 * l3) + l5)))), some (.int (h.2.1 80 (ix ((8 * l4) + l5))))], [.int (h.2.1 80 (ix ((8 * l4) + l5))), .int (h.2.1 80 (ix ((8 * l3) + l5)))])) rfl ?_
        refine Ex.br (x := (209, [some (.ref 77), u1, (xoi none), some (.int l3), some (.int l4), some (.int l5), some (.int (h.2.1 80 (ix ((8 * l3) + l5)))), some (.int (h.2.1 80 (ix ((8 * l4) + l5))))], [])) (y := (175, [some (.ref 77), u1, (xoi none), some (.int l3), some (.int l4), some (.int l5), some (.int (h.2.1 80 (ix ((8 * l3) + l5)))), some (.int (h.2.1 80 (ix ((8 * l4) + l5))))], [])) (b := ¬ (h.2.1 80 (ix ((8 * l3) + l5))) = (h.2.1 80 (ix ((8 * l4) + l5)))) rfl (fun hb => ?_) (fun hb => ?_)
        · replace H := H.1 (hb)
          refine Ex.pure 5 (fr2 := (5, [some (.ref 77), u1, (xoi none), some (.int (h.2.1 80 (ix ((8 * l3) + l5)))), some (.int (h.2.1 80 (ix ((8 * l4) + l5)))), some (.int l5), some (.int (h.2.1 80 (ix ((8 * l3) + l5)))), some (.int (h.2.1 80 (ix ((8 * l4) + l5))))], [])) rfl ?_
          exact H
        · replace H := H.2 (hb)
          refine Ex.pure 1 (fr2 := (176, [some (.ref 77), u1, (xoi none), some (.int l3), some (.int l4), some (.int l5), some (.int (h.2.1 80 (ix ((8 * l3) + l5)))), some (.int (h.2.1 80 (ix ((8 * l4) + l5))))], [.ref 77])) rfl ?_
          refine Ex.getQ rfl (sg_77 hs) rfl ?_
          refine Ex.pure 5 (fr2 := (186, [some (.ref 77), u1, (xoi none), some (.int l3), some (.int l4), some (.int l5), some (.int (h.2.1 80 (ix ((8 * l3) + l5)))), some (.int (h.2.1 80 (ix ((8 * l4) + l5))))], [.int ((8 * l3) + l5), .ref 81])) rfl ?_
          refine Ex.iald rfl (Or.inl rfl) (sg_81 hs) H.1 ?_
          replace H := H.2
          refine Ex.pure 1 (fr2 := (188, [some (.ref 77), u1, (xoi none), some (.int l3), some (.int l4), some (.int l5), some (.int (h.2.1 80 (ix ((8 * l3) + l5)))), some (.int (h.2.1 80 (ix ((8 * l4) + l5))))], [.ref 77, .int (h.2.1 81 (ix ((8 * l3) + l5)))])) rfl ?_
          refine Ex.getQ rfl (sg_77 hs) rfl ?_
          refine Ex.pure 5 (fr2 := (199, [some (.ref 77), u1, (xoi none), some (.int l3), some (.int l4), some (.int l5), some (.int (h.2.1 80 (ix ((8 * l3) + l5)))), some (.int (h.2.1 80 (ix ((8 * l4) + l5))))], [.int ((8 * l4) + l5), .ref 81, .int (h.2.1 81 (ix ((8 * l3) + l5)))])) rfl ?_
          refine Ex.iald rfl (Or.inl rfl) (sg_81 hs) H.1 ?_
          replace H := H.2
          refine Ex.br (x := (207, [some (.ref 77), u1, (xoi none), some (.int l3), some (.int l4), some (.int l5), some (.int (h.2.1 80 (ix ((8 * l3) + l5)))), some (.int (h.2.1 80 (ix ((8 * l4) + l5))))], [])) (y := (203, [some (.ref 77), u1, (xoi none), some (.int l3), some (.int l4), some (.int l5), some (.int (h.2.1 80 (ix ((8 * l3) + l5)))), some (.int (h.2.1 80 (ix ((8 * l4) + l5))))], [])) (b := (h.2.1 81 (ix ((8 * l3) + l5))) ≤ (h.2.1 81 (ix ((8 * l4) + l5)))) rfl (fun hb => ?_) (fun hb => ?_)
          · replace H := H.1 (hb)
            refine Ex.pure 1 (fr2 := (208, [some (.ref 77), u1, (xoi none), some (.int l3), some (.int l4), some (.int l5), some (.int (h.2.1 80 (ix ((8 * l3) + l5)))), some (.int (h.2.1 80 (ix ((8 * l4) + l5))))], [.int (-1)])) rfl ?_
            exact Ex.iret rfl (Or.inl rfl) H
          · replace H := H.2 (hb)
            refine Ex.pure 2 (fr2 := (208, [some (.ref 77), u1, (xoi none), some (.int l3), some (.int l4), some (.int l5), some (.int (h.2.1 80 (ix ((8 * l3) + l5)))), some (.int (h.2.1 80 (ix ((8 * l4) + l5))))], [.int 1])) rfl ?_
            exact Ex.iret rfl (Or.inl rfl) H
      · replace H := H.2 (hb)
        exact H
  | some v2 =>
    show Ex d [] tb_X7_compared (99, [some (.ref 77), u1, (xoi (some v2)), some (.int l3), some (.int l4), some (.int l5), u6, u7], []) h _
    refine Ex.pure 2 (fr2 := (102, [some (.ref 77), u1, (xoi (some v2)), some (.int l3), some (.int l4), some (.int l5), u6, u7], [.ref 77, .int l5])) rfl ?_
    refine Ex.getQ rfl (sg_77 hs) rfl ?_
    refine Ex.pure 1 (fr2 := (106, [some (.ref 77), u1, (xoi (some v2)), some (.int l3), some (.int l4), some (.int l5), u6, u7], [.int l3, .ref 82, .int l5])) rfl ?_
    refine Ex.iald rfl (Or.inl rfl) (sg_82 hs) H.1 ?_
    replace H := H.2
    refine Ex.br (x := (122, [some (.ref 77), u1, (xoi (some v2)), some (.int l3), some (.int l4), some (.int l5), u6, u7], [])) (y := (110, [some (.ref 77), u1, (xoi (some v2)), some (.int l3), some (.int l4), some (.int l5), u6, u7], [])) (b := l5 = (h.2.1 82 (ix l3))) rfl (fun hb => ?_) (fun hb => ?_)
    · replace H := H.1 (hb)
      exact H
    · replace H := H.2 (hb)
      refine Ex.pure 2 (fr2 := (113, [some (.ref 77), u1, (xoi (some v2)), some (.int l3), some (.int l4), some (.int l5), u6, u7], [.ref 77, .int l5])) rfl ?_
      refine Ex.getQ rfl (sg_77 hs) rfl ?_
      refine Ex.pure 1 (fr2 := (118, [some (.ref 77), u1, (xoi (some v2)), some (.int l3), some (.int l4), some (.int l5), u6, u7], [.int l4, .ref 82, .int l5])) rfl ?_
      refine Ex.iald rfl (Or.inl rfl) (sg_82 hs) H.1 ?_
      replace H := H.2
      refine Ex.br (x := (139, [some (.ref 77), u1, (xoi (some v2)), some (.int l3), some (.int l4), some (.int l5), u6, u7], [])) (y := (122, [some (.ref 77), u1, (xoi (some v2)), some (.int l3), some (.int l4), some (.int l5), u6, u7], [])) (b := ¬ l5 = (h.2.1 82 (ix l4))) rfl (fun hb => ?_) (fun hb => ?_)
      · replace H := H.1 (hb)
        refine Ex.pure 1 (fr2 := (140, [some (.ref 77), u1, (xoi (some v2)), some (.int l3), some (.int l4), some (.int l5), u6, u7], [.ref 77])) rfl ?_
        refine Ex.getQ rfl (sg_77 hs) rfl ?_
        refine Ex.pure 5 (fr2 := (150, [some (.ref 77), u1, (xoi (some v2)), some (.int l3), some (.int l4), some (.int l5), u6, u7], [.int ((8 * l3) + l5), .ref 80])) rfl ?_
        refine Ex.iald rfl (Or.inl rfl) (sg_80 hs) H.1 ?_
        replace H := H.2
        refine Ex.pure 2 (fr2 := (154, [some (.ref 77), u1, (xoi (some v2)), some (.int l3), some (.int l4), some (.int l5), some (.int (h.2.1 80 (ix ((8 * l3) + l5)))), u7], [.ref 77])) rfl ?_
        refine Ex.getQ rfl (sg_77 hs) rfl ?_
        refine Ex.pure 5 (fr2 := (165, [some (.ref 77), u1, (xoi (some v2)), some (.int l3), some (.int l4), some (.int l5), some (.int (h.2.1 80 (ix ((8 * l3) + l5)))), u7], [.int ((8 * l4) + l5), .ref 80])) rfl ?_
        refine Ex.iald rfl (Or.inl rfl) (sg_80 hs) H.1 ?_
        replace H := H.2
        refine Ex.pure 3 (fr2 := (172, [some (.ref 77), u1, (xoi (some v2)), some (.int l3), some (.int l4), some (.int l5), some (.int (h.2.1 80 (ix ((8 * l3) + l5)))), some (.int (h.2.1 80 (ix ((8 * l4) + l5))))], [.int (h.2.1 80 (ix ((8 * l4) + l5))), .int (h.2.1 80 (ix ((8 * l3) + l5)))])) rfl ?_
        refine Ex.br (x := (209, [some (.ref 77), u1, (xoi (some v2)), some (.int l3), some (.int l4), some (.int l5), some (.int (h.2.1 80 (ix ((8 * l3) + l5)))), some (.int (h.2.1 80 (ix ((8 * l4) + l5))))], [])) (y := (175, [some (.ref 77), u1, (xoi (some v2)), some (.int l3), some (.int l4), some (.int l5), some (.int (h.2.1 80 (ix ((8 * l3) + l5)))), some (.int (h.2.1 80 (ix ((8 * l4) + l5))))], [])) (b := ¬ (h.2.1 80 (ix ((8 * l3) + l5))) = (h.2.1 80 (ix ((8 * l4) + l5)))) rfl (fun hb => ?_) (fun hb => ?_)
        · replace H := H.1 (hb)
          refine Ex.pure 5 (fr2 := (5, [some (.ref 77), u1, (xoi (some v2)), some (.int (h.2.1 80 (ix ((8 * l3) + l5)))), some (.int (h.2.1 80 (ix ((8 * l4) + l5)))), some (.int l5), some (.int (h.2.1 80 (ix ((8 * l3) + l5)))), some (.int (h.2.1 80 (ix ((8 * l4) + l5))))], [])) rfl ?_
          exact H
        · replace H := H.2 (hb)
          refine Ex.pure 1 (fr2 := (176, [some (.ref 77), u1, (xoi (some v2)), some (.int l3), some (.int l4), some (.int l5), some (.int (h.2.1 80 (ix ((8 * l3) + l5)))), some (.int (h.2.1 80 (ix ((8 * l4) + l5))))], [.ref 77])) rfl ?_
          refine Ex.getQ rfl (sg_77 hs) rfl ?_
          refine Ex.pure 5 (fr2 := (186, [some (.ref 77), u1, (xoi (some v2)), some (.int l3), some (.int l4), some (.int l5), some (.int (h.2.1 80 (ix ((8 * l3) + l5)))), some (.int (h.2.1 80 (ix ((8 * l4) + l5))))], [.int ((8 * l3) + l5), .ref 81])) rfl ?_
          refine Ex.iald rfl (Or.inl rfl) (sg_81 hs) H.1 ?_
          replace H := H.2
          refine Ex.pure 1 (fr2 := (188, [some (.ref 77), u1, (xoi (some v2)), some (.int l3), some (.int l4), some (.int l5), some (.int (h.2.1 80 (ix ((8 * l3) + l5)))), some (.int (h.2.1 80 (ix ((8 * l4) + l5))))], [.ref 77, .int (h.2.1 81 (ix ((8 * l3) + l5)))])) rfl ?_
          refine Ex.getQ rfl (sg_77 hs) rfl ?_
          refine Ex.pure 5 (fr2 := (199, [some (.ref 77), u1, (xoi (some v2)), some (.int l3), some (.int l4), some (.int l5), some (.int (h.2.1 80 (ix ((8 * l3) + l5)))), some (.int (h.2.1 80 (ix ((8 * l4) + l5))))], [.int ((8 * l4) + l5), .ref 81, .int (h.2.1 81 (ix ((8 * l3) + l5)))])) rfl ?_
          refine Ex.iald rfl (Or.inl rfl) (sg_81 hs) H.1 ?_
          replace H := H.2
          refine Ex.br (x := (207, [some (.ref 77), u1, (xoi (some v2)), some (.int l3), some (.int l4), some (.int l5), some (.int (h.2.1 80 (ix ((8 * l3) + l5)))), some (.int (h.2.1 80 (ix ((8 * l4) + l5))))], [])) (y := (203, [some (.ref 77), u1, (xoi (some v2)), some (.int l3), some (.int l4), some (.int l5), some (.int (h.2.1 80 (ix ((8 * l3) + l5)))), some (.int (h.2.1 80 (ix ((8 * l4) + l5))))], [])) (b := (h.2.1 81 (ix ((8 * l3) + l5))) ≤ (h.2.1 81 (ix ((8 * l4) + l5)))) rfl (fun hb => ?_) (fun hb => ?_)
          · replace H := H.1 (hb)
            refine Ex.pure 1 (fr2 := (208, [some (.ref 77), u1, (xoi (some v2)), some (.int l3), some (.int l4), some (.int l5), some (.int (h.2.1 80 (ix ((8 * l3) + l5)))), some (.int (h.2.1 80 (ix ((8 * l4) + l5))))], [.int (-1)])) rfl ?_
            exact Ex.iret rfl (Or.inl rfl) H
          · replace H := H.2 (hb)
            refine Ex.pure 2 (fr2 := (208, [some (.ref 77), u1, (xoi (some v2)), some (.int l3), some (.int l4), some (.int l5), some (.int (h.2.1 80 (ix ((8 * l3) + l5)))), some (.int (h.2.1 80 (ix ((8 * l4) + l5))))], [.int 1])) rfl ?_
            exact Ex.iret rfl (Or.inl rfl) H
      · replace H := H.2 (hb)
        exact H
theorem w_X7_compared_122 {d : Nat} {h : XH} {y : Nat → Nat} {K : XK} {E : XE} {u1 : Option Value} {u2 : Option Int32} {l3 : Int32} {u4 : Option Value} {l5 : Int32} {u6 : Option Value} {u7 : Option Value} (hd : 20 ≤ d) (hs : Sg h.1 y) (H : (Ix l3 2000 ∧ (¬ l5 = (h.2.1 82 (ix l3)) → K (some (.int 1)) h) ∧ (¬ (¬ l5 = (h.2.1 82 (ix l3))) → K (some (.int (-1))) h))) : b_X7_compared_122 d 77 u1 u2 l3 u4 l5 u6 u7 h K E := by
  cases u2 with
  | none =>
    show Ex d [] tb_X7_compared (122, [some (.ref 77), u1, (xoi none), some (.int l3), u4, some (.int l5), u6, u7], []) h _
    refine Ex.pure 2 (fr2 := (125, [some (.ref 77), u1, (xoi none), some (.int l3), u4, some (.int l5), u6, u7], [.ref 77, .int l5])) rfl ?_
    refine Ex.getQ rfl (sg_77 hs) rfl ?_
    refine Ex.pure 1 (fr2 := (129, [some (.ref 77), u1, (xoi none), some (.int l3), u4, some (.int l5), u6, u7], [.int l3, .ref 82, .int l5])) rfl ?_
    refine Ex.iald rfl (Or.inl rfl) (sg_82 hs) H.1 ?_
    replace H := H.2
    refine Ex.br (x := (137, [some (.ref 77), u1, (xoi none), some (.int l3), u4, some (.int l5), u6, u7], [])) (y := (133, [some (.ref 77), u1, (xoi none), some (.int l3), u4, some (.int l5), u6, u7], [])) (b := ¬ l5 = (h.2.1 82 (ix l3))) rfl (fun hb => ?_) (fun hb => ?_)
    · replace H := H.1 (hb)
      refine Ex.pure 1 (fr2 := (138, [some (.ref 77), u1, (xoi none), some (.int l3), u4, some (.int l5), u6, u7], [.int 1])) rfl ?_
      exact Ex.iret rfl (Or.inl rfl) H
    · replace H := H.2 (hb)
      refine Ex.pure 2 (fr2 := (138, [some (.ref 77), u1, (xoi none), some (.int l3), u4, some (.int l5), u6, u7], [.int (-1)])) rfl ?_
      exact Ex.iret rfl (Or.inl rfl) H
  | some v2 =>
    show Ex d [] tb_X7_compared (122, [some (.ref 77), u1, (xoi (some v2)), some (.int l3), u4, some (.int l5), u6, u7], []) h _
    refine Ex.pure 2 (fr2 := (125, [some (.ref 77), u1, (xoi (some v2)), some (.int l3), u4, some (.int l5), u6, u7], [.ref 77, .int l5])) rfl ?_
    refine Ex.getQ rfl (sg_77 hs) rfl ?_
    refine Ex.pure 1 (fr2 := (129, [some (.ref 77), u1, (xoi (some v2)), some (.int l3), u4, some (.int l5), u6, u7], [.int l3, .ref 82, .int l5])) rfl ?_
    refine Ex.iald rfl (Or.inl rfl) (sg_82 hs) H.1 ?_
    replace H := H.2
    refine Ex.br (x := (137, [some (.ref 77), u1, (xoi (some v2)), some (.int l3), u4, some (.int l5), u6, u7], [])) (y := (133, [some (.ref 77), u1, (xoi (some v2)), some (.int l3), u4, some (.int l5), u6, u7], [])) (b := ¬ l5 = (h.2.1 82 (ix l3))) rfl (fun hb => ?_) (fun hb => ?_)
    · replace H := H.1 (hb)
      refine Ex.pure 1 (fr2 := (138, [some (.ref 77), u1, (xoi (some v2)), some (.int l3), u4, some (.int l5), u6, u7], [.int 1])) rfl ?_
      exact Ex.iret rfl (Or.inl rfl) H
    · replace H := H.2 (hb)
      refine Ex.pure 2 (fr2 := (138, [some (.ref 77), u1, (xoi (some v2)), some (.int l3), u4, some (.int l5), u6, u7], [.int (-1)])) rfl ?_
      exact Ex.iret rfl (Or.inl rfl) H
theorem w_X7_adds {d : Nat} {h : XH} {y : Nat → Nat} {K : XK} {E : XE} {a : Int32} {b : Int64} (hd : 20 ≤ d) (hs : Sg h.1 y) (H : (Ix (h.2.1 77 11) 80 ∧ (∀ h1 : XH, h1 = (x_setI h 85 (ix (h.2.1 77 11)) a) → (Ix (h1.2.1 77 11) 80 ∧ (∀ h2 : XH, h2 = (x_setJ h1 86 (ix (h1.2.1 77 11)) b) → (∀ h3 : XH, h3 = (x_setI h2 77 11 ((h2.2.1 77 11) + 1)) → K none h3)))))) : Ca (d + 1) m_X7_adds [.ref 77, .int a, .long b] h K E := by
  refine Ca.of ⟨by show 4 ≤ 4; omega, rfl⟩ ?_
  show Ex d [] tb_X7_adds (0, [some (.ref 77), some (.int a), some (.long b), none], []) h _
  refine Ex.pure 1 (fr2 := (1, [some (.ref 77), some (.int a), some (.long b), none], [.ref 77])) rfl ?_
  refine Ex.getQ rfl (sg_77 hs) rfl ?_
  refine Ex.pure 1 (fr2 := (5, [some (.ref 77), some (.int a), some (.long b), none], [.ref 77, .ref 85])) rfl ?_
  refine Ex.getI rfl (Or.inl rfl) (sg_77 hs) ?_
  refine Ex.pure 1 (fr2 := (9, [some (.ref 77), some (.int a), some (.long b), none], [.int a, .int (h.2.1 77 11), .ref 85])) rfl ?_
  refine Ex.iast rfl (sg_85 hs) H.1 ?_
  replace H := H.2
  obtain ⟨h1, e1⟩ : ∃ z : XH, z = (x_setI h 85 (ix (h.2.1 77 11)) a) := ⟨_, rfl⟩
  rw [← e1]
  replace H := H h1 e1
  replace hs : Sg h1.1 y := by rw [e1]; exact hs
  refine Ex.pure 1 (fr2 := (11, [some (.ref 77), some (.int a), some (.long b), none], [.ref 77])) rfl ?_
  refine Ex.getQ rfl (sg_77 hs) rfl ?_
  refine Ex.pure 1 (fr2 := (15, [some (.ref 77), some (.int a), some (.long b), none], [.ref 77, .ref 86])) rfl ?_
  refine Ex.getI rfl (Or.inl rfl) (sg_77 hs) ?_
  refine Ex.pure 1 (fr2 := (19, [some (.ref 77), some (.int a), some (.long b), none], [.long b, .int (h1.2.1 77 11), .ref 86])) rfl ?_
  refine Ex.last rfl (sg_86 hs) H.1 ?_
  replace H := H.2
  obtain ⟨h2, e2⟩ : ∃ z : XH, z = (x_setJ h1 86 (ix (h1.2.1 77 11)) b) := ⟨_, rfl⟩
  rw [← e2]
  replace H := H h2 e2
  replace hs : Sg h2.1 y := by rw [e2]; exact hs
  refine Ex.pure 2 (fr2 := (22, [some (.ref 77), some (.int a), some (.long b), none], [.ref 77, .ref 77])) rfl ?_
  refine Ex.getI rfl (Or.inl rfl) (sg_77 hs) ?_
  refine Ex.pure 2 (fr2 := (27, [some (.ref 77), some (.int a), some (.long b), none], [.int ((h2.2.1 77 11) + 1), .ref 77])) rfl ?_
  refine Ex.putI rfl (sg_77 hs) ?_
  obtain ⟨h3, e3⟩ : ∃ z : XH, z = (x_setI h2 77 11 ((h2.2.1 77 11) + 1)) := ⟨_, rfl⟩
  rw [← e3]
  replace H := H h3 e3
  replace hs : Sg h3.1 y := by rw [e3]; exact hs
  exact Ex.vret rfl H
def b_X7_isMade_18 (d : Nat) (r_0 : Nat) (l1 : Int32) (u2 : Option Value) (u3 : Option Value) (s0 : Int32) (h : XH) (K : XK) (E : XE) : Prop := Ex d [] tb_X7_isMade (18, [some (.ref r_0), some (.int l1), u2, u3], [.int s0]) h (Po K E)
def b_X7_isMade_21 (d : Nat) (r_0 : Nat) (l1 : Int32) (l2 : Int32) (l3 : Int32) (h : XH) (K : XK) (E : XE) : Prop := Ex d [] tb_X7_isMade (21, [some (.ref r_0), some (.int l1), some (.int l2), some (.int l3)], []) h (Po K E)
def b_X7_isMade_79 (d : Nat) (r_0 : Nat) (l1 : Int32) (u2 : Option Value) (l3 : Int32) (h : XH) (K : XK) (E : XE) : Prop := Ex d [] tb_X7_isMade (79, [some (.ref r_0), some (.int l1), u2, some (.int l3)], []) h (Po K E)
def b_X7_isMade_80 (d : Nat) (r_0 : Nat) (l1 : Int32) (u2 : Option Value) (l3 : Int32) (s0 : Int32) (h : XH) (K : XK) (E : XE) : Prop := Ex d [] tb_X7_isMade (80, [some (.ref r_0), some (.int l1), u2, some (.int l3)], [.int s0]) h (Po K E)
theorem w_X7_isMade {d : Nat} {h : XH} {y : Nat → Nat} {K : XK} {E : XE} {a : Int32} (hd : 20 ≤ d) (hs : Sg h.1 y) (H : (Ix a 2000 ∧ (¬ (h.2.1 82 (ix a)) = (h.2.1 77 11) → b_X7_isMade_18 d 77 a none none 0 h K E) ∧ (¬ (¬ (h.2.1 82 (ix a)) = (h.2.1 77 11)) → b_X7_isMade_18 d 77 a none none 1 h K E))) : Ca (d + 1) m_X7_isMade [.ref 77, .int a] h K E := by
  refine Ca.of ⟨by show 2 ≤ 4; omega, rfl⟩ ?_
  show Ex d [] tb_X7_isMade (0, [some (.ref 77), some (.int a), none, none], []) h _
  refine Ex.pure 1 (fr2 := (1, [some (.ref 77), some (.int a), none, none], [.ref 77])) rfl ?_
  refine Ex.getQ rfl (sg_77 hs) rfl ?_
  refine Ex.pure 1 (fr2 := (5, [some (.ref 77), some (.int a), none, none], [.int a, .ref 82])) rfl ?_
  refine Ex.iald rfl (Or.inl rfl) (sg_82 hs) H.1 ?_
  replace H := H.2
  refine Ex.pure 1 (fr2 := (7, [some (.ref 77), some (.int a), none, none], [.ref 77, .int (h.2.1 82 (ix a))])) rfl ?_
  refine Ex.getI rfl (Or.inl rfl) (sg_77 hs) ?_
  refine Ex.br (x := (17, [some (.ref 77), some (.int a), none, none], [])) (y := (13, [some (.ref 77), some (.int a), none, none], [])) (b := ¬ (h.2.1 82 (ix a)) = (h.2.1 77 11)) rfl (fun hb => ?_) (fun hb => ?_)
  · replace H := H.1 (hb)
    refine Ex.pure 1 (fr2 := (18, [some (.ref 77), some (.int a), none, none], [.int 0])) rfl ?_
    exact H
  · replace H := H.2 (hb)
    refine Ex.pure 2 (fr2 := (18, [some (.ref 77), some (.int a), none, none], [.int 1])) rfl ?_
    exact H
theorem w_X7_isMade_18 {d : Nat} {h : XH} {y : Nat → Nat} {K : XK} {E : XE} {l1 : Int32} {u2 : Option Value} {u3 : Option Value} {s0 : Int32} (hd : 20 ≤ d) (hs : Sg h.1 y) (H : b_X7_isMade_21 d 77 l1 s0 0 h K E) : b_X7_isMade_18 d 77 l1 u2 u3 s0 h K E := by
  show Ex d [] tb_X7_isMade (18, [some (.ref 77), some (.int l1), u2, u3], [.int s0]) h _
  refine Ex.pure 3 (fr2 := (21, [some (.ref 77), some (.int l1), some (.int s0), some (.int 0)], [])) rfl ?_
  exact H
theorem w_X7_isMade_21 {d : Nat} {h : XH} {y : Nat → Nat} {K : XK} {E : XE} {l1 : Int32} {l2 : Int32} {l3 : Int32} (hd : 20 ≤ d) (hs : Sg h.1 y) (H : ((h.2.1 77 11) ≤ l3 → (l2 = 0 ∨ l2 = 1) ∧ K (some (.int l2)) h) ∧ (¬ ((h.2.1 77 11) ≤ l3) → (l2 = 0 → (l2 = 0 ∨ l2 = 1) ∧ K (some (.int l2)) h) ∧ (¬ (l2 = 0) → (Ix ((8 * l1) + l3) 16000 ∧ (Ix l3 80 ∧ (¬ (h.2.1 80 (ix ((8 * l1) + l3))) = (h.2.1 85 (ix l3)) → b_X7_isMade_79 d 77 l1 (some (.int l2)) l3 h K E) ∧ (¬ (¬ (h.2.1 80 (ix ((8 * l1) + l3))) = (h.2.1 85 (ix l3))) → (Ix ((8 * l1) + l3) 16000 ∧ (Ix l3 80 ∧ (¬ (((h.2.1 81 (ix ((8 * l1) + l3))) : Int32).toInt64) = (h.2.2.1 86 (ix l3)) → b_X7_isMade_79 d 77 l1 (some (.int l2)) l3 h K E) ∧ (¬ (¬ (((h.2.1 81 (ix ((8 * l1) + l3))) : Int32).toInt64) = (h.2.2.1 86 (ix l3))) → b_X7_isMade_80 d 77 l1 (some (.int l2)) l3 1 h K E))))))))) : b_X7_isMade_21 d 77 l1 l2 l3 h K E := by
  show Ex d [] tb_X7_isMade (21, [some (.ref 77), some (.int l1), some (.int l2), some (.int l3)], []) h _
  refine Ex.pure 2 (fr2 := (23, [some (.ref 77), some (.int l1), some (.int l2), some (.int l3)], [.ref 77, .int l3])) rfl ?_
  refine Ex.getI rfl (Or.inl rfl) (sg_77 hs) ?_
  refine Ex.br (x := (87, [some (.ref 77), some (.int l1), some (.int l2), some (.int l3)], [])) (y := (29, [some (.ref 77), some (.int l1), some (.int l2), some (.int l3)], [])) (b := (h.2.1 77 11) ≤ l3) rfl (fun hb => ?_) (fun hb => ?_)
  · replace H := H.1 (hb)
    refine Ex.pure 1 (fr2 := (88, [some (.ref 77), some (.int l1), some (.int l2), some (.int l3)], [.int l2])) rfl ?_
    exact Ex.iret rfl (Or.inr ⟨rfl, H.1⟩) H.2
  · replace H := H.2 (hb)
    refine Ex.pure 1 (fr2 := (30, [some (.ref 77), some (.int l1), some (.int l2), some (.int l3)], [.int l2])) rfl ?_
    refine Ex.br (x := (87, [some (.ref 77), some (.int l1), some (.int l2), some (.int l3)], [])) (y := (33, [some (.ref 77), some (.int l1), some (.int l2), some (.int l3)], [])) (b := l2 = 0) rfl (fun hb => ?_) (fun hb => ?_)
    · replace H := H.1 (hb)
      refine Ex.pure 1 (fr2 := (88, [some (.ref 77), some (.int l1), some (.int l2), some (.int l3)], [.int l2])) rfl ?_
      exact Ex.iret rfl (Or.inr ⟨rfl, H.1⟩) H.2
    · replace H := H.2 (hb)
      refine Ex.pure 1 (fr2 := (34, [some (.ref 77), some (.int l1), some (.int l2), some (.int l3)], [.ref 77])) rfl ?_
      refine Ex.getQ rfl (sg_77 hs) rfl ?_
      refine Ex.pure 5 (fr2 := (43, [some (.ref 77), some (.int l1), some (.int l2), some (.int l3)], [.int ((8 * l1) + l3), .ref 80])) rfl ?_
      refine Ex.iald rfl (Or.inl rfl) (sg_80 hs) H.1 ?_
      replace H := H.2
      refine Ex.pure 1 (fr2 := (45, [some (.ref 77), some (.int l1), some (.int l2), some (.int l3)], [.ref 77, .int (h.2.1 80 (ix ((8 * l1) + l3)))])) rfl ?_
      refine Ex.getQ rfl (sg_77 hs) rfl ?_
      refine Ex.pure 1 (fr2 := (49, [some (.ref 77), some (.int l1), some (.int l2), some (.int l3)], [.int l3, .ref 85, .int (h.2.1 80 (ix ((8 * l1) + l3)))])) rfl ?_
      refine Ex.iald rfl (Or.inl rfl) (sg_85 hs) H.1 ?_
      replace H := H.2
      refine Ex.br (x := (79, [some (.ref 77), some (.int l1), some (.int l2), some (.int l3)], [])) (y := (53, [some (.ref 77), some (.int l1), some (.int l2), some (.int l3)], [])) (b := ¬ (h.2.1 80 (ix ((8 * l1) + l3))) = (h.2.1 85 (ix l3))) rfl (fun hb => ?_) (fun hb => ?_)
      · replace H := H.1 (hb)
        exact H
      · replace H := H.2 (hb)
        refine Ex.pure 1 (fr2 := (54, [some (.ref 77), some (.int l1), some (.int l2), some (.int l3)], [.ref 77])) rfl ?_
        refine Ex.getQ rfl (sg_77 hs) rfl ?_
        refine Ex.pure 5 (fr2 := (63, [some (.ref 77), some (.int l1), some (.int l2), some (.int l3)], [.int ((8 * l1) + l3), .ref 81])) rfl ?_
        refine Ex.iald rfl (Or.inl rfl) (sg_81 hs) H.1 ?_
        replace H := H.2
        refine Ex.pure 2 (fr2 := (66, [some (.ref 77), some (.int l1), some (.int l2), some (.int l3)], [.ref 77, .long (((h.2.1 81 (ix ((8 * l1) + l3))) : Int32).toInt64)])) rfl ?_
        refine Ex.getQ rfl (sg_77 hs) rfl ?_
        refine Ex.pure 1 (fr2 := (70, [some (.ref 77), some (.int l1), some (.int l2), some (.int l3)], [.int l3, .ref 86, .long (((h.2.1 81 (ix ((8 * l1) + l3))) : Int32).toInt64)])) rfl ?_
        refine Ex.lald rfl (sg_86 hs) H.1 ?_
        replace H := H.2
        refine Ex.pure 1 (fr2 := (72, [some (.ref 77), some (.int l1), some (.int l2), some (.int l3)], [.int (lg_cmp (((h.2.1 81 (ix ((8 * l1) + l3))) : Int32).toInt64) (h.2.2.1 86 (ix l3)))])) rfl ?_
        refine Ex.br (x := (79, [some (.ref 77), some (.int l1), some (.int l2), some (.int l3)], [])) (y := (75, [some (.ref 77), some (.int l1), some (.int l2), some (.int l3)], [])) (b := ¬ (lg_cmp (((h.2.1 81 (ix ((8 * l1) + l3))) : Int32).toInt64) (h.2.2.1 86 (ix l3))) = 0) rfl (fun hb => ?_) (fun hb => ?_)
        · replace H := H.1 (fun z => hb ((lg_cmp_eq _ _).mpr z))
          exact H
        · replace H := H.2 (fun z => hb (fun w => z ((lg_cmp_eq _ _).mp w)))
          refine Ex.pure 2 (fr2 := (80, [some (.ref 77), some (.int l1), some (.int l2), some (.int l3)], [.int 1])) rfl ?_
          exact H
theorem w_X7_isMade_79 {d : Nat} {h : XH} {y : Nat → Nat} {K : XK} {E : XE} {l1 : Int32} {u2 : Option Value} {l3 : Int32} (hd : 20 ≤ d) (hs : Sg h.1 y) (H : b_X7_isMade_80 d 77 l1 (u2) l3 0 h K E) : b_X7_isMade_79 d 77 l1 u2 l3 h K E := by
  show Ex d [] tb_X7_isMade (79, [some (.ref 77), some (.int l1), u2, some (.int l3)], []) h _
  refine Ex.pure 1 (fr2 := (80, [some (.ref 77), some (.int l1), u2, some (.int l3)], [.int 0])) rfl ?_
  exact H
theorem w_X7_isMade_80 {d : Nat} {h : XH} {y : Nat → Nat} {K : XK} {E : XE} {l1 : Int32} {u2 : Option Value} {l3 : Int32} {s0 : Int32} (hd : 20 ≤ d) (hs : Sg h.1 y) (H : b_X7_isMade_21 d 77 l1 s0 (l3 + 1) h K E) : b_X7_isMade_80 d 77 l1 u2 l3 s0 h K E := by
  show Ex d [] tb_X7_isMade (80, [some (.ref 77), some (.int l1), u2, some (.int l3)], [.int s0]) h _
  refine Ex.pure 3 (fr2 := (21, [some (.ref 77), some (.int l1), some (.int s0), some (.int (l3 + 1))], [])) rfl ?_
  exact H
def b_X7_makes_16 (d : Nat) (r_0 : Nat) (l1 : Int32) (u2 : Option Int32) (u3 : Option Value) (s0 : Int32) (h : XH) (K : XK) (E : XE) : Prop := Ex d [] tb_X7_makes (16, [some (.ref r_0), some (.int l1), (xoi u2), u3], [.int s0]) h (Po K E)
def b_X7_makes_19 (d : Nat) (r_0 : Nat) (l1 : Int32) (l2 : Int32) (l3 : Int32) (h : XH) (K : XK) (E : XE) : Prop := Ex d [] tb_X7_makes (19, [some (.ref r_0), some (.int l1), some (.int l2), some (.int l3)], []) h (Po K E)
def b_X7_makes_59 (d : Nat) (r_0 : Nat) (u1 : Option Value) (l2 : Int32) (l3 : Int32) (s0 : Int32) (h : XH) (K : XK) (E : XE) : Prop := Ex d [] tb_X7_makes (59, [some (.ref r_0), u1, some (.int l2), some (.int l3)], [.int s0]) h (Po K E)
def b_X7_makes_81 (d : Nat) (r_0 : Nat) (l1 : Int32) (u2 : Option Int32) (l3 : Int32) (h : XH) (K : XK) (E : XE) : Prop := Ex d [] tb_X7_makes (81, [some (.ref r_0), some (.int l1), (xoi u2), some (.int l3)], []) h (Po K E)
def b_X7_makes_82 (d : Nat) (r_0 : Nat) (l1 : Int32) (u2 : Option Int32) (l3 : Int32) (s0 : Int32) (h : XH) (K : XK) (E : XE) : Prop := Ex d [] tb_X7_makes (82, [some (.ref r_0), some (.int l1), (xoi u2), some (.int l3)], [.int s0]) h (Po K E)
def b_X7_makes_102 (d : Nat) (r_0 : Nat) (l1 : Int32) (u2 : Option Int32) (l3 : Int32) (h : XH) (K : XK) (E : XE) : Prop := Ex d [] tb_X7_makes (102, [some (.ref r_0), some (.int l1), (xoi u2), some (.int l3)], []) h (Po K E)
def b_X7_makes_128 (d : Nat) (r_0 : Nat) (l1 : Int32) (u2 : Option Int32) (l3 : Int32) (h : XH) (K : XK) (E : XE) : Prop := Ex d [] tb_X7_makes (128, [some (.ref r_0), some (.int l1), (xoi u2), some (.int l3)], []) h (Po K E)
theorem w_X7_makes {d : Nat} {h : XH} {y : Nat → Nat} {K : XK} {E : XE} (hd : 20 ≤ d) (hs : Sg h.1 y) (H : (8 < (h.2.1 77 11) → b_X7_makes_16 d 77 0 none none 0 h K E) ∧ (¬ (8 < (h.2.1 77 11)) → b_X7_makes_16 d 77 0 none none 1 h K E)) : Ca (d + 1) m_X7_makes [.ref 77] h K E := by
  refine Ca.of ⟨by show 1 ≤ 4; omega, rfl⟩ ?_
  show Ex d [] tb_X7_makes (0, [some (.ref 77), none, none, none], []) h _
  refine Ex.pure 3 (fr2 := (3, [some (.ref 77), some (.int 0), none, none], [.ref 77])) rfl ?_
  refine Ex.getI rfl (Or.inl rfl) (sg_77 hs) ?_
  refine Ex.pure 1 (fr2 := (8, [some (.ref 77), some (.int 0), none, none], [.int 8, .int (h.2.1 77 11)])) rfl ?_
  refine Ex.br (x := (15, [some (.ref 77), some (.int 0), none, none], [])) (y := (11, [some (.ref 77), some (.int 0), none, none], [])) (b := 8 < (h.2.1 77 11)) rfl (fun hb => ?_) (fun hb => ?_)
  · replace H := H.1 (hb)
    refine Ex.pure 1 (fr2 := (16, [some (.ref 77), some (.int 0), none, none], [.int 0])) rfl ?_
    exact H
  · replace H := H.2 (hb)
    refine Ex.pure 2 (fr2 := (16, [some (.ref 77), some (.int 0), none, none], [.int 1])) rfl ?_
    exact H
theorem w_X7_makes_16 {d : Nat} {h : XH} {y : Nat → Nat} {K : XK} {E : XE} {l1 : Int32} {u2 : Option Int32} {u3 : Option Value} {s0 : Int32} (hd : 20 ≤ d) (hs : Sg h.1 y) (H : b_X7_makes_19 d 77 l1 s0 0 h K E) : b_X7_makes_16 d 77 l1 u2 u3 s0 h K E := by
  cases u2 with
  | none =>
    show Ex d [] tb_X7_makes (16, [some (.ref 77), some (.int l1), (xoi none), u3], [.int s0]) h _
    refine Ex.pure 3 (fr2 := (19, [some (.ref 77), some (.int l1), some (.int s0), some (.int 0)], [])) rfl ?_
    exact H
  | some v2 =>
    show Ex d [] tb_X7_makes (16, [some (.ref 77), some (.int l1), (xoi (some v2)), u3], [.int s0]) h _
    refine Ex.pure 3 (fr2 := (19, [some (.ref 77), some (.int l1), some (.int s0), some (.int 0)], [])) rfl ?_
    exact H
theorem w_X7_makes_19 {d : Nat} {h : XH} {y : Nat → Nat} {K : XK} {E : XE} {l1 : Int32} {l2 : Int32} {l3 : Int32} (hd : 20 ≤ d) (hs : Sg h.1 y) (H : ((h.2.1 77 11) ≤ l3 → (l2 = 0 → K (some (.int (-1))) h) ∧ (¬ (l2 = 0) → (l1 ≤ 5 → b_X7_makes_102 d 77 l1 (some l2) 0 h K E) ∧ (¬ (l1 ≤ 5) → K (some (.int (-1))) h))) ∧ (¬ ((h.2.1 77 11) ≤ l3) → (Ix l3 80 ∧ (Ix (h.2.1 85 (ix l3)) 2000 ∧ ((h.2.1 83 (ix (h.2.1 85 (ix l3)))) < l1 → b_X7_makes_59 d 77 (some (.int l1)) l2 l3 l1 h K E) ∧ (¬ ((h.2.1 83 (ix (h.2.1 85 (ix l3)))) < l1) → (Ix l3 80 ∧ (Ix (h.2.1 85 (ix l3)) 2000 ∧ b_X7_makes_59 d 77 (some (.int l1)) l2 l3 ((h.2.1 83 (ix (h.2.1 85 (ix l3)))) + 1) h K E))))))) : b_X7_makes_19 d 77 l1 l2 l3 h K E := by
  show Ex d [] tb_X7_makes (19, [some (.ref 77), some (.int l1), some (.int l2), some (.int l3)], []) h _
  refine Ex.pure 2 (fr2 := (21, [some (.ref 77), some (.int l1), some (.int l2), some (.int l3)], [.ref 77, .int l3])) rfl ?_
  refine Ex.getI rfl (Or.inl rfl) (sg_77 hs) ?_
  refine Ex.br (x := (89, [some (.ref 77), some (.int l1), some (.int l2), some (.int l3)], [])) (y := (27, [some (.ref 77), some (.int l1), some (.int l2), some (.int l3)], [])) (b := (h.2.1 77 11) ≤ l3) rfl (fun hb => ?_) (fun hb => ?_)
  · replace H := H.1 (hb)
    refine Ex.pure 1 (fr2 := (90, [some (.ref 77), some (.int l1), some (.int l2), some (.int l3)], [.int l2])) rfl ?_
    refine Ex.br (x := (98, [some (.ref 77), some (.int l1), some (.int l2), some (.int l3)], [])) (y := (93, [some (.ref 77), some (.int l1), some (.int l2), some (.int l3)], [])) (b := l2 = 0) rfl (fun hb => ?_) (fun hb => ?_)
    · replace H := H.1 (hb)
      refine Ex.pure 1 (fr2 := (99, [some (.ref 77), some (.int l1), some (.int l2), some (.int l3)], [.int (-1)])) rfl ?_
      exact Ex.iret rfl (Or.inl rfl) H
    · replace H := H.2 (hb)
      refine Ex.pure 2 (fr2 := (95, [some (.ref 77), some (.int l1), some (.int l2), some (.int l3)], [.int 5, .int l1])) rfl ?_
      refine Ex.br (x := (100, [some (.ref 77), some (.int l1), some (.int l2), some (.int l3)], [])) (y := (98, [some (.ref 77), some (.int l1), some (.int l2), some (.int l3)], [])) (b := l1 ≤ 5) rfl (fun hb => ?_) (fun hb => ?_)
      · replace H := H.1 (hb)
        refine Ex.pure 2 (fr2 := (102, [some (.ref 77), some (.int l1), some (.int l2), some (.int 0)], [])) rfl ?_
        exact H
      · replace H := H.2 (hb)
        refine Ex.pure 1 (fr2 := (99, [some (.ref 77), some (.int l1), some (.int l2), some (.int l3)], [.int (-1)])) rfl ?_
        exact Ex.iret rfl (Or.inl rfl) H
  · replace H := H.2 (hb)
    refine Ex.pure 1 (fr2 := (28, [some (.ref 77), some (.int l1), some (.int l2), some (.int l3)], [.ref 77])) rfl ?_
    refine Ex.getQ rfl (sg_77 hs) rfl ?_
    refine Ex.pure 1 (fr2 := (32, [some (.ref 77), some (.int l1), some (.int l2), some (.int l3)], [.ref 77, .ref 83])) rfl ?_
    refine Ex.getQ rfl (sg_77 hs) rfl ?_
    refine Ex.pure 1 (fr2 := (36, [some (.ref 77), some (.int l1), some (.int l2), some (.int l3)], [.int l3, .ref 85, .ref 83])) rfl ?_
    refine Ex.iald rfl (Or.inl rfl) (sg_85 hs) H.1 ?_
    replace H := H.2
    refine Ex.iald rfl (Or.inl rfl) (sg_83 hs) H.1 ?_
    replace H := H.2
    refine Ex.pure 1 (fr2 := (39, [some (.ref 77), some (.int l1), some (.int l2), some (.int l3)], [.int l1, .int (h.2.1 83 (ix (h.2.1 85 (ix l3))))])) rfl ?_
    refine Ex.br (x := (58, [some (.ref 77), some (.int l1), some (.int l2), some (.int l3)], [])) (y := (42, [some (.ref 77), some (.int l1), some (.int l2), some (.int l3)], [])) (b := (h.2.1 83 (ix (h.2.1 85 (ix l3)))) < l1) rfl (fun hb => ?_) (fun hb => ?_)
    · replace H := H.1 (hb)
      refine Ex.pure 1 (fr2 := (59, [some (.ref 77), some (.int l1), some (.int l2), some (.int l3)], [.int l1])) rfl ?_
      exact H
    · replace H := H.2 (hb)
      refine Ex.pure 1 (fr2 := (43, [some (.ref 77), some (.int l1), some (.int l2), some (.int l3)], [.ref 77])) rfl ?_
      refine Ex.getQ rfl (sg_77 hs) rfl ?_
      refine Ex.pure 1 (fr2 := (47, [some (.ref 77), some (.int l1), some (.int l2), some (.int l3)], [.ref 77, .ref 83])) rfl ?_
      refine Ex.getQ rfl (sg_77 hs) rfl ?_
      refine Ex.pure 1 (fr2 := (51, [some (.ref 77), some (.int l1), some (.int l2), some (.int l3)], [.int l3, .ref 85, .ref 83])) rfl ?_
      refine Ex.iald rfl (Or.inl rfl) (sg_85 hs) H.1 ?_
      replace H := H.2
      refine Ex.iald rfl (Or.inl rfl) (sg_83 hs) H.1 ?_
      replace H := H.2
      refine Ex.pure 3 (fr2 := (59, [some (.ref 77), some (.int l1), some (.int l2), some (.int l3)], [.int ((h.2.1 83 (ix (h.2.1 85 (ix l3)))) + 1)])) rfl ?_
      exact H
theorem w_X7_makes_59 {d : Nat} {h : XH} {y : Nat → Nat} {K : XK} {E : XE} {u1 : Option Value} {l2 : Int32} {l3 : Int32} {s0 : Int32} (hd : 20 ≤ d) (hs : Sg h.1 y) (H : (l2 = 0 → b_X7_makes_81 d 77 s0 (some l2) l3 h K E) ∧ (¬ (l2 = 0) → (Ix l3 80 ∧ (1000000 < (h.2.2.1 86 (ix l3)) → b_X7_makes_81 d 77 s0 (some l2) l3 h K E) ∧ (¬ (1000000 < (h.2.2.1 86 (ix l3))) → b_X7_makes_82 d 77 s0 (some l2) l3 1 h K E)))) : b_X7_makes_59 d 77 u1 l2 l3 s0 h K E := by
  show Ex d [] tb_X7_makes (59, [some (.ref 77), u1, some (.int l2), some (.int l3)], [.int s0]) h _
  refine Ex.pure 2 (fr2 := (61, [some (.ref 77), some (.int s0), some (.int l2), some (.int l3)], [.int l2])) rfl ?_
  refine Ex.br (x := (81, [some (.ref 77), some (.int s0), some (.int l2), some (.int l3)], [])) (y := (64, [some (.ref 77), some (.int s0), some (.int l2), some (.int l3)], [])) (b := l2 = 0) rfl (fun hb => ?_) (fun hb => ?_)
  · replace H := H.1 (hb)
    exact H
  · replace H := H.2 (hb)
    refine Ex.pure 1 (fr2 := (65, [some (.ref 77), some (.int s0), some (.int l2), some (.int l3)], [.ref 77])) rfl ?_
    refine Ex.getQ rfl (sg_77 hs) rfl ?_
    refine Ex.pure 1 (fr2 := (69, [some (.ref 77), some (.int s0), some (.int l2), some (.int l3)], [.int l3, .ref 86])) rfl ?_
    refine Ex.lald rfl (sg_86 hs) H.1 ?_
    replace H := H.2
    refine Ex.pure 2 (fr2 := (74, [some (.ref 77), some (.int s0), some (.int l2), some (.int l3)], [.int (lg_cmp (h.2.2.1 86 (ix l3)) 1000000)])) rfl ?_
    refine Ex.br (x := (81, [some (.ref 77), some (.int s0), some (.int l2), some (.int l3)], [])) (y := (77, [some (.ref 77), some (.int s0), some (.int l2), some (.int l3)], [])) (b := 0 < (lg_cmp (h.2.2.1 86 (ix l3)) 1000000)) rfl (fun hb => ?_) (fun hb => ?_)
    · replace H := H.1 ((lg_cmp_gt _ _).mp hb)
      exact H
    · replace H := H.2 (fun z => hb ((lg_cmp_gt _ _).mpr z))
      refine Ex.pure 2 (fr2 := (82, [some (.ref 77), some (.int s0), some (.int l2), some (.int l3)], [.int 1])) rfl ?_
      exact H
theorem w_X7_makes_81 {d : Nat} {h : XH} {y : Nat → Nat} {K : XK} {E : XE} {l1 : Int32} {u2 : Option Int32} {l3 : Int32} (hd : 20 ≤ d) (hs : Sg h.1 y) (H : b_X7_makes_82 d 77 l1 u2 l3 0 h K E) : b_X7_makes_81 d 77 l1 u2 l3 h K E := by
  cases u2 with
  | none =>
    show Ex d [] tb_X7_makes (81, [some (.ref 77), some (.int l1), (xoi none), some (.int l3)], []) h _
    refine Ex.pure 1 (fr2 := (82, [some (.ref 77), some (.int l1), (xoi none), some (.int l3)], [.int 0])) rfl ?_
    exact H
  | some v2 =>
    show Ex d [] tb_X7_makes (81, [some (.ref 77), some (.int l1), (xoi (some v2)), some (.int l3)], []) h _
    refine Ex.pure 1 (fr2 := (82, [some (.ref 77), some (.int l1), (xoi (some v2)), some (.int l3)], [.int 0])) rfl ?_
    exact H
theorem w_X7_makes_82 {d : Nat} {h : XH} {y : Nat → Nat} {K : XK} {E : XE} {l1 : Int32} {u2 : Option Int32} {l3 : Int32} {s0 : Int32} (hd : 20 ≤ d) (hs : Sg h.1 y) (H : b_X7_makes_19 d 77 l1 s0 (l3 + 1) h K E) : b_X7_makes_82 d 77 l1 u2 l3 s0 h K E := by
  cases u2 with
  | none =>
    show Ex d [] tb_X7_makes (82, [some (.ref 77), some (.int l1), (xoi none), some (.int l3)], [.int s0]) h _
    refine Ex.pure 3 (fr2 := (19, [some (.ref 77), some (.int l1), some (.int s0), some (.int (l3 + 1))], [])) rfl ?_
    exact H
  | some v2 =>
    show Ex d [] tb_X7_makes (82, [some (.ref 77), some (.int l1), (xoi (some v2)), some (.int l3)], [.int s0]) h _
    refine Ex.pure 3 (fr2 := (19, [some (.ref 77), some (.int l1), some (.int s0), some (.int (l3 + 1))], [])) rfl ?_
    exact H
theorem w_X7_makes_102 {d : Nat} {h : XH} {y : Nat → Nat} {K : XK} {E : XE} {l1 : Int32} {u2 : Option Int32} {l3 : Int32} (hd : 20 ≤ d) (hs : Sg h.1 y) (H : ((h.2.1 77 7) ≤ l3 → b_X7_makes_128 d 77 l1 u2 0 h K E) ∧ (¬ ((h.2.1 77 7) ≤ l3) → (Ca d m_X7_isMade [.ref 77, .int l3] h (fun rv h1 => ∃ x2, rv = some (.int x2) ∧ Sg h1.1 y ∧ (x2 = 0 → b_X7_makes_102 d 77 l1 u2 (l3 + 1) h1 K E) ∧ (¬ (x2 = 0) → K (some (.int l3)) h1)) E))) : b_X7_makes_102 d 77 l1 u2 l3 h K E := by
  cases u2 with
  | none =>
    show Ex d [] tb_X7_makes (102, [some (.ref 77), some (.int l1), (xoi none), some (.int l3)], []) h _
    refine Ex.pure 2 (fr2 := (104, [some (.ref 77), some (.int l1), (xoi none), some (.int l3)], [.ref 77, .int l3])) rfl ?_
    refine Ex.getI rfl (Or.inl rfl) (sg_77 hs) ?_
    refine Ex.br (x := (126, [some (.ref 77), some (.int l1), (xoi none), some (.int l3)], [])) (y := (110, [some (.ref 77), some (.int l1), (xoi none), some (.int l3)], [])) (b := (h.2.1 77 7) ≤ l3) rfl (fun hb => ?_) (fun hb => ?_)
    · replace H := H.1 (hb)
      refine Ex.pure 2 (fr2 := (128, [some (.ref 77), some (.int l1), (xoi none), some (.int 0)], [])) rfl ?_
      exact H
    · replace H := H.2 (hb)
      refine Ex.pure 2 (fr2 := (112, [some (.ref 77), some (.int l1), (xoi none), some (.int l3)], [.int l3, .ref 77])) rfl ?_
      refine Ex.cal (rest := []) (j := m_X7_isMade) (as := [.ref 77, .int l3]) (vst (a := 122) (b := 2) (c := 6) (rest := []) (vs := [.int l3]) rfl ⟨Nat.le_of_ble_eq_true rfl, Nat.le_of_ble_eq_true rfl⟩ rfl rfl (sg_77 hs)) (H.imp ?_)
      intro rv h1 H
      obtain ⟨x2, rfl, H⟩ := H
      obtain ⟨hs, H⟩ := H
      show Ex d [] tb_X7_makes (115, [some (.ref 77), some (.int l1), (xoi none), some (.int l3)], [.int x2]) h1 _
      refine Ex.br (x := (120, [some (.ref 77), some (.int l1), (xoi none), some (.int l3)], [])) (y := (118, [some (.ref 77), some (.int l1), (xoi none), some (.int l3)], [])) (b := x2 = 0) rfl (fun hb => ?_) (fun hb => ?_)
      · replace H := H.1 (hb)
        refine Ex.pure 2 (fr2 := (102, [some (.ref 77), some (.int l1), (xoi none), some (.int (l3 + 1))], [])) rfl ?_
        exact H
      · replace H := H.2 (hb)
        refine Ex.pure 1 (fr2 := (119, [some (.ref 77), some (.int l1), (xoi none), some (.int l3)], [.int l3])) rfl ?_
        exact Ex.iret rfl (Or.inl rfl) H
  | some v2 =>
    show Ex d [] tb_X7_makes (102, [some (.ref 77), some (.int l1), (xoi (some v2)), some (.int l3)], []) h _
    refine Ex.pure 2 (fr2 := (104, [some (.ref 77), some (.int l1), (xoi (some v2)), some (.int l3)], [.ref 77, .int l3])) rfl ?_
    refine Ex.getI rfl (Or.inl rfl) (sg_77 hs) ?_
    refine Ex.br (x := (126, [some (.ref 77), some (.int l1), (xoi (some v2)), some (.int l3)], [])) (y := (110, [some (.ref 77), some (.int l1), (xoi (some v2)), some (.int l3)], [])) (b := (h.2.1 77 7) ≤ l3) rfl (fun hb => ?_) (fun hb => ?_)
    · replace H := H.1 (hb)
      refine Ex.pure 2 (fr2 := (128, [some (.ref 77), some (.int l1), (xoi (some v2)), some (.int 0)], [])) rfl ?_
      exact H
    · replace H := H.2 (hb)
      refine Ex.pure 2 (fr2 := (112, [some (.ref 77), some (.int l1), (xoi (some v2)), some (.int l3)], [.int l3, .ref 77])) rfl ?_
      refine Ex.cal (rest := []) (j := m_X7_isMade) (as := [.ref 77, .int l3]) (vst (a := 122) (b := 2) (c := 6) (rest := []) (vs := [.int l3]) rfl ⟨Nat.le_of_ble_eq_true rfl, Nat.le_of_ble_eq_true rfl⟩ rfl rfl (sg_77 hs)) (H.imp ?_)
      intro rv h1 H
      obtain ⟨x2, rfl, H⟩ := H
      obtain ⟨hs, H⟩ := H
      show Ex d [] tb_X7_makes (115, [some (.ref 77), some (.int l1), (xoi (some v2)), some (.int l3)], [.int x2]) h1 _
      refine Ex.br (x := (120, [some (.ref 77), some (.int l1), (xoi (some v2)), some (.int l3)], [])) (y := (118, [some (.ref 77), some (.int l1), (xoi (some v2)), some (.int l3)], [])) (b := x2 = 0) rfl (fun hb => ?_) (fun hb => ?_)
      · replace H := H.1 (hb)
        refine Ex.pure 2 (fr2 := (102, [some (.ref 77), some (.int l1), (xoi (some v2)), some (.int (l3 + 1))], [])) rfl ?_
        exact H
      · replace H := H.2 (hb)
        refine Ex.pure 1 (fr2 := (119, [some (.ref 77), some (.int l1), (xoi (some v2)), some (.int l3)], [.int l3])) rfl ?_
        exact Ex.iret rfl (Or.inl rfl) H
theorem w_X7_makes_128 {d : Nat} {h : XH} {y : Nat → Nat} {K : XK} {E : XE} {l1 : Int32} {u2 : Option Int32} {l3 : Int32} (hd : 20 ≤ d) (hs : Sg h.1 y) (H : ((h.2.1 77 11) ≤ l3 → (Ix (h.2.1 77 7) 2000 ∧ (∀ h1 : XH, h1 = (x_setI h 82 (ix (h.2.1 77 7)) (h.2.1 77 11)) → (Ix (h1.2.1 77 7) 2000 ∧ (∀ h2 : XH, h2 = (x_setI h1 83 (ix (h1.2.1 77 7)) l1) → (∀ h3 : XH, h3 = (x_setI h2 77 7 ((h2.2.1 77 7) + 1)) → K (some (.int ((h3.2.1 77 7) - 1))) h3)))))) ∧ (¬ ((h.2.1 77 11) ≤ l3) → (Ix l3 80 ∧ (Ix ((8 * (h.2.1 77 7)) + l3) 16000 ∧ (∀ h4 : XH, h4 = (x_setI h 80 (ix ((8 * (h.2.1 77 7)) + l3)) (h.2.1 85 (ix l3))) → (Ix l3 80 ∧ (Ix ((8 * (h4.2.1 77 7)) + l3) 16000 ∧ (∀ h5 : XH, h5 = (x_setI h4 81 (ix ((8 * (h4.2.1 77 7)) + l3)) (((h4.2.2.1 86 (ix l3)) : Int64).toInt32)) → b_X7_makes_128 d 77 l1 u2 (l3 + 1) h5 K E)))))))) : b_X7_makes_128 d 77 l1 u2 l3 h K E := by
  cases u2 with
  | none =>
    show Ex d [] tb_X7_makes (128, [some (.ref 77), some (.int l1), (xoi none), some (.int l3)], []) h _
    refine Ex.pure 2 (fr2 := (130, [some (.ref 77), some (.int l1), (xoi none), some (.int l3)], [.ref 77, .int l3])) rfl ?_
    refine Ex.getI rfl (Or.inl rfl) (sg_77 hs) ?_
    refine Ex.br (x := (183, [some (.ref 77), some (.int l1), (xoi none), some (.int l3)], [])) (y := (136, [some (.ref 77), some (.int l1), (xoi none), some (.int l3)], [])) (b := (h.2.1 77 11) ≤ l3) rfl (fun hb => ?_) (fun hb => ?_)
    · replace H := H.1 (hb)
      refine Ex.pure 1 (fr2 := (184, [some (.ref 77), some (.int l1), (xoi none), some (.int l3)], [.ref 77])) rfl ?_
      refine Ex.getQ rfl (sg_77 hs) rfl ?_
      refine Ex.pure 1 (fr2 := (188, [some (.ref 77), some (.int l1), (xoi none), some (.int l3)], [.ref 77, .ref 82])) rfl ?_
      refine Ex.getI rfl (Or.inl rfl) (sg_77 hs) ?_
      refine Ex.pure 1 (fr2 := (192, [some (.ref 77), some (.int l1), (xoi none), some (.int l3)], [.ref 77, .int (h.2.1 77 7), .ref 82])) rfl ?_
      refine Ex.getI rfl (Or.inl rfl) (sg_77 hs) ?_
      refine Ex.iast rfl (sg_82 hs) H.1 ?_
      replace H := H.2
      obtain ⟨h1, e1⟩ : ∃ z : XH, z = (x_setI h 82 (ix (h.2.1 77 7)) (h.2.1 77 11)) := ⟨_, rfl⟩
      rw [← e1]
      replace H := H h1 e1
      replace hs : Sg h1.1 y := by rw [e1]; exact hs
      refine Ex.pure 1 (fr2 := (197, [some (.ref 77), some (.int l1), (xoi none), some (.int l3)], [.ref 77])) rfl ?_
      refine Ex.getQ rfl (sg_77 hs) rfl ?_
      refine Ex.pure 1 (fr2 := (201, [some (.ref 77), some (.int l1), (xoi none), some (.int l3)], [.ref 77, .ref 83])) rfl ?_
      refine Ex.getI rfl (Or.inl rfl) (sg_77 hs) ?_
      refine Ex.pure 1 (fr2 := (205, [some (.ref 77), some (.int l1), (xoi none), some (.int l3)], [.int l1, .int (h1.2.1 77 7), .ref 83])) rfl ?_
      refine Ex.iast rfl (sg_83 hs) H.1 ?_
      replace H := H.2
      obtain ⟨h2, e2⟩ : ∃ z : XH, z = (x_setI h1 83 (ix (h1.2.1 77 7)) l1) := ⟨_, rfl⟩
      rw [← e2]
      replace H := H h2 e2
      replace hs : Sg h2.1 y := by rw [e2]; exact hs
      refine Ex.pure 2 (fr2 := (208, [some (.ref 77), some (.int l1), (xoi none), some (.int l3)], [.ref 77, .ref 77])) rfl ?_
      refine Ex.getI rfl (Or.inl rfl) (sg_77 hs) ?_
      refine Ex.pure 2 (fr2 := (213, [some (.ref 77), some (.int l1), (xoi none), some (.int l3)], [.int ((h2.2.1 77 7) + 1), .ref 77])) rfl ?_
      refine Ex.putI rfl (sg_77 hs) ?_
      obtain ⟨h3, e3⟩ : ∃ z : XH, z = (x_setI h2 77 7 ((h2.2.1 77 7) + 1)) := ⟨_, rfl⟩
      rw [← e3]
      replace H := H h3 e3
      replace hs : Sg h3.1 y := by rw [e3]; exact hs
      refine Ex.pure 1 (fr2 := (217, [some (.ref 77), some (.int l1), (xoi none), some (.int l3)], [.ref 77])) rfl ?_
      refine Ex.getI rfl (Or.inl rfl) (sg_77 hs) ?_
      refine Ex.pure 2 (fr2 := (222, [some (.ref 77), some (.int l1), (xoi none), some (.int l3)], [.int ((h3.2.1 77 7) - 1)])) rfl ?_
      exact Ex.iret rfl (Or.inl rfl) H
    · replace H := H.2 (hb)
      refine Ex.pure 1 (fr2 := (137, [some (.ref 77), some (.int l1), (xoi none), some (.int l3)], [.ref 77])) rfl ?_
      refine Ex.getQ rfl (sg_77 hs) rfl ?_
      refine Ex.pure 2 (fr2 := (143, [some (.ref 77), some (.int l1), (xoi none), some (.int l3)], [.ref 77, .int 8, .ref 80])) rfl ?_
      refine Ex.getI rfl (Or.inl rfl) (sg_77 hs) ?_
      refine Ex.pure 4 (fr2 := (150, [some (.ref 77), some (.int l1), (xoi none), some (.int l3)], [.ref 77, .int ((8 * (h.2.1 77 7)) + l3), .ref 80])) rfl ?_
      refine Ex.getQ rfl (sg_77 hs) rfl ?_
      refine Ex.pure 1 (fr2 := (154, [some (.ref 77), some (.int l1), (xoi none), some (.int l3)], [.int l3, .ref 85, .int ((8 * (h.2.1 77 7)) + l3), .ref 80])) rfl ?_
      refine Ex.iald rfl (Or.inl rfl) (sg_85 hs) H.1 ?_
      replace H := H.2
      refine Ex.iast rfl (sg_80 hs) H.1 ?_
      replace H := H.2
      obtain ⟨h4, e4⟩ : ∃ z : XH, z = (x_setI h 80 (ix ((8 * (h.2.1 77 7)) + l3)) (h.2.1 85 (ix l3))) := ⟨_, rfl⟩
      rw [← e4]
      replace H := H h4 e4
      replace hs : Sg h4.1 y := by rw [e4]; exact hs
      refine Ex.pure 1 (fr2 := (157, [some (.ref 77), some (.int l1), (xoi none), some (.int l3)], [.ref 77])) rfl ?_
      refine Ex.getQ rfl (sg_77 hs) rfl ?_
      refine Ex.pure 2 (fr2 := (163, [some (.ref 77), some (.int l1), (xoi none), some (.int l3)], [.ref 77, .int 8, .ref 81])) rfl ?_
      refine Ex.getI rfl (Or.inl rfl) (sg_77 hs) ?_
      refine Ex.pure 4 (fr2 := (170, [some (.ref 77), some (.int l1), (xoi none), some (.int l3)], [.ref 77, .int ((8 * (h4.2.1 77 7)) + l3), .ref 81])) rfl ?_
      refine Ex.getQ rfl (sg_77 hs) rfl ?_
      refine Ex.pure 1 (fr2 := (174, [some (.ref 77), some (.int l1), (xoi none), some (.int l3)], [.int l3, .ref 86, .int ((8 * (h4.2.1 77 7)) + l3), .ref 81])) rfl ?_
      refine Ex.lald rfl (sg_86 hs) H.1 ?_
      replace H := H.2
      refine Ex.pure 1 (fr2 := (176, [some (.ref 77), some (.int l1), (xoi none), some (.int l3)], [.int (((h4.2.2.1 86 (ix l3)) : Int64).toInt32), .int ((8 * (h4.2.1 77 7)) + l3), .ref 81])) rfl ?_
      refine Ex.iast rfl (sg_81 hs) H.1 ?_
      replace H := H.2
      obtain ⟨h5, e5⟩ : ∃ z : XH, z = (x_setI h4 81 (ix ((8 * (h4.2.1 77 7)) + l3)) (((h4.2.2.1 86 (ix l3)) : Int64).toInt32)) := ⟨_, rfl⟩
      rw [← e5]
      replace H := H h5 e5
      replace hs : Sg h5.1 y := by rw [e5]; exact hs
      refine Ex.pure 2 (fr2 := (128, [some (.ref 77), some (.int l1), (xoi none), some (.int (l3 + 1))], [])) rfl ?_
      exact H
  | some v2 =>
    show Ex d [] tb_X7_makes (128, [some (.ref 77), some (.int l1), (xoi (some v2)), some (.int l3)], []) h _
    refine Ex.pure 2 (fr2 := (130, [some (.ref 77), some (.int l1), (xoi (some v2)), some (.int l3)], [.ref 77, .int l3])) rfl ?_
    refine Ex.getI rfl (Or.inl rfl) (sg_77 hs) ?_
    refine Ex.br (x := (183, [some (.ref 77), some (.int l1), (xoi (some v2)), some (.int l3)], [])) (y := (136, [some (.ref 77), some (.int l1), (xoi (some v2)), some (.int l3)], [])) (b := (h.2.1 77 11) ≤ l3) rfl (fun hb => ?_) (fun hb => ?_)
    · replace H := H.1 (hb)
      refine Ex.pure 1 (fr2 := (184, [some (.ref 77), some (.int l1), (xoi (some v2)), some (.int l3)], [.ref 77])) rfl ?_
      refine Ex.getQ rfl (sg_77 hs) rfl ?_
      refine Ex.pure 1 (fr2 := (188, [some (.ref 77), some (.int l1), (xoi (some v2)), some (.int l3)], [.ref 77, .ref 82])) rfl ?_
      refine Ex.getI rfl (Or.inl rfl) (sg_77 hs) ?_
      refine Ex.pure 1 (fr2 := (192, [some (.ref 77), some (.int l1), (xoi (some v2)), some (.int l3)], [.ref 77, .int (h.2.1 77 7), .ref 82])) rfl ?_
      refine Ex.getI rfl (Or.inl rfl) (sg_77 hs) ?_
      refine Ex.iast rfl (sg_82 hs) H.1 ?_
      replace H := H.2
      obtain ⟨h1, e1⟩ : ∃ z : XH, z = (x_setI h 82 (ix (h.2.1 77 7)) (h.2.1 77 11)) := ⟨_, rfl⟩
      rw [← e1]
      replace H := H h1 e1
      replace hs : Sg h1.1 y := by rw [e1]; exact hs
      refine Ex.pure 1 (fr2 := (197, [some (.ref 77), some (.int l1), (xoi (some v2)), some (.int l3)], [.ref 77])) rfl ?_
      refine Ex.getQ rfl (sg_77 hs) rfl ?_
      refine Ex.pure 1 (fr2 := (201, [some (.ref 77), some (.int l1), (xoi (some v2)), some (.int l3)], [.ref 77, .ref 83])) rfl ?_
      refine Ex.getI rfl (Or.inl rfl) (sg_77 hs) ?_
      refine Ex.pure 1 (fr2 := (205, [some (.ref 77), some (.int l1), (xoi (some v2)), some (.int l3)], [.int l1, .int (h1.2.1 77 7), .ref 83])) rfl ?_
      refine Ex.iast rfl (sg_83 hs) H.1 ?_
      replace H := H.2
      obtain ⟨h2, e2⟩ : ∃ z : XH, z = (x_setI h1 83 (ix (h1.2.1 77 7)) l1) := ⟨_, rfl⟩
      rw [← e2]
      replace H := H h2 e2
      replace hs : Sg h2.1 y := by rw [e2]; exact hs
      refine Ex.pure 2 (fr2 := (208, [some (.ref 77), some (.int l1), (xoi (some v2)), some (.int l3)], [.ref 77, .ref 77])) rfl ?_
      refine Ex.getI rfl (Or.inl rfl) (sg_77 hs) ?_
      refine Ex.pure 2 (fr2 := (213, [some (.ref 77), some (.int l1), (xoi (some v2)), some (.int l3)], [.int ((h2.2.1 77 7) + 1), .ref 77])) rfl ?_
      refine Ex.putI rfl (sg_77 hs) ?_
      obtain ⟨h3, e3⟩ : ∃ z : XH, z = (x_setI h2 77 7 ((h2.2.1 77 7) + 1)) := ⟨_, rfl⟩
      rw [← e3]
      replace H := H h3 e3
      replace hs : Sg h3.1 y := by rw [e3]; exact hs
      refine Ex.pure 1 (fr2 := (217, [some (.ref 77), some (.int l1), (xoi (some v2)), some (.int l3)], [.ref 77])) rfl ?_
      refine Ex.getI rfl (Or.inl rfl) (sg_77 hs) ?_
      refine Ex.pure 2 (fr2 := (222, [some (.ref 77), some (.int l1), (xoi (some v2)), some (.int l3)], [.int ((h3.2.1 77 7) - 1)])) rfl ?_
      exact Ex.iret rfl (Or.inl rfl) H
    · replace H := H.2 (hb)
      refine Ex.pure 1 (fr2 := (137, [some (.ref 77), some (.int l1), (xoi (some v2)), some (.int l3)], [.ref 77])) rfl ?_
      refine Ex.getQ rfl (sg_77 hs) rfl ?_
      refine Ex.pure 2 (fr2 := (143, [some (.ref 77), some (.int l1), (xoi (some v2)), some (.int l3)], [.ref 77, .int 8, .ref 80])) rfl ?_
      refine Ex.getI rfl (Or.inl rfl) (sg_77 hs) ?_
      refine Ex.pure 4 (fr2 := (150, [some (.ref 77), some (.int l1), (xoi (some v2)), some (.int l3)], [.ref 77, .int ((8 * (h.2.1 77 7)) + l3), .ref 80])) rfl ?_
      refine Ex.getQ rfl (sg_77 hs) rfl ?_
      refine Ex.pure 1 (fr2 := (154, [some (.ref 77), some (.int l1), (xoi (some v2)), some (.int l3)], [.int l3, .ref 85, .int ((8 * (h.2.1 77 7)) + l3), .ref 80])) rfl ?_
      refine Ex.iald rfl (Or.inl rfl) (sg_85 hs) H.1 ?_
      replace H := H.2
      refine Ex.iast rfl (sg_80 hs) H.1 ?_
      replace H := H.2
      obtain ⟨h4, e4⟩ : ∃ z : XH, z = (x_setI h 80 (ix ((8 * (h.2.1 77 7)) + l3)) (h.2.1 85 (ix l3))) := ⟨_, rfl⟩
      rw [← e4]
      replace H := H h4 e4
      replace hs : Sg h4.1 y := by rw [e4]; exact hs
      refine Ex.pure 1 (fr2 := (157, [some (.ref 77), some (.int l1), (xoi (some v2)), some (.int l3)], [.ref 77])) rfl ?_
      refine Ex.getQ rfl (sg_77 hs) rfl ?_
      refine Ex.pure 2 (fr2 := (163, [some (.ref 77), some (.int l1), (xoi (some v2)), some (.int l3)], [.ref 77, .int 8, .ref 81])) rfl ?_
      refine Ex.getI rfl (Or.inl rfl) (sg_77 hs) ?_
      refine Ex.pure 4 (fr2 := (170, [some (.ref 77), some (.int l1), (xoi (some v2)), some (.int l3)], [.ref 77, .int ((8 * (h4.2.1 77 7)) + l3), .ref 81])) rfl ?_
      refine Ex.getQ rfl (sg_77 hs) rfl ?_
      refine Ex.pure 1 (fr2 := (174, [some (.ref 77), some (.int l1), (xoi (some v2)), some (.int l3)], [.int l3, .ref 86, .int ((8 * (h4.2.1 77 7)) + l3), .ref 81])) rfl ?_
      refine Ex.lald rfl (sg_86 hs) H.1 ?_
      replace H := H.2
      refine Ex.pure 1 (fr2 := (176, [some (.ref 77), some (.int l1), (xoi (some v2)), some (.int l3)], [.int (((h4.2.2.1 86 (ix l3)) : Int64).toInt32), .int ((8 * (h4.2.1 77 7)) + l3), .ref 81])) rfl ?_
      refine Ex.iast rfl (sg_81 hs) H.1 ?_
      replace H := H.2
      obtain ⟨h5, e5⟩ : ∃ z : XH, z = (x_setI h4 81 (ix ((8 * (h4.2.1 77 7)) + l3)) (((h4.2.2.1 86 (ix l3)) : Int64).toInt32)) := ⟨_, rfl⟩
      rw [← e5]
      replace H := H h5 e5
      replace hs : Sg h5.1 y := by rw [e5]; exact hs
      refine Ex.pure 2 (fr2 := (128, [some (.ref 77), some (.int l1), (xoi (some v2)), some (.int (l3 + 1))], [])) rfl ?_
      exact H
def b_X7_gathers_13 (d : Nat) (r_0 : Nat) (l1 : Int32) (u2 : Option Value) (u3 : Option Value) (h : XH) (K : XK) (E : XE) : Prop := Ex d [] tb_X7_gathers (13, [some (.ref r_0), some (.int l1), u2, u3], []) h (Po K E)
def b_X7_gathers_38 (d : Nat) (r_0 : Nat) (l1 : Int32) (u2 : Option Value) (u3 : Option Value) (s0 : Int32) (r_5 : Nat) (h : XH) (K : XK) (E : XE) : Prop := Ex d [] tb_X7_gathers (38, [some (.ref r_0), some (.int l1), u2, u3], [.int s0, .ref r_5]) h (Po K E)
def b_X7_gathers_43 (d : Nat) (r_0 : Nat) (l1 : Int32) (u2 : Option Value) (u3 : Option Value) (s0 : Int32) (s1 : Int32) (r_6 : Nat) (h : XH) (K : XK) (E : XE) : Prop := Ex d [] tb_X7_gathers (43, [some (.ref r_0), some (.int l1), u2, u3], [.int s0, .int s1, .ref r_6]) h (Po K E)
def b_X7_gathers_52 (d : Nat) (r_0 : Nat) (l1 : Int32) (u2 : Option Value) (u3 : Option Value) (h : XH) (K : XK) (E : XE) : Prop := Ex d [] tb_X7_gathers (52, [some (.ref r_0), some (.int l1), u2, u3], []) h (Po K E)
def b_X7_gathers_80 (d : Nat) (r_0 : Nat) (l1 : Int32) (u2 : Option Value) (u3 : Option Value) (h : XH) (K : XK) (E : XE) : Prop := Ex d [] tb_X7_gathers (80, [some (.ref r_0), some (.int l1), u2, u3], []) h (Po K E)
def b_X7_gathers_93 (d : Nat) (r_0 : Nat) (l1 : Int32) (u2 : Option Value) (u3 : Option Value) (h : XH) (K : XK) (E : XE) : Prop := Ex d [] tb_X7_gathers (93, [some (.ref r_0), some (.int l1), u2, u3], []) h (Po K E)
def b_X7_gathers_102 (d : Nat) (r_0 : Nat) (l1 : Int32) (l2 : Int32) (u3 : Option Value) (h : XH) (K : XK) (E : XE) : Prop := Ex d [] tb_X7_gathers (102, [some (.ref r_0), some (.int l1), some (.int l2), u3], []) h (Po K E)
def b_X7_gathers_145 (d : Nat) (r_0 : Nat) (l1 : Int32) (u2 : Option Value) (u3 : Option Value) (h : XH) (K : XK) (E : XE) : Prop := Ex d [] tb_X7_gathers (145, [some (.ref r_0), some (.int l1), u2, u3], []) h (Po K E)
def b_X7_gathers_155 (d : Nat) (r_0 : Nat) (l1 : Int32) (l2 : Int32) (u3 : Option Value) (h : XH) (K : XK) (E : XE) : Prop := Ex d [] tb_X7_gathers (155, [some (.ref r_0), some (.int l1), some (.int l2), u3], []) h (Po K E)
def b_X7_gathers_175 (d : Nat) (r_0 : Nat) (l1 : Int32) (l2 : Int32) (l3 : Int32) (h : XH) (K : XK) (E : XE) : Prop := Ex d [] tb_X7_gathers (175, [some (.ref r_0), some (.int l1), some (.int l2), some (.int l3)], []) h (Po K E)
def b_X7_gathers_274 (d : Nat) (r_0 : Nat) (l1 : Int32) (l2 : Int32) (u3 : Option Value) (h : XH) (K : XK) (E : XE) : Prop := Ex d [] tb_X7_gathers (274, [some (.ref r_0), some (.int l1), some (.int l2), u3], []) h (Po K E)
def b_X7_gathers_300 (d : Nat) (r_0 : Nat) (u1 : Option Int32) (l2 : Int32) (u3 : Option Value) (h : XH) (K : XK) (E : XE) : Prop := Ex d [] tb_X7_gathers (300, [some (.ref r_0), (xoi u1), some (.int l2), u3], []) h (Po K E)
def b_X7_gathers_341 (d : Nat) (r_0 : Nat) (u1 : Option Int32) (l2 : Int32) (u3 : Option Value) (s0 : Int32) (s1 : Int32) (r_6 : Nat) (h : XH) (K : XK) (E : XE) : Prop := Ex d [] tb_X7_gathers (341, [some (.ref r_0), (xoi u1), some (.int l2), u3], [.int s0, .int s1, .ref r_6]) h (Po K E)
theorem w_X7_gathers {d : Nat} {h : XH} {y : Nat → Nat} {K : XK} {E : XE} (hd : 20 ≤ d) (hs : Sg h.1 y) (H : (1500 ≤ (h.2.1 77 7) → b_X7_gathers_13 d 77 0 none none h K E) ∧ (¬ (1500 ≤ (h.2.1 77 7)) → K none h)) : Ca (d + 1) m_X7_gathers [.ref 77] h K E := by
  refine Ca.of ⟨by show 1 ≤ 4; omega, rfl⟩ ?_
  show Ex d [] tb_X7_gathers (0, [some (.ref 77), none, none, none], []) h _
  refine Ex.pure 1 (fr2 := (1, [some (.ref 77), none, none, none], [.ref 77])) rfl ?_
  refine Ex.getI rfl (Or.inl rfl) (sg_77 hs) ?_
  refine Ex.pure 1 (fr2 := (7, [some (.ref 77), none, none, none], [.int 1500, .int (h.2.1 77 7)])) rfl ?_
  refine Ex.br (x := (11, [some (.ref 77), none, none, none], [])) (y := (10, [some (.ref 77), none, none, none], [])) (b := 1500 ≤ (h.2.1 77 7)) rfl (fun hb => ?_) (fun hb => ?_)
  · replace H := H.1 (hb)
    refine Ex.pure 2 (fr2 := (13, [some (.ref 77), some (.int 0), none, none], [])) rfl ?_
    exact H
  · replace H := H.2 (hb)
    exact Ex.vret rfl H
theorem w_X7_gathers_13 {d : Nat} {h : XH} {y : Nat → Nat} {K : XK} {E : XE} {l1 : Int32} {u2 : Option Value} {u3 : Option Value} (hd : 20 ≤ d) (hs : Sg h.1 y) (H : ((h.2.1 77 7) ≤ l1 → b_X7_gathers_52 d 77 0 (u2) (u3) h K E) ∧ (¬ ((h.2.1 77 7) ≤ l1) → (l1 = 0 → b_X7_gathers_38 d 77 l1 (u2) (u3) l1 84 h K E) ∧ (¬ (l1 = 0) → (¬ l1 = (h.2.1 77 15) → b_X7_gathers_43 d 77 l1 (u2) (u3) 0 l1 84 h K E) ∧ (¬ (¬ l1 = (h.2.1 77 15)) → b_X7_gathers_38 d 77 l1 (u2) (u3) l1 84 h K E)))) : b_X7_gathers_13 d 77 l1 u2 u3 h K E := by
  show Ex d [] tb_X7_gathers (13, [some (.ref 77), some (.int l1), u2, u3], []) h _
  refine Ex.pure 2 (fr2 := (15, [some (.ref 77), some (.int l1), u2, u3], [.ref 77, .int l1])) rfl ?_
  refine Ex.getI rfl (Or.inl rfl) (sg_77 hs) ?_
  refine Ex.br (x := (50, [some (.ref 77), some (.int l1), u2, u3], [])) (y := (21, [some (.ref 77), some (.int l1), u2, u3], [])) (b := (h.2.1 77 7) ≤ l1) rfl (fun hb => ?_) (fun hb => ?_)
  · replace H := H.1 (hb)
    refine Ex.pure 2 (fr2 := (52, [some (.ref 77), some (.int 0), u2, u3], [])) rfl ?_
    exact H
  · replace H := H.2 (hb)
    refine Ex.pure 1 (fr2 := (22, [some (.ref 77), some (.int l1), u2, u3], [.ref 77])) rfl ?_
    refine Ex.getQ rfl (sg_77 hs) rfl ?_
    refine Ex.pure 2 (fr2 := (27, [some (.ref 77), some (.int l1), u2, u3], [.int l1, .int l1, .ref 84])) rfl ?_
    refine Ex.br (x := (38, [some (.ref 77), some (.int l1), u2, u3], [.int l1, .ref 84])) (y := (30, [some (.ref 77), some (.int l1), u2, u3], [.int l1, .ref 84])) (b := l1 = 0) rfl (fun hb => ?_) (fun hb => ?_)
    · replace H := H.1 (hb)
      exact H
    · replace H := H.2 (hb)
      refine Ex.pure 2 (fr2 := (32, [some (.ref 77), some (.int l1), u2, u3], [.ref 77, .int l1, .int l1, .ref 84])) rfl ?_
      refine Ex.getI rfl (Or.inl rfl) (sg_77 hs) ?_
      refine Ex.br (x := (42, [some (.ref 77), some (.int l1), u2, u3], [.int l1, .ref 84])) (y := (38, [some (.ref 77), some (.int l1), u2, u3], [.int l1, .ref 84])) (b := ¬ l1 = (h.2.1 77 15)) rfl (fun hb => ?_) (fun hb => ?_)
      · replace H := H.1 (hb)
        refine Ex.pure 1 (fr2 := (43, [some (.ref 77), some (.int l1), u2, u3], [.int 0, .int l1, .ref 84])) rfl ?_
        exact H
      · replace H := H.2 (hb)
        exact H
theorem w_X7_gathers_38 {d : Nat} {h : XH} {y : Nat → Nat} {K : XK} {E : XE} {l1 : Int32} {u2 : Option Value} {u3 : Option Value} {s0 : Int32} (hd : 20 ≤ d) (hs : Sg h.1 y) (H : b_X7_gathers_43 d 77 l1 (u2) (u3) 1 s0 84 h K E) : b_X7_gathers_38 d 77 l1 u2 u3 s0 84 h K E := by
  show Ex d [] tb_X7_gathers (38, [some (.ref 77), some (.int l1), u2, u3], [.int s0, .ref 84]) h _
  refine Ex.pure 2 (fr2 := (43, [some (.ref 77), some (.int l1), u2, u3], [.int 1, .int s0, .ref 84])) rfl ?_
  exact H
theorem w_X7_gathers_43 {d : Nat} {h : XH} {y : Nat → Nat} {K : XK} {E : XE} {l1 : Int32} {u2 : Option Value} {u3 : Option Value} {s0 : Int32} {s1 : Int32} (hd : 20 ≤ d) (hs : Sg h.1 y) (H : (Ix s1 2000 ∧ (∀ h1 : XH, h1 = (x_setI h 84 (ix s1) s0) → b_X7_gathers_13 d 77 (l1 + 1) (u2) (u3) h1 K E))) : b_X7_gathers_43 d 77 l1 u2 u3 s0 s1 84 h K E := by
  show Ex d [] tb_X7_gathers (43, [some (.ref 77), some (.int l1), u2, u3], [.int s0, .int s1, .ref 84]) h _
  refine Ex.iast rfl (sg_84 hs) H.1 ?_
  replace H := H.2
  obtain ⟨h1, e1⟩ : ∃ z : XH, z = (x_setI h 84 (ix s1) s0) := ⟨_, rfl⟩
  rw [← e1]
  replace H := H h1 e1
  replace hs : Sg h1.1 y := by rw [e1]; exact hs
  refine Ex.pure 2 (fr2 := (13, [some (.ref 77), some (.int (l1 + 1)), u2, u3], [])) rfl ?_
  exact H
theorem w_X7_gathers_52 {d : Nat} {h : XH} {y : Nat → Nat} {K : XK} {E : XE} {l1 : Int32} {u2 : Option Value} {u3 : Option Value} (hd : 20 ≤ d) (hs : Sg h.1 y) (H : (16 ≤ l1 → b_X7_gathers_93 d 77 ((h.2.1 77 7) - 1) (u2) (u3) h K E) ∧ (¬ (16 ≤ l1) → (Ix l1 16 ∧ (¬ (h.2.1 78 (ix l1)) = 1 → b_X7_gathers_80 d 77 l1 (u2) (u3) h K E) ∧ (¬ (¬ (h.2.1 78 (ix l1)) = 1) → (Ix l1 16 ∧ (Ix (h.2.1 79 (ix l1)) 2000 ∧ (∀ h1 : XH, h1 = (x_setI h 84 (ix (h.2.1 79 (ix l1))) 1) → b_X7_gathers_80 d 77 l1 (u2) (u3) h1 K E))))))) : b_X7_gathers_52 d 77 l1 u2 u3 h K E := by
  show Ex d [] tb_X7_gathers (52, [some (.ref 77), some (.int l1), u2, u3], []) h _
  refine Ex.pure 2 (fr2 := (55, [some (.ref 77), some (.int l1), u2, u3], [.int 16, .int l1])) rfl ?_
  refine Ex.br (x := (86, [some (.ref 77), some (.int l1), u2, u3], [])) (y := (58, [some (.ref 77), some (.int l1), u2, u3], [])) (b := 16 ≤ l1) rfl (fun hb => ?_) (fun hb => ?_)
  · replace H := H.1 (hb)
    refine Ex.pure 1 (fr2 := (87, [some (.ref 77), some (.int l1), u2, u3], [.ref 77])) rfl ?_
    refine Ex.getI rfl (Or.inl rfl) (sg_77 hs) ?_
    refine Ex.pure 3 (fr2 := (93, [some (.ref 77), some (.int ((h.2.1 77 7) - 1)), u2, u3], [])) rfl ?_
    exact H
  · replace H := H.2 (hb)
    refine Ex.pure 1 (fr2 := (59, [some (.ref 77), some (.int l1), u2, u3], [.ref 77])) rfl ?_
    refine Ex.getQ rfl (sg_77 hs) rfl ?_
    refine Ex.pure 1 (fr2 := (63, [some (.ref 77), some (.int l1), u2, u3], [.int l1, .ref 78])) rfl ?_
    refine Ex.iald rfl (Or.inl rfl) (sg_78 hs) H.1 ?_
    replace H := H.2
    refine Ex.pure 1 (fr2 := (65, [some (.ref 77), some (.int l1), u2, u3], [.int 1, .int (h.2.1 78 (ix l1))])) rfl ?_
    refine Ex.br (x := (80, [some (.ref 77), some (.int l1), u2, u3], [])) (y := (68, [some (.ref 77), some (.int l1), u2, u3], [])) (b := ¬ (h.2.1 78 (ix l1)) = 1) rfl (fun hb => ?_) (fun hb => ?_)
    · replace H := H.1 (hb)
      exact H
    · replace H := H.2 (hb)
      refine Ex.pure 1 (fr2 := (69, [some (.ref 77), some (.int l1), u2, u3], [.ref 77])) rfl ?_
      refine Ex.getQ rfl (sg_77 hs) rfl ?_
      refine Ex.pure 1 (fr2 := (73, [some (.ref 77), some (.int l1), u2, u3], [.ref 77, .ref 84])) rfl ?_
      refine Ex.getQ rfl (sg_77 hs) rfl ?_
      refine Ex.pure 1 (fr2 := (77, [some (.ref 77), some (.int l1), u2, u3], [.int l1, .ref 79, .ref 84])) rfl ?_
      refine Ex.iald rfl (Or.inl rfl) (sg_79 hs) H.1 ?_
      replace H := H.2
      refine Ex.pure 1 (fr2 := (79, [some (.ref 77), some (.int l1), u2, u3], [.int 1, .int (h.2.1 79 (ix l1)), .ref 84])) rfl ?_
      refine Ex.iast rfl (sg_84 hs) H.1 ?_
      replace H := H.2
      obtain ⟨h1, e1⟩ : ∃ z : XH, z = (x_setI h 84 (ix (h.2.1 79 (ix l1))) 1) := ⟨_, rfl⟩
      rw [← e1]
      replace H := H h1 e1
      replace hs : Sg h1.1 y := by rw [e1]; exact hs
      exact H
theorem w_X7_gathers_80 {d : Nat} {h : XH} {y : Nat → Nat} {K : XK} {E : XE} {l1 : Int32} {u2 : Option Value} {u3 : Option Value} (hd : 20 ≤ d) (hs : Sg h.1 y) (H : b_X7_gathers_52 d 77 (l1 + 1) (u2) (u3) h K E) : b_X7_gathers_80 d 77 l1 u2 u3 h K E := by
  show Ex d [] tb_X7_gathers (80, [some (.ref 77), some (.int l1), u2, u3], []) h _
  refine Ex.pure 2 (fr2 := (52, [some (.ref 77), some (.int (l1 + 1)), u2, u3], [])) rfl ?_
  exact H
theorem w_X7_gathers_93 {d : Nat} {h : XH} {y : Nat → Nat} {K : XK} {E : XE} {l1 : Int32} {u2 : Option Value} {u3 : Option Value} (hd : 20 ≤ d) (hs : Sg h.1 y) (H : (l1 ≤ 0 → b_X7_gathers_155 d 77 0 0 (u3) h K E) ∧ (¬ (l1 ≤ 0) → b_X7_gathers_102 d 77 l1 (8 * l1) (u3) h K E)) : b_X7_gathers_93 d 77 l1 u2 u3 h K E := by
  show Ex d [] tb_X7_gathers (93, [some (.ref 77), some (.int l1), u2, u3], []) h _
  refine Ex.pure 1 (fr2 := (94, [some (.ref 77), some (.int l1), u2, u3], [.int l1])) rfl ?_
  refine Ex.br (x := (151, [some (.ref 77), some (.int l1), u2, u3], [])) (y := (97, [some (.ref 77), some (.int l1), u2, u3], [])) (b := l1 ≤ 0) rfl (fun hb => ?_) (fun hb => ?_)
  · replace H := H.1 (hb)
    refine Ex.pure 4 (fr2 := (155, [some (.ref 77), some (.int 0), some (.int 0), u3], [])) rfl ?_
    exact H
  · replace H := H.2 (hb)
    refine Ex.pure 4 (fr2 := (102, [some (.ref 77), some (.int l1), some (.int (8 * l1)), u3], [])) rfl ?_
    exact H
theorem w_X7_gathers_102 {d : Nat} {h : XH} {y : Nat → Nat} {K : XK} {E : XE} {l1 : Int32} {l2 : Int32} {u3 : Option Value} (hd : 20 ≤ d) (hs : Sg h.1 y) (H : (Ix l1 2000 ∧ (((8 * l1) + (h.2.1 82 (ix l1))) ≤ l2 → b_X7_gathers_145 d 77 l1 (some (.int l2)) (u3) h K E) ∧ (¬ (((8 * l1) + (h.2.1 82 (ix l1))) ≤ l2) → (Ix l1 2000 ∧ (¬ (h.2.1 84 (ix l1)) = 1 → b_X7_gathers_145 d 77 l1 (some (.int l2)) (u3) h K E) ∧ (¬ (¬ (h.2.1 84 (ix l1)) = 1) → (Ix l2 16000 ∧ (Ix (h.2.1 80 (ix l2)) 2000 ∧ (∀ h1 : XH, h1 = (x_setI h 84 (ix (h.2.1 80 (ix l2))) 1) → b_X7_gathers_102 d 77 l1 (l2 + 1) (u3) h1 K E)))))))) : b_X7_gathers_102 d 77 l1 l2 u3 h K E := by
  show Ex d [] tb_X7_gathers (102, [some (.ref 77), some (.int l1), some (.int l2), u3], []) h _
  refine Ex.pure 5 (fr2 := (108, [some (.ref 77), some (.int l1), some (.int l2), u3], [.ref 77, .int (8 * l1), .int l2])) rfl ?_
  refine Ex.getQ rfl (sg_77 hs) rfl ?_
  refine Ex.pure 1 (fr2 := (112, [some (.ref 77), some (.int l1), some (.int l2), u3], [.int l1, .ref 82, .int (8 * l1), .int l2])) rfl ?_
  refine Ex.iald rfl (Or.inl rfl) (sg_82 hs) H.1 ?_
  replace H := H.2
  refine Ex.pure 1 (fr2 := (114, [some (.ref 77), some (.int l1), some (.int l2), u3], [.int ((8 * l1) + (h.2.1 82 (ix l1))), .int l2])) rfl ?_
  refine Ex.br (x := (145, [some (.ref 77), some (.int l1), some (.int l2), u3], [])) (y := (117, [some (.ref 77), some (.int l1), some (.int l2), u3], [])) (b := ((8 * l1) + (h.2.1 82 (ix l1))) ≤ l2) rfl (fun hb => ?_) (fun hb => ?_)
  · replace H := H.1 (hb)
    exact H
  · replace H := H.2 (hb)
    refine Ex.pure 1 (fr2 := (118, [some (.ref 77), some (.int l1), some (.int l2), u3], [.ref 77])) rfl ?_
    refine Ex.getQ rfl (sg_77 hs) rfl ?_
    refine Ex.pure 1 (fr2 := (122, [some (.ref 77), some (.int l1), some (.int l2), u3], [.int l1, .ref 84])) rfl ?_
    refine Ex.iald rfl (Or.inl rfl) (sg_84 hs) H.1 ?_
    replace H := H.2
    refine Ex.pure 1 (fr2 := (124, [some (.ref 77), some (.int l1), some (.int l2), u3], [.int 1, .int (h.2.1 84 (ix l1))])) rfl ?_
    refine Ex.br (x := (145, [some (.ref 77), some (.int l1), some (.int l2), u3], [])) (y := (127, [some (.ref 77), some (.int l1), some (.int l2), u3], [])) (b := ¬ (h.2.1 84 (ix l1)) = 1) rfl (fun hb => ?_) (fun hb => ?_)
    · replace H := H.1 (hb)
      exact H
    · replace H := H.2 (hb)
      refine Ex.pure 1 (fr2 := (128, [some (.ref 77), some (.int l1), some (.int l2), u3], [.ref 77])) rfl ?_
      refine Ex.getQ rfl (sg_77 hs) rfl ?_
      refine Ex.pure 1 (fr2 := (132, [some (.ref 77), some (.int l1), some (.int l2), u3], [.ref 77, .ref 84])) rfl ?_
      refine Ex.getQ rfl (sg_77 hs) rfl ?_
      refine Ex.pure 1 (fr2 := (136, [some (.ref 77), some (.int l1), some (.int l2), u3], [.int l2, .ref 80, .ref 84])) rfl ?_
      refine Ex.iald rfl (Or.inl rfl) (sg_80 hs) H.1 ?_
      replace H := H.2
      refine Ex.pure 1 (fr2 := (138, [some (.ref 77), some (.int l1), some (.int l2), u3], [.int 1, .int (h.2.1 80 (ix l2)), .ref 84])) rfl ?_
      refine Ex.iast rfl (sg_84 hs) H.1 ?_
      replace H := H.2
      obtain ⟨h1, e1⟩ : ∃ z : XH, z = (x_setI h 84 (ix (h.2.1 80 (ix l2))) 1) := ⟨_, rfl⟩
      rw [← e1]
      replace H := H h1 e1
      replace hs : Sg h1.1 y := by rw [e1]; exact hs
      refine Ex.pure 2 (fr2 := (102, [some (.ref 77), some (.int l1), some (.int (l2 + 1)), u3], [])) rfl ?_
      exact H
theorem w_X7_gathers_145 {d : Nat} {h : XH} {y : Nat → Nat} {K : XK} {E : XE} {l1 : Int32} {u2 : Option Value} {u3 : Option Value} (hd : 20 ≤ d) (hs : Sg h.1 y) (H : b_X7_gathers_93 d 77 (l1 + (-1)) (u2) (u3) h K E) : b_X7_gathers_145 d 77 l1 u2 u3 h K E := by
  show Ex d [] tb_X7_gathers (145, [some (.ref 77), some (.int l1), u2, u3], []) h _
  refine Ex.pure 2 (fr2 := (93, [some (.ref 77), some (.int (l1 + (-1))), u2, u3], [])) rfl ?_
  exact H
theorem w_X7_gathers_155 {d : Nat} {h : XH} {y : Nat → Nat} {K : XK} {E : XE} {l1 : Int32} {l2 : Int32} {u3 : Option Value} (hd : 20 ≤ d) (hs : Sg h.1 y) (H : ((h.2.1 77 7) ≤ l2 → (∀ h1 : XH, h1 = (x_setI h 77 7 l1) → (Ix (h1.2.1 77 15) 2000 ∧ (∀ h2 : XH, h2 = (x_setI h1 77 15 (h1.2.1 84 (ix (h1.2.1 77 15)))) → b_X7_gathers_300 d 77 (some l1) 0 (u3) h2 K E)))) ∧ (¬ ((h.2.1 77 7) ≤ l2) → (Ix l2 2000 ∧ (¬ (h.2.1 84 (ix l2)) = 1 → b_X7_gathers_274 d 77 l1 l2 (u3) h K E) ∧ (¬ (¬ (h.2.1 84 (ix l2)) = 1) → b_X7_gathers_175 d 77 l1 l2 0 h K E)))) : b_X7_gathers_155 d 77 l1 l2 u3 h K E := by
  show Ex d [] tb_X7_gathers (155, [some (.ref 77), some (.int l1), some (.int l2), u3], []) h _
  refine Ex.pure 2 (fr2 := (157, [some (.ref 77), some (.int l1), some (.int l2), u3], [.ref 77, .int l2])) rfl ?_
  refine Ex.getI rfl (Or.inl rfl) (sg_77 hs) ?_
  refine Ex.br (x := (280, [some (.ref 77), some (.int l1), some (.int l2), u3], [])) (y := (163, [some (.ref 77), some (.int l1), some (.int l2), u3], [])) (b := (h.2.1 77 7) ≤ l2) rfl (fun hb => ?_) (fun hb => ?_)
  · replace H := H.1 (hb)
    refine Ex.pure 2 (fr2 := (282, [some (.ref 77), some (.int l1), some (.int l2), u3], [.int l1, .ref 77])) rfl ?_
    refine Ex.putI rfl (sg_77 hs) ?_
    obtain ⟨h1, e1⟩ : ∃ z : XH, z = (x_setI h 77 7 l1) := ⟨_, rfl⟩
    rw [← e1]
    replace H := H h1 e1
    replace hs : Sg h1.1 y := by rw [e1]; exact hs
    refine Ex.pure 2 (fr2 := (287, [some (.ref 77), some (.int l1), some (.int l2), u3], [.ref 77, .ref 77])) rfl ?_
    refine Ex.getQ rfl (sg_77 hs) rfl ?_
    refine Ex.pure 1 (fr2 := (291, [some (.ref 77), some (.int l1), some (.int l2), u3], [.ref 77, .ref 84, .ref 77])) rfl ?_
    refine Ex.getI rfl (Or.inl rfl) (sg_77 hs) ?_
    refine Ex.iald rfl (Or.inl rfl) (sg_84 hs) H.1 ?_
    replace H := H.2
    refine Ex.putI rfl (sg_77 hs) ?_
    obtain ⟨h2, e2⟩ : ∃ z : XH, z = (x_setI h1 77 15 (h1.2.1 84 (ix (h1.2.1 77 15)))) := ⟨_, rfl⟩
    rw [← e2]
    replace H := H h2 e2
    replace hs : Sg h2.1 y := by rw [e2]; exact hs
    refine Ex.pure 2 (fr2 := (300, [some (.ref 77), some (.int l1), some (.int 0), u3], [])) rfl ?_
    exact H
  · replace H := H.2 (hb)
    refine Ex.pure 1 (fr2 := (164, [some (.ref 77), some (.int l1), some (.int l2), u3], [.ref 77])) rfl ?_
    refine Ex.getQ rfl (sg_77 hs) rfl ?_
    refine Ex.pure 1 (fr2 := (168, [some (.ref 77), some (.int l1), some (.int l2), u3], [.int l2, .ref 84])) rfl ?_
    refine Ex.iald rfl (Or.inl rfl) (sg_84 hs) H.1 ?_
    replace H := H.2
    refine Ex.pure 1 (fr2 := (170, [some (.ref 77), some (.int l1), some (.int l2), u3], [.int 1, .int (h.2.1 84 (ix l2))])) rfl ?_
    refine Ex.br (x := (274, [some (.ref 77), some (.int l1), some (.int l2), u3], [])) (y := (173, [some (.ref 77), some (.int l1), some (.int l2), u3], [])) (b := ¬ (h.2.1 84 (ix l2)) = 1) rfl (fun hb => ?_) (fun hb => ?_)
    · replace H := H.1 (hb)
      exact H
    · replace H := H.2 (hb)
      refine Ex.pure 2 (fr2 := (175, [some (.ref 77), some (.int l1), some (.int l2), some (.int 0)], [])) rfl ?_
      exact H
theorem w_X7_gathers_175 {d : Nat} {h : XH} {y : Nat → Nat} {K : XK} {E : XE} {l1 : Int32} {l2 : Int32} {l3 : Int32} (hd : 20 ≤ d) (hs : Sg h.1 y) (H : (Ix l2 2000 ∧ ((h.2.1 82 (ix l2)) ≤ l3 → (Ix l2 2000 ∧ (Ix l1 2000 ∧ (∀ h1 : XH, h1 = (x_setI h 82 (ix l1) (h.2.1 82 (ix l2))) → (Ix l2 2000 ∧ (Ix l1 2000 ∧ (∀ h2 : XH, h2 = (x_setI h1 83 (ix l1) (h1.2.1 83 (ix l2))) → (Ix l2 2000 ∧ (∀ h3 : XH, h3 = (x_setI h2 84 (ix l2) l1) → b_X7_gathers_274 d 77 (l1 + 1) l2 (some (.int l3)) h3 K E))))))))) ∧ (¬ ((h.2.1 82 (ix l2)) ≤ l3) → (Ix ((8 * l2) + l3) 16000 ∧ (Ix (h.2.1 80 (ix ((8 * l2) + l3))) 2000 ∧ (Ix ((8 * l1) + l3) 16000 ∧ (∀ h4 : XH, h4 = (x_setI h 80 (ix ((8 * l1) + l3)) (h.2.1 84 (ix (h.2.1 80 (ix ((8 * l2) + l3)))))) → (Ix ((8 * l2) + l3) 16000 ∧ (Ix ((8 * l1) + l3) 16000 ∧ (∀ h5 : XH, h5 = (x_setI h4 81 (ix ((8 * l1) + l3)) (h4.2.1 81 (ix ((8 * l2) + l3)))) → b_X7_gathers_175 d 77 l1 l2 (l3 + 1) h5 K E)))))))))) : b_X7_gathers_175 d 77 l1 l2 l3 h K E := by
  show Ex d [] tb_X7_gathers (175, [some (.ref 77), some (.int l1), some (.int l2), some (.int l3)], []) h _
  refine Ex.pure 2 (fr2 := (177, [some (.ref 77), some (.int l1), some (.int l2), some (.int l3)], [.ref 77, .int l3])) rfl ?_
  refine Ex.getQ rfl (sg_77 hs) rfl ?_
  refine Ex.pure 1 (fr2 := (181, [some (.ref 77), some (.int l1), some (.int l2), some (.int l3)], [.int l2, .ref 82, .int l3])) rfl ?_
  refine Ex.iald rfl (Or.inl rfl) (sg_82 hs) H.1 ?_
  replace H := H.2
  refine Ex.br (x := (240, [some (.ref 77), some (.int l1), some (.int l2), some (.int l3)], [])) (y := (185, [some (.ref 77), some (.int l1), some (.int l2), some (.int l3)], [])) (b := (h.2.1 82 (ix l2)) ≤ l3) rfl (fun hb => ?_) (fun hb => ?_)
  · replace H := H.1 (hb)
    refine Ex.pure 1 (fr2 := (241, [some (.ref 77), some (.int l1), some (.int l2), some (.int l3)], [.ref 77])) rfl ?_
    refine Ex.getQ rfl (sg_77 hs) rfl ?_
    refine Ex.pure 2 (fr2 := (246, [some (.ref 77), some (.int l1), some (.int l2), some (.int l3)], [.ref 77, .int l1, .ref 82])) rfl ?_
    refine Ex.getQ rfl (sg_77 hs) rfl ?_
    refine Ex.pure 1 (fr2 := (250, [some (.ref 77), some (.int l1), some (.int l2), some (.int l3)], [.int l2, .ref 82, .int l1, .ref 82])) rfl ?_
    refine Ex.iald rfl (Or.inl rfl) (sg_82 hs) H.1 ?_
    replace H := H.2
    refine Ex.iast rfl (sg_82 hs) H.1 ?_
    replace H := H.2
    obtain ⟨h1, e1⟩ : ∃ z : XH, z = (x_setI h 82 (ix l1) (h.2.1 82 (ix l2))) := ⟨_, rfl⟩
    rw [← e1]
    replace H := H h1 e1
    replace hs : Sg h1.1 y := by rw [e1]; exact hs
    refine Ex.pure 1 (fr2 := (253, [some (.ref 77), some (.int l1), some (.int l2), some (.int l3)], [.ref 77])) rfl ?_
    refine Ex.getQ rfl (sg_77 hs) rfl ?_
    refine Ex.pure 2 (fr2 := (258, [some (.ref 77), some (.int l1), some (.int l2), some (.int l3)], [.ref 77, .int l1, .ref 83])) rfl ?_
    refine Ex.getQ rfl (sg_77 hs) rfl ?_
    refine Ex.pure 1 (fr2 := (262, [some (.ref 77), some (.int l1), some (.int l2), some (.int l3)], [.int l2, .ref 83, .int l1, .ref 83])) rfl ?_
    refine Ex.iald rfl (Or.inl rfl) (sg_83 hs) H.1 ?_
    replace H := H.2
    refine Ex.iast rfl (sg_83 hs) H.1 ?_
    replace H := H.2
    obtain ⟨h2, e2⟩ : ∃ z : XH, z = (x_setI h1 83 (ix l1) (h1.2.1 83 (ix l2))) := ⟨_, rfl⟩
    rw [← e2]
    replace H := H h2 e2
    replace hs : Sg h2.1 y := by rw [e2]; exact hs
    refine Ex.pure 1 (fr2 := (265, [some (.ref 77), some (.int l1), some (.int l2), some (.int l3)], [.ref 77])) rfl ?_
    refine Ex.getQ rfl (sg_77 hs) rfl ?_
    refine Ex.pure 2 (fr2 := (270, [some (.ref 77), some (.int l1), some (.int l2), some (.int l3)], [.int l1, .int l2, .ref 84])) rfl ?_
    refine Ex.iast rfl (sg_84 hs) H.1 ?_
    replace H := H.2
    obtain ⟨h3, e3⟩ : ∃ z : XH, z = (x_setI h2 84 (ix l2) l1) := ⟨_, rfl⟩
    rw [← e3]
    replace H := H h3 e3
    replace hs : Sg h3.1 y := by rw [e3]; exact hs
    refine Ex.pure 1 (fr2 := (274, [some (.ref 77), some (.int (l1 + 1)), some (.int l2), some (.int l3)], [])) rfl ?_
    exact H
  · replace H := H.2 (hb)
    refine Ex.pure 1 (fr2 := (186, [some (.ref 77), some (.int l1), some (.int l2), some (.int l3)], [.ref 77])) rfl ?_
    refine Ex.getQ rfl (sg_77 hs) rfl ?_
    refine Ex.pure 6 (fr2 := (196, [some (.ref 77), some (.int l1), some (.int l2), some (.int l3)], [.ref 77, .int ((8 * l1) + l3), .ref 80])) rfl ?_
    refine Ex.getQ rfl (sg_77 hs) rfl ?_
    refine Ex.pure 1 (fr2 := (200, [some (.ref 77), some (.int l1), some (.int l2), some (.int l3)], [.ref 77, .ref 84, .int ((8 * l1) + l3), .ref 80])) rfl ?_
    refine Ex.getQ rfl (sg_77 hs) rfl ?_
    refine Ex.pure 5 (fr2 := (209, [some (.ref 77), some (.int l1), some (.int l2), some (.int l3)], [.int ((8 * l2) + l3), .ref 80, .ref 84, .int ((8 * l1) + l3), .ref 80])) rfl ?_
    refine Ex.iald rfl (Or.inl rfl) (sg_80 hs) H.1 ?_
    replace H := H.2
    refine Ex.iald rfl (Or.inl rfl) (sg_84 hs) H.1 ?_
    replace H := H.2
    refine Ex.iast rfl (sg_80 hs) H.1 ?_
    replace H := H.2
    obtain ⟨h4, e4⟩ : ∃ z : XH, z = (x_setI h 80 (ix ((8 * l1) + l3)) (h.2.1 84 (ix (h.2.1 80 (ix ((8 * l2) + l3)))))) := ⟨_, rfl⟩
    rw [← e4]
    replace H := H h4 e4
    replace hs : Sg h4.1 y := by rw [e4]; exact hs
    refine Ex.pure 1 (fr2 := (213, [some (.ref 77), some (.int l1), some (.int l2), some (.int l3)], [.ref 77])) rfl ?_
    refine Ex.getQ rfl (sg_77 hs) rfl ?_
    refine Ex.pure 6 (fr2 := (223, [some (.ref 77), some (.int l1), some (.int l2), some (.int l3)], [.ref 77, .int ((8 * l1) + l3), .ref 81])) rfl ?_
    refine Ex.getQ rfl (sg_77 hs) rfl ?_
    refine Ex.pure 5 (fr2 := (232, [some (.ref 77), some (.int l1), some (.int l2), some (.int l3)], [.int ((8 * l2) + l3), .ref 81, .int ((8 * l1) + l3), .ref 81])) rfl ?_
    refine Ex.iald rfl (Or.inl rfl) (sg_81 hs) H.1 ?_
    replace H := H.2
    refine Ex.iast rfl (sg_81 hs) H.1 ?_
    replace H := H.2
    obtain ⟨h5, e5⟩ : ∃ z : XH, z = (x_setI h4 81 (ix ((8 * l1) + l3)) (h4.2.1 81 (ix ((8 * l2) + l3)))) := ⟨_, rfl⟩
    rw [← e5]
    replace H := H h5 e5
    replace hs : Sg h5.1 y := by rw [e5]; exact hs
    refine Ex.pure 2 (fr2 := (175, [some (.ref 77), some (.int l1), some (.int l2), some (.int (l3 + 1))], [])) rfl ?_
    exact H
theorem w_X7_gathers_274 {d : Nat} {h : XH} {y : Nat → Nat} {K : XK} {E : XE} {l1 : Int32} {l2 : Int32} {u3 : Option Value} (hd : 20 ≤ d) (hs : Sg h.1 y) (H : b_X7_gathers_155 d 77 l1 (l2 + 1) (u3) h K E) : b_X7_gathers_274 d 77 l1 l2 u3 h K E := by
  show Ex d [] tb_X7_gathers (274, [some (.ref 77), some (.int l1), some (.int l2), u3], []) h _
  refine Ex.pure 2 (fr2 := (155, [some (.ref 77), some (.int l1), some (.int (l2 + 1)), u3], [])) rfl ?_
  exact H
theorem w_X7_gathers_300 {d : Nat} {h : XH} {y : Nat → Nat} {K : XK} {E : XE} {u1 : Option Int32} {l2 : Int32} {u3 : Option Value} (hd : 20 ≤ d) (hs : Sg h.1 y) (H : (16 ≤ l2 → K none h) ∧ (¬ (16 ≤ l2) → (Ix l2 16 ∧ (¬ (h.2.1 78 (ix l2)) = 1 → (Ix l2 16 ∧ b_X7_gathers_341 d 77 u1 l2 (u3) (h.2.1 79 (ix l2)) l2 79 h K E)) ∧ (¬ (¬ (h.2.1 78 (ix l2)) = 1) → (Ix l2 16 ∧ (Ix (h.2.1 79 (ix l2)) 2000 ∧ b_X7_gathers_341 d 77 u1 l2 (u3) (h.2.1 84 (ix (h.2.1 79 (ix l2)))) l2 79 h K E)))))) : b_X7_gathers_300 d 77 u1 l2 u3 h K E := by
  cases u1 with
  | none =>
    show Ex d [] tb_X7_gathers (300, [some (.ref 77), (xoi none), some (.int l2), u3], []) h _
    refine Ex.pure 2 (fr2 := (303, [some (.ref 77), (xoi none), some (.int l2), u3], [.int 16, .int l2])) rfl ?_
    refine Ex.br (x := (348, [some (.ref 77), (xoi none), some (.int l2), u3], [])) (y := (306, [some (.ref 77), (xoi none), some (.int l2), u3], [])) (b := 16 ≤ l2) rfl (fun hb => ?_) (fun hb => ?_)
    · replace H := H.1 (hb)
      exact Ex.vret rfl H
    · replace H := H.2 (hb)
      refine Ex.pure 1 (fr2 := (307, [some (.ref 77), (xoi none), some (.int l2), u3], [.ref 77])) rfl ?_
      refine Ex.getQ rfl (sg_77 hs) rfl ?_
      refine Ex.pure 2 (fr2 := (312, [some (.ref 77), (xoi none), some (.int l2), u3], [.ref 77, .int l2, .ref 79])) rfl ?_
      refine Ex.getQ rfl (sg_77 hs) rfl ?_
      refine Ex.pure 1 (fr2 := (316, [some (.ref 77), (xoi none), some (.int l2), u3], [.int l2, .ref 78, .int l2, .ref 79])) rfl ?_
      refine Ex.iald rfl (Or.inl rfl) (sg_78 hs) H.1 ?_
      replace H := H.2
      refine Ex.pure 1 (fr2 := (318, [some (.ref 77), (xoi none), some (.int l2), u3], [.int 1, .int (h.2.1 78 (ix l2)), .int l2, .ref 79])) rfl ?_
      refine Ex.br (x := (335, [some (.ref 77), (xoi none), some (.int l2), u3], [.int l2, .ref 79])) (y := (321, [some (.ref 77), (xoi none), some (.int l2), u3], [.int l2, .ref 79])) (b := ¬ (h.2.1 78 (ix l2)) = 1) rfl (fun hb => ?_) (fun hb => ?_)
      · replace H := H.1 (hb)
        refine Ex.pure 1 (fr2 := (336, [some (.ref 77), (xoi none), some (.int l2), u3], [.ref 77, .int l2, .ref 79])) rfl ?_
        refine Ex.getQ rfl (sg_77 hs) rfl ?_
        refine Ex.pure 1 (fr2 := (340, [some (.ref 77), (xoi none), some (.int l2), u3], [.int l2, .ref 79, .int l2, .ref 79])) rfl ?_
        refine Ex.iald rfl (Or.inl rfl) (sg_79 hs) H.1 ?_
        replace H := H.2
        exact H
      · replace H := H.2 (hb)
        refine Ex.pure 1 (fr2 := (322, [some (.ref 77), (xoi none), some (.int l2), u3], [.ref 77, .int l2, .ref 79])) rfl ?_
        refine Ex.getQ rfl (sg_77 hs) rfl ?_
        refine Ex.pure 1 (fr2 := (326, [some (.ref 77), (xoi none), some (.int l2), u3], [.ref 77, .ref 84, .int l2, .ref 79])) rfl ?_
        refine Ex.getQ rfl (sg_77 hs) rfl ?_
        refine Ex.pure 1 (fr2 := (330, [some (.ref 77), (xoi none), some (.int l2), u3], [.int l2, .ref 79, .ref 84, .int l2, .ref 79])) rfl ?_
        refine Ex.iald rfl (Or.inl rfl) (sg_79 hs) H.1 ?_
        replace H := H.2
        refine Ex.iald rfl (Or.inl rfl) (sg_84 hs) H.1 ?_
        replace H := H.2
        refine Ex.pure 1 (fr2 := (341, [some (.ref 77), (xoi none), some (.int l2), u3], [.int (h.2.1 84 (ix (h.2.1 79 (ix l2)))), .int l2, .ref 79])) rfl ?_
        exact H
  | some v1 =>
    show Ex d [] tb_X7_gathers (300, [some (.ref 77), (xoi (some v1)), some (.int l2), u3], []) h _
    refine Ex.pure 2 (fr2 := (303, [some (.ref 77), (xoi (some v1)), some (.int l2), u3], [.int 16, .int l2])) rfl ?_
    refine Ex.br (x := (348, [some (.ref 77), (xoi (some v1)), some (.int l2), u3], [])) (y := (306, [some (.ref 77), (xoi (some v1)), some (.int l2), u3], [])) (b := 16 ≤ l2) rfl (fun hb => ?_) (fun hb => ?_)
    · replace H := H.1 (hb)
      exact Ex.vret rfl H
    · replace H := H.2 (hb)
      refine Ex.pure 1 (fr2 := (307, [some (.ref 77), (xoi (some v1)), some (.int l2), u3], [.ref 77])) rfl ?_
      refine Ex.getQ rfl (sg_77 hs) rfl ?_
      refine Ex.pure 2 (fr2 := (312, [some (.ref 77), (xoi (some v1)), some (.int l2), u3], [.ref 77, .int l2, .ref 79])) rfl ?_
      refine Ex.getQ rfl (sg_77 hs) rfl ?_
      refine Ex.pure 1 (fr2 := (316, [some (.ref 77), (xoi (some v1)), some (.int l2), u3], [.int l2, .ref 78, .int l2, .ref 79])) rfl ?_
      refine Ex.iald rfl (Or.inl rfl) (sg_78 hs) H.1 ?_
      replace H := H.2
      refine Ex.pure 1 (fr2 := (318, [some (.ref 77), (xoi (some v1)), some (.int l2), u3], [.int 1, .int (h.2.1 78 (ix l2)), .int l2, .ref 79])) rfl ?_
      refine Ex.br (x := (335, [some (.ref 77), (xoi (some v1)), some (.int l2), u3], [.int l2, .ref 79])) (y := (321, [some (.ref 77), (xoi (some v1)), some (.int l2), u3], [.int l2, .ref 79])) (b := ¬ (h.2.1 78 (ix l2)) = 1) rfl (fun hb => ?_) (fun hb => ?_)
      · replace H := H.1 (hb)
        refine Ex.pure 1 (fr2 := (336, [some (.ref 77), (xoi (some v1)), some (.int l2), u3], [.ref 77, .int l2, .ref 79])) rfl ?_
        refine Ex.getQ rfl (sg_77 hs) rfl ?_
        refine Ex.pure 1 (fr2 := (340, [some (.ref 77), (xoi (some v1)), some (.int l2), u3], [.int l2, .ref 79, .int l2, .ref 79])) rfl ?_
        refine Ex.iald rfl (Or.inl rfl) (sg_79 hs) H.1 ?_
        replace H := H.2
        exact H
      · replace H := H.2 (hb)
        refine Ex.pure 1 (fr2 := (322, [some (.ref 77), (xoi (some v1)), some (.int l2), u3], [.ref 77, .int l2, .ref 79])) rfl ?_
        refine Ex.getQ rfl (sg_77 hs) rfl ?_
        refine Ex.pure 1 (fr2 := (326, [some (.ref 77), (xoi (some v1)), some (.int l2), u3], [.ref 77, .ref 84, .int l2, .ref 79])) rfl ?_
        refine Ex.getQ rfl (sg_77 hs) rfl ?_
        refine Ex.pure 1 (fr2 := (330, [some (.ref 77), (xoi (some v1)), some (.int l2), u3], [.int l2, .ref 79, .ref 84, .int l2, .ref 79])) rfl ?_
        refine Ex.iald rfl (Or.inl rfl) (sg_79 hs) H.1 ?_
        replace H := H.2
        refine Ex.iald rfl (Or.inl rfl) (sg_84 hs) H.1 ?_
        replace H := H.2
        refine Ex.pure 1 (fr2 := (341, [some (.ref 77), (xoi (some v1)), some (.int l2), u3], [.int (h.2.1 84 (ix (h.2.1 79 (ix l2)))), .int l2, .ref 79])) rfl ?_
        exact H
theorem w_X7_gathers_341 {d : Nat} {h : XH} {y : Nat → Nat} {K : XK} {E : XE} {u1 : Option Int32} {l2 : Int32} {u3 : Option Value} {s0 : Int32} {s1 : Int32} (hd : 20 ≤ d) (hs : Sg h.1 y) (H : (Ix s1 16 ∧ (∀ h1 : XH, h1 = (x_setI h 79 (ix s1) s0) → b_X7_gathers_300 d 77 u1 (l2 + 1) (u3) h1 K E))) : b_X7_gathers_341 d 77 u1 l2 u3 s0 s1 79 h K E := by
  cases u1 with
  | none =>
    show Ex d [] tb_X7_gathers (341, [some (.ref 77), (xoi none), some (.int l2), u3], [.int s0, .int s1, .ref 79]) h _
    refine Ex.iast rfl (sg_79 hs) H.1 ?_
    replace H := H.2
    obtain ⟨h1, e1⟩ : ∃ z : XH, z = (x_setI h 79 (ix s1) s0) := ⟨_, rfl⟩
    rw [← e1]
    replace H := H h1 e1
    replace hs : Sg h1.1 y := by rw [e1]; exact hs
    refine Ex.pure 2 (fr2 := (300, [some (.ref 77), (xoi none), some (.int (l2 + 1)), u3], [])) rfl ?_
    exact H
  | some v1 =>
    show Ex d [] tb_X7_gathers (341, [some (.ref 77), (xoi (some v1)), some (.int l2), u3], [.int s0, .int s1, .ref 79]) h _
    refine Ex.iast rfl (sg_79 hs) H.1 ?_
    replace H := H.2
    obtain ⟨h1, e1⟩ : ∃ z : XH, z = (x_setI h 79 (ix s1) s0) := ⟨_, rfl⟩
    rw [← e1]
    replace H := H h1 e1
    replace hs : Sg h1.1 y := by rw [e1]; exact hs
    refine Ex.pure 2 (fr2 := (300, [some (.ref 77), (xoi (some v1)), some (.int (l2 + 1)), u3], [])) rfl ?_
    exact H
def b_X7_summed_30 (d : Nat) (r_0 : Nat) (l1 : Int32) (l2 : Int32) (l3 : Int64) (l5 : Int32) (l6 : Int32) (h : XH) (K : XK) (E : XE) : Prop := Ex d [] tb_X7_summed (30, [some (.ref r_0), some (.int l1), some (.int l2), some (.long l3), none, some (.int l5), some (.int l6)], []) h (Po K E)
def b_X7_summed_81 (d : Nat) (r_0 : Nat) (l1 : Int32) (l2 : Int32) (l3 : Int64) (l5 : Int32) (l6 : Int32) (h : XH) (K : XK) (E : XE) : Prop := Ex d [] tb_X7_summed (81, [some (.ref r_0), some (.int l1), some (.int l2), some (.long l3), none, some (.int l5), some (.int l6)], []) h (Po K E)
def b_X7_summed_105 (d : Nat) (r_0 : Nat) (l1 : Int32) (l2 : Int32) (u3 : Option Value) (u4 : Option Value) (l5 : Int32) (l6 : Int32) (s0 : Int64) (h : XH) (K : XK) (E : XE) : Prop := Ex d [] tb_X7_summed (105, [some (.ref r_0), some (.int l1), some (.int l2), u3, u4, some (.int l5), some (.int l6)], [.long s0]) h (Po K E)
def b_X7_summed_138 (d : Nat) (r_0 : Nat) (u1 : Option Value) (l2 : Int32) (u3 : Option Value) (u4 : Option Value) (u5 : Option Int32) (l6 : Int32) (h : XH) (K : XK) (E : XE) : Prop := Ex d [] tb_X7_summed (138, [some (.ref r_0), u1, some (.int l2), u3, u4, (xoi u5), some (.int l6)], []) h (Po K E)
theorem w_X7_summed {d : Nat} {h : XH} {y : Nat → Nat} {K : XK} {E : XE} {a : Int32} {b : Int32} (hd : 20 ≤ d) (hs : Sg h.1 y) (H : (¬ b = 0 → (∀ h1 : XH, h1 = (x_setI h 77 11 0) → (Ix (8 * b) 16000 ∧ b_X7_summed_30 d 77 a b 0 (h1.2.1 80 (ix (8 * b))) (8 * a) h1 K E))) ∧ (¬ (¬ b = 0) → K (some (.int a)) h)) : Ca (d + 1) m_X7_summed [.ref 77, .int a, .int b] h K E := by
  refine Ca.of ⟨by show 3 ≤ 7; omega, rfl⟩ ?_
  show Ex d [] tb_X7_summed (0, [some (.ref 77), some (.int a), some (.int b), none, none, none, none], []) h _
  refine Ex.pure 1 (fr2 := (1, [some (.ref 77), some (.int a), some (.int b), none, none, none, none], [.int b])) rfl ?_
  refine Ex.br (x := (6, [some (.ref 77), some (.int a), some (.int b), none, none, none, none], [])) (y := (4, [some (.ref 77), some (.int a), some (.int b), none, none, none, none], [])) (b := ¬ b = 0) rfl (fun hb => ?_) (fun hb => ?_)
  · replace H := H.1 (hb)
    refine Ex.pure 2 (fr2 := (8, [some (.ref 77), some (.int a), some (.int b), none, none, none, none], [.int 0, .ref 77])) rfl ?_
    refine Ex.putI rfl (sg_77 hs) ?_
    obtain ⟨h1, e1⟩ : ∃ z : XH, z = (x_setI h 77 11 0) := ⟨_, rfl⟩
    rw [← e1]
    replace H := H h1 e1
    replace hs : Sg h1.1 y := by rw [e1]; exact hs
    refine Ex.pure 3 (fr2 := (14, [some (.ref 77), some (.int a), some (.int b), some (.long 0), none, none, none], [.ref 77])) rfl ?_
    refine Ex.getQ rfl (sg_77 hs) rfl ?_
    refine Ex.pure 3 (fr2 := (21, [some (.ref 77), some (.int a), some (.int b), some (.long 0), none, none, none], [.int (8 * b), .ref 80])) rfl ?_
    refine Ex.iald rfl (Or.inl rfl) (sg_80 hs) H.1 ?_
    replace H := H.2
    refine Ex.pure 5 (fr2 := (30, [some (.ref 77), some (.int a), some (.int b), some (.long 0), none, some (.int (h1.2.1 80 (ix (8 * b)))), some (.int (8 * a))], [])) rfl ?_
    exact H
  · replace H := H.2 (hb)
    refine Ex.pure 1 (fr2 := (5, [some (.ref 77), some (.int a), some (.int b), none, none, none, none], [.int a])) rfl ?_
    exact Ex.iret rfl (Or.inl rfl) H
theorem w_X7_summed_30 {d : Nat} {h : XH} {y : Nat → Nat} {K : XK} {E : XE} {l1 : Int32} {l2 : Int32} {l3 : Int64} {l5 : Int32} {l6 : Int32} (hd : 20 ≤ d) (hs : Sg h.1 y) (H : (Ix l1 2000 ∧ (((8 * l1) + (h.2.1 82 (ix l1))) ≤ l6 → (Ix (8 * l2) 16000 ∧ (Ca d m_X7_adds [.ref 77, .int l5, .long (l3 + ((h.2.1 81 (ix (8 * l2))) : Int32).toInt64)] h (fun rv h1 => rv = none ∧ Sg h1.1 y ∧ b_X7_summed_138 d 77 (some (.int l1)) l2 (some (.long l3)) none (some l5) ((8 * l2) + 1) h1 K E) E))) ∧ (¬ (((8 * l1) + (h.2.1 82 (ix l1))) ≤ l6) → (Ix l6 16000 ∧ (Ca d m_X7_compared [.ref 77, .int (h.2.1 80 (ix l6)), .int l5] h (fun rv h3 => ∃ x4, rv = some (.int x4) ∧ Sg h3.1 y ∧ (x4 ≤ 0 → b_X7_summed_81 d 77 l1 l2 l3 l5 l6 h3 K E) ∧ (¬ (x4 ≤ 0) → (Ix l6 16000 ∧ (Ix l6 16000 ∧ (Ca d m_X7_adds [.ref 77, .int (h3.2.1 80 (ix l6)), .long (((h3.2.1 81 (ix l6)) : Int32).toInt64)] h3 (fun rv h5 => rv = none ∧ Sg h5.1 y ∧ b_X7_summed_81 d 77 l1 l2 l3 l5 l6 h5 K E) E))))) E))))) : b_X7_summed_30 d 77 l1 l2 l3 l5 l6 h K E := by
  show Ex d [] tb_X7_summed (30, [some (.ref 77), some (.int l1), some (.int l2), some (.long l3), none, some (.int l5), some (.int l6)], []) h _
  refine Ex.pure 5 (fr2 := (37, [some (.ref 77), some (.int l1), some (.int l2), some (.long l3), none, some (.int l5), some (.int l6)], [.ref 77, .int (8 * l1), .int l6])) rfl ?_
  refine Ex.getQ rfl (sg_77 hs) rfl ?_
  refine Ex.pure 1 (fr2 := (41, [some (.ref 77), some (.int l1), some (.int l2), some (.long l3), none, some (.int l5), some (.int l6)], [.int l1, .ref 82, .int (8 * l1), .int l6])) rfl ?_
  refine Ex.iald rfl (Or.inl rfl) (sg_82 hs) H.1 ?_
  replace H := H.2
  refine Ex.pure 1 (fr2 := (43, [some (.ref 77), some (.int l1), some (.int l2), some (.long l3), none, some (.int l5), some (.int l6)], [.int ((8 * l1) + (h.2.1 82 (ix l1))), .int l6])) rfl ?_
  refine Ex.br (x := (112, [some (.ref 77), some (.int l1), some (.int l2), some (.long l3), none, some (.int l5), some (.int l6)], [])) (y := (46, [some (.ref 77), some (.int l1), some (.int l2), some (.long l3), none, some (.int l5), some (.int l6)], [])) (b := ((8 * l1) + (h.2.1 82 (ix l1))) ≤ l6) rfl (fun hb => ?_) (fun hb => ?_)
  · replace H := H.1 (hb)
    refine Ex.pure 4 (fr2 := (117, [some (.ref 77), some (.int l1), some (.int l2), some (.long l3), none, some (.int l5), some (.int l6)], [.ref 77, .long l3, .int l5, .ref 77])) rfl ?_
    refine Ex.getQ rfl (sg_77 hs) rfl ?_
    refine Ex.pure 3 (fr2 := (124, [some (.ref 77), some (.int l1), some (.int l2), some (.long l3), none, some (.int l5), some (.int l6)], [.int (8 * l2), .ref 81, .long l3, .int l5, .ref 77])) rfl ?_
    refine Ex.iald rfl (Or.inl rfl) (sg_81 hs) H.1 ?_
    replace H := H.2
    refine Ex.pure 2 (fr2 := (127, [some (.ref 77), some (.int l1), some (.int l2), some (.long l3), none, some (.int l5), some (.int l6)], [.long (l3 + ((h.2.1 81 (ix (8 * l2))) : Int32).toInt64), .int l5, .ref 77])) rfl ?_
    refine Ex.cal (rest := []) (j := m_X7_adds) (as := [.ref 77, .int l5, .long (l3 + ((h.2.1 81 (ix (8 * l2))) : Int32).toInt64)]) (vst (a := 121) (b := 3) (c := 6) (rest := []) (vs := [.int l5, .long (l3 + ((h.2.1 81 (ix (8 * l2))) : Int32).toInt64)]) rfl ⟨Nat.le_of_ble_eq_true rfl, Nat.le_of_ble_eq_true rfl⟩ rfl rfl (sg_77 hs)) (H.imp ?_)
    intro rv h1 H
    obtain ⟨rfl, H⟩ := H
    obtain ⟨hs, H⟩ := H
    show Ex d [] tb_X7_summed (130, [some (.ref 77), some (.int l1), some (.int l2), some (.long l3), none, some (.int l5), some (.int l6)], []) h1 _
    refine Ex.pure 6 (fr2 := (138, [some (.ref 77), some (.int l1), some (.int l2), some (.long l3), none, some (.int l5), some (.int ((8 * l2) + 1))], [])) rfl ?_
    exact H
  · replace H := H.2 (hb)
    refine Ex.pure 2 (fr2 := (48, [some (.ref 77), some (.int l1), some (.int l2), some (.long l3), none, some (.int l5), some (.int l6)], [.ref 77, .ref 77])) rfl ?_
    refine Ex.getQ rfl (sg_77 hs) rfl ?_
    refine Ex.pure 1 (fr2 := (53, [some (.ref 77), some (.int l1), some (.int l2), some (.long l3), none, some (.int l5), some (.int l6)], [.int l6, .ref 80, .ref 77])) rfl ?_
    refine Ex.iald rfl (Or.inl rfl) (sg_80 hs) H.1 ?_
    replace H := H.2
    refine Ex.pure 1 (fr2 := (56, [some (.ref 77), some (.int l1), some (.int l2), some (.long l3), none, some (.int l5), some (.int l6)], [.int l5, .int (h.2.1 80 (ix l6)), .ref 77])) rfl ?_
    refine Ex.cal (rest := []) (j := m_X7_compared) (as := [.ref 77, .int (h.2.1 80 (ix l6)), .int l5]) (vst (a := 120) (b := 3) (c := 6) (rest := []) (vs := [.int (h.2.1 80 (ix l6)), .int l5]) rfl ⟨Nat.le_of_ble_eq_true rfl, Nat.le_of_ble_eq_true rfl⟩ rfl rfl (sg_77 hs)) (H.imp ?_)
    intro rv h3 H
    obtain ⟨x4, rfl, H⟩ := H
    obtain ⟨hs, H⟩ := H
    show Ex d [] tb_X7_summed (59, [some (.ref 77), some (.int l1), some (.int l2), some (.long l3), none, some (.int l5), some (.int l6)], [.int x4]) h3 _
    refine Ex.br (x := (81, [some (.ref 77), some (.int l1), some (.int l2), some (.long l3), none, some (.int l5), some (.int l6)], [])) (y := (62, [some (.ref 77), some (.int l1), some (.int l2), some (.long l3), none, some (.int l5), some (.int l6)], [])) (b := x4 ≤ 0) rfl (fun hb => ?_) (fun hb => ?_)
    · replace H := H.1 (hb)
      exact H
    · replace H := H.2 (hb)
      refine Ex.pure 2 (fr2 := (64, [some (.ref 77), some (.int l1), some (.int l2), some (.long l3), none, some (.int l5), some (.int l6)], [.ref 77, .ref 77])) rfl ?_
      refine Ex.getQ rfl (sg_77 hs) rfl ?_
      refine Ex.pure 1 (fr2 := (69, [some (.ref 77), some (.int l1), some (.int l2), some (.long l3), none, some (.int l5), some (.int l6)], [.int l6, .ref 80, .ref 77])) rfl ?_
      refine Ex.iald rfl (Or.inl rfl) (sg_80 hs) H.1 ?_
      replace H := H.2
      refine Ex.pure 1 (fr2 := (71, [some (.ref 77), some (.int l1), some (.int l2), some (.long l3), none, some (.int l5), some (.int l6)], [.ref 77, .int (h3.2.1 80 (ix l6)), .ref 77])) rfl ?_
      refine Ex.getQ rfl (sg_77 hs) rfl ?_
      refine Ex.pure 1 (fr2 := (76, [some (.ref 77), some (.int l1), some (.int l2), some (.long l3), none, some (.int l5), some (.int l6)], [.int l6, .ref 81, .int (h3.2.1 80 (ix l6)), .ref 77])) rfl ?_
      refine Ex.iald rfl (Or.inl rfl) (sg_81 hs) H.1 ?_
      replace H := H.2
      refine Ex.pure 1 (fr2 := (78, [some (.ref 77), some (.int l1), some (.int l2), some (.long l3), none, some (.int l5), some (.int l6)], [.long (((h3.2.1 81 (ix l6)) : Int32).toInt64), .int (h3.2.1 80 (ix l6)), .ref 77])) rfl ?_
      refine Ex.cal (rest := []) (j := m_X7_adds) (as := [.ref 77, .int (h3.2.1 80 (ix l6)), .long (((h3.2.1 81 (ix l6)) : Int32).toInt64)]) (vst (a := 121) (b := 3) (c := 6) (rest := []) (vs := [.int (h3.2.1 80 (ix l6)), .long (((h3.2.1 81 (ix l6)) : Int32).toInt64)]) rfl ⟨Nat.le_of_ble_eq_true rfl, Nat.le_of_ble_eq_true rfl⟩ rfl rfl (sg_77 hs)) (H.imp ?_)
      intro rv h5 H
      obtain ⟨rfl, H⟩ := H
      obtain ⟨hs, H⟩ := H
      show Ex d [] tb_X7_summed (81, [some (.ref 77), some (.int l1), some (.int l2), some (.long l3), none, some (.int l5), some (.int l6)], []) h5 _
      exact H
theorem w_X7_summed_81 {d : Nat} {h : XH} {y : Nat → Nat} {K : XK} {E : XE} {l1 : Int32} {l2 : Int32} {l3 : Int64} {l5 : Int32} {l6 : Int32} (hd : 20 ≤ d) (hs : Sg h.1 y) (H : (Ix l6 16000 ∧ (¬ (h.2.1 80 (ix l6)) = l5 → b_X7_summed_105 d 77 l1 l2 (some (.long l3)) none l5 l6 l3 h K E) ∧ (¬ (¬ (h.2.1 80 (ix l6)) = l5) → (Ix l6 16000 ∧ b_X7_summed_105 d 77 l1 l2 (some (.long l3)) none l5 l6 (((h.2.1 81 (ix l6)) : Int32).toInt64) h K E)))) : b_X7_summed_81 d 77 l1 l2 l3 l5 l6 h K E := by
  show Ex d [] tb_X7_summed (81, [some (.ref 77), some (.int l1), some (.int l2), some (.long l3), none, some (.int l5), some (.int l6)], []) h _
  refine Ex.pure 1 (fr2 := (82, [some (.ref 77), some (.int l1), some (.int l2), some (.long l3), none, some (.int l5), some (.int l6)], [.ref 77])) rfl ?_
  refine Ex.getQ rfl (sg_77 hs) rfl ?_
  refine Ex.pure 1 (fr2 := (87, [some (.ref 77), some (.int l1), some (.int l2), some (.long l3), none, some (.int l5), some (.int l6)], [.int l6, .ref 80])) rfl ?_
  refine Ex.iald rfl (Or.inl rfl) (sg_80 hs) H.1 ?_
  replace H := H.2
  refine Ex.pure 1 (fr2 := (90, [some (.ref 77), some (.int l1), some (.int l2), some (.long l3), none, some (.int l5), some (.int l6)], [.int l5, .int (h.2.1 80 (ix l6))])) rfl ?_
  refine Ex.br (x := (104, [some (.ref 77), some (.int l1), some (.int l2), some (.long l3), none, some (.int l5), some (.int l6)], [])) (y := (93, [some (.ref 77), some (.int l1), some (.int l2), some (.long l3), none, some (.int l5), some (.int l6)], [])) (b := ¬ (h.2.1 80 (ix l6)) = l5) rfl (fun hb => ?_) (fun hb => ?_)
  · replace H := H.1 (hb)
    refine Ex.pure 1 (fr2 := (105, [some (.ref 77), some (.int l1), some (.int l2), some (.long l3), none, some (.int l5), some (.int l6)], [.long l3])) rfl ?_
    exact H
  · replace H := H.2 (hb)
    refine Ex.pure 1 (fr2 := (94, [some (.ref 77), some (.int l1), some (.int l2), some (.long l3), none, some (.int l5), some (.int l6)], [.ref 77])) rfl ?_
    refine Ex.getQ rfl (sg_77 hs) rfl ?_
    refine Ex.pure 1 (fr2 := (99, [some (.ref 77), some (.int l1), some (.int l2), some (.long l3), none, some (.int l5), some (.int l6)], [.int l6, .ref 81])) rfl ?_
    refine Ex.iald rfl (Or.inl rfl) (sg_81 hs) H.1 ?_
    replace H := H.2
    refine Ex.pure 2 (fr2 := (105, [some (.ref 77), some (.int l1), some (.int l2), some (.long l3), none, some (.int l5), some (.int l6)], [.long (((h.2.1 81 (ix l6)) : Int32).toInt64)])) rfl ?_
    exact H
theorem w_X7_summed_105 {d : Nat} {h : XH} {y : Nat → Nat} {K : XK} {E : XE} {l1 : Int32} {l2 : Int32} {u3 : Option Value} {u4 : Option Value} {l5 : Int32} {l6 : Int32} {s0 : Int64} (hd : 20 ≤ d) (hs : Sg h.1 y) (H : b_X7_summed_30 d 77 l1 l2 s0 l5 (l6 + 1) h K E) : b_X7_summed_105 d 77 l1 l2 u3 u4 l5 l6 s0 h K E := by
  show Ex d [] tb_X7_summed (105, [some (.ref 77), some (.int l1), some (.int l2), u3, u4, some (.int l5), some (.int l6)], [.long s0]) h _
  refine Ex.pure 3 (fr2 := (30, [some (.ref 77), some (.int l1), some (.int l2), some (.long s0), none, some (.int l5), some (.int (l6 + 1))], [])) rfl ?_
  exact H
theorem w_X7_summed_138 {d : Nat} {h : XH} {y : Nat → Nat} {K : XK} {E : XE} {u1 : Option Value} {l2 : Int32} {u3 : Option Value} {u4 : Option Value} {u5 : Option Int32} {l6 : Int32} (hd : 20 ≤ d) (hs : Sg h.1 y) (H : (Ix l2 2000 ∧ (((8 * l2) + (h.2.1 82 (ix l2))) ≤ l6 → (Ca d m_X7_makes [.ref 77] h (fun rv h1 => ∃ x2, rv = some (.int x2) ∧ Sg h1.1 y ∧ K (some (.int x2)) h1) E)) ∧ (¬ (((8 * l2) + (h.2.1 82 (ix l2))) ≤ l6) → (Ix l6 16000 ∧ (Ix l6 16000 ∧ (Ca d m_X7_adds [.ref 77, .int (h.2.1 80 (ix l6)), .long (((h.2.1 81 (ix l6)) : Int32).toInt64)] h (fun rv h3 => rv = none ∧ Sg h3.1 y ∧ b_X7_summed_138 d 77 (u1) l2 (u3) (u4) u5 (l6 + 1) h3 K E) E)))))) : b_X7_summed_138 d 77 u1 l2 u3 u4 u5 l6 h K E := by
  cases u5 with
  | none =>
    show Ex d [] tb_X7_summed (138, [some (.ref 77), u1, some (.int l2), u3, u4, (xoi none), some (.int l6)], []) h _
    refine Ex.pure 5 (fr2 := (145, [some (.ref 77), u1, some (.int l2), u3, u4, (xoi none), some (.int l6)], [.ref 77, .int (8 * l2), .int l6])) rfl ?_
    refine Ex.getQ rfl (sg_77 hs) rfl ?_
    refine Ex.pure 1 (fr2 := (149, [some (.ref 77), u1, some (.int l2), u3, u4, (xoi none), some (.int l6)], [.int l2, .ref 82, .int (8 * l2), .int l6])) rfl ?_
    refine Ex.iald rfl (Or.inl rfl) (sg_82 hs) H.1 ?_
    replace H := H.2
    refine Ex.pure 1 (fr2 := (151, [some (.ref 77), u1, some (.int l2), u3, u4, (xoi none), some (.int l6)], [.int ((8 * l2) + (h.2.1 82 (ix l2))), .int l6])) rfl ?_
    refine Ex.br (x := (179, [some (.ref 77), u1, some (.int l2), u3, u4, (xoi none), some (.int l6)], [])) (y := (154, [some (.ref 77), u1, some (.int l2), u3, u4, (xoi none), some (.int l6)], [])) (b := ((8 * l2) + (h.2.1 82 (ix l2))) ≤ l6) rfl (fun hb => ?_) (fun hb => ?_)
    · replace H := H.1 (hb)
      refine Ex.pure 1 (fr2 := (180, [some (.ref 77), u1, some (.int l2), u3, u4, (xoi none), some (.int l6)], [.ref 77])) rfl ?_
      refine Ex.cal (rest := []) (j := m_X7_makes) (as := [.ref 77]) (vst (a := 123) (b := 1) (c := 6) (rest := []) (vs := []) rfl ⟨Nat.le_of_ble_eq_true rfl, Nat.le_of_ble_eq_true rfl⟩ rfl rfl (sg_77 hs)) (H.imp ?_)
      intro rv h1 H
      obtain ⟨x2, rfl, H⟩ := H
      obtain ⟨hs, H⟩ := H
      show Ex d [] tb_X7_summed (183, [some (.ref 77), u1, some (.int l2), u3, u4, (xoi none), some (.int l6)], [.int x2]) h1 _
      exact Ex.iret rfl (Or.inl rfl) H
    · replace H := H.2 (hb)
      refine Ex.pure 2 (fr2 := (156, [some (.ref 77), u1, some (.int l2), u3, u4, (xoi none), some (.int l6)], [.ref 77, .ref 77])) rfl ?_
      refine Ex.getQ rfl (sg_77 hs) rfl ?_
      refine Ex.pure 1 (fr2 := (161, [some (.ref 77), u1, some (.int l2), u3, u4, (xoi none), some (.int l6)], [.int l6, .ref 80, .ref 77])) rfl ?_
      refine Ex.iald rfl (Or.inl rfl) (sg_80 hs) H.1 ?_
      replace H := H.2
      refine Ex.pure 1 (fr2 := (163, [some (.ref 77), u1, some (.int l2), u3, u4, (xoi none), some (.int l6)], [.ref 77, .int (h.2.1 80 (ix l6)), .ref 77])) rfl ?_
      refine Ex.getQ rfl (sg_77 hs) rfl ?_
      refine Ex.pure 1 (fr2 := (168, [some (.ref 77), u1, some (.int l2), u3, u4, (xoi none), some (.int l6)], [.int l6, .ref 81, .int (h.2.1 80 (ix l6)), .ref 77])) rfl ?_
      refine Ex.iald rfl (Or.inl rfl) (sg_81 hs) H.1 ?_
      replace H := H.2
      refine Ex.pure 1 (fr2 := (170, [some (.ref 77), u1, some (.int l2), u3, u4, (xoi none), some (.int l6)], [.long (((h.2.1 81 (ix l6)) : Int32).toInt64), .int (h.2.1 80 (ix l6)), .ref 77])) rfl ?_
      refine Ex.cal (rest := []) (j := m_X7_adds) (as := [.ref 77, .int (h.2.1 80 (ix l6)), .long (((h.2.1 81 (ix l6)) : Int32).toInt64)]) (vst (a := 121) (b := 3) (c := 6) (rest := []) (vs := [.int (h.2.1 80 (ix l6)), .long (((h.2.1 81 (ix l6)) : Int32).toInt64)]) rfl ⟨Nat.le_of_ble_eq_true rfl, Nat.le_of_ble_eq_true rfl⟩ rfl rfl (sg_77 hs)) (H.imp ?_)
      intro rv h3 H
      obtain ⟨rfl, H⟩ := H
      obtain ⟨hs, H⟩ := H
      show Ex d [] tb_X7_summed (173, [some (.ref 77), u1, some (.int l2), u3, u4, (xoi none), some (.int l6)], []) h3 _
      refine Ex.pure 2 (fr2 := (138, [some (.ref 77), u1, some (.int l2), u3, u4, (xoi none), some (.int (l6 + 1))], [])) rfl ?_
      exact H
  | some v5 =>
    show Ex d [] tb_X7_summed (138, [some (.ref 77), u1, some (.int l2), u3, u4, (xoi (some v5)), some (.int l6)], []) h _
    refine Ex.pure 5 (fr2 := (145, [some (.ref 77), u1, some (.int l2), u3, u4, (xoi (some v5)), some (.int l6)], [.ref 77, .int (8 * l2), .int l6])) rfl ?_
    refine Ex.getQ rfl (sg_77 hs) rfl ?_
    refine Ex.pure 1 (fr2 := (149, [some (.ref 77), u1, some (.int l2), u3, u4, (xoi (some v5)), some (.int l6)], [.int l2, .ref 82, .int (8 * l2), .int l6])) rfl ?_
    refine Ex.iald rfl (Or.inl rfl) (sg_82 hs) H.1 ?_
    replace H := H.2
    refine Ex.pure 1 (fr2 := (151, [some (.ref 77), u1, some (.int l2), u3, u4, (xoi (some v5)), some (.int l6)], [.int ((8 * l2) + (h.2.1 82 (ix l2))), .int l6])) rfl ?_
    refine Ex.br (x := (179, [some (.ref 77), u1, some (.int l2), u3, u4, (xoi (some v5)), some (.int l6)], [])) (y := (154, [some (.ref 77), u1, some (.int l2), u3, u4, (xoi (some v5)), some (.int l6)], [])) (b := ((8 * l2) + (h.2.1 82 (ix l2))) ≤ l6) rfl (fun hb => ?_) (fun hb => ?_)
    · replace H := H.1 (hb)
      refine Ex.pure 1 (fr2 := (180, [some (.ref 77), u1, some (.int l2), u3, u4, (xoi (some v5)), some (.int l6)], [.ref 77])) rfl ?_
      refine Ex.cal (rest := []) (j := m_X7_makes) (as := [.ref 77]) (vst (a := 123) (b := 1) (c := 6) (rest := []) (vs := []) rfl ⟨Nat.le_of_ble_eq_true rfl, Nat.le_of_ble_eq_true rfl⟩ rfl rfl (sg_77 hs)) (H.imp ?_)
      intro rv h1 H
      obtain ⟨x2, rfl, H⟩ := H
      obtain ⟨hs, H⟩ := H
      show Ex d [] tb_X7_summed (183, [some (.ref 77), u1, some (.int l2), u3, u4, (xoi (some v5)), some (.int l6)], [.int x2]) h1 _
      exact Ex.iret rfl (Or.inl rfl) H
    · replace H := H.2 (hb)
      refine Ex.pure 2 (fr2 := (156, [some (.ref 77), u1, some (.int l2), u3, u4, (xoi (some v5)), some (.int l6)], [.ref 77, .ref 77])) rfl ?_
      refine Ex.getQ rfl (sg_77 hs) rfl ?_
      refine Ex.pure 1 (fr2 := (161, [some (.ref 77), u1, some (.int l2), u3, u4, (xoi (some v5)), some (.int l6)], [.int l6, .ref 80, .ref 77])) rfl ?_
      refine Ex.iald rfl (Or.inl rfl) (sg_80 hs) H.1 ?_
      replace H := H.2
      refine Ex.pure 1 (fr2 := (163, [some (.ref 77), u1, some (.int l2), u3, u4, (xoi (some v5)), some (.int l6)], [.ref 77, .int (h.2.1 80 (ix l6)), .ref 77])) rfl ?_
      refine Ex.getQ rfl (sg_77 hs) rfl ?_
      refine Ex.pure 1 (fr2 := (168, [some (.ref 77), u1, some (.int l2), u3, u4, (xoi (some v5)), some (.int l6)], [.int l6, .ref 81, .int (h.2.1 80 (ix l6)), .ref 77])) rfl ?_
      refine Ex.iald rfl (Or.inl rfl) (sg_81 hs) H.1 ?_
      replace H := H.2
      refine Ex.pure 1 (fr2 := (170, [some (.ref 77), u1, some (.int l2), u3, u4, (xoi (some v5)), some (.int l6)], [.long (((h.2.1 81 (ix l6)) : Int32).toInt64), .int (h.2.1 80 (ix l6)), .ref 77])) rfl ?_
      refine Ex.cal (rest := []) (j := m_X7_adds) (as := [.ref 77, .int (h.2.1 80 (ix l6)), .long (((h.2.1 81 (ix l6)) : Int32).toInt64)]) (vst (a := 121) (b := 3) (c := 6) (rest := []) (vs := [.int (h.2.1 80 (ix l6)), .long (((h.2.1 81 (ix l6)) : Int32).toInt64)]) rfl ⟨Nat.le_of_ble_eq_true rfl, Nat.le_of_ble_eq_true rfl⟩ rfl rfl (sg_77 hs)) (H.imp ?_)
      intro rv h3 H
      obtain ⟨rfl, H⟩ := H
      obtain ⟨hs, H⟩ := H
      show Ex d [] tb_X7_summed (173, [some (.ref 77), u1, some (.int l2), u3, u4, (xoi (some v5)), some (.int l6)], []) h3 _
      refine Ex.pure 2 (fr2 := (138, [some (.ref 77), u1, some (.int l2), u3, u4, (xoi (some v5)), some (.int (l6 + 1))], [])) rfl ?_
      exact H
def b_X7_summedNaturally_16 (d : Nat) (r_0 : Nat) (l1 : Int32) (l2 : Int32) (l3 : Int32) (l4 : Int32) (u5 : Option Value) (h : XH) (K : XK) (E : XE) : Prop := Ex d [] tb_X7_summedNaturally (16, [some (.ref r_0), some (.int l1), some (.int l2), some (.int l3), some (.int l4), u5], []) h (Po K E)
def b_X7_summedNaturally_47 (d : Nat) (r_0 : Nat) (l1 : Int32) (l2 : Int32) (l3 : Int32) (l4 : Int32) (u5 : Option Value) (h : XH) (K : XK) (E : XE) : Prop := Ex d [] tb_X7_summedNaturally (47, [some (.ref r_0), some (.int l1), some (.int l2), some (.int l3), some (.int l4), u5], []) h (Po K E)
def b_X7_summedNaturally_103 (d : Nat) (r_0 : Nat) (l1 : Int32) (l2 : Int32) (l3 : Int32) (l4 : Int32) (u5 : Option Value) (s0 : Int32) (h : XH) (K : XK) (E : XE) : Prop := Ex d [] tb_X7_summedNaturally (103, [some (.ref r_0), some (.int l1), some (.int l2), some (.int l3), some (.int l4), u5], [.int s0]) h (Po K E)
def b_X7_summedNaturally_183 (d : Nat) (r_0 : Nat) (l1 : Int32) (l2 : Int32) (l3 : Int32) (l4 : Int32) (l5 : Int32) (h : XH) (K : XK) (E : XE) : Prop := Ex d [] tb_X7_summedNaturally (183, [some (.ref r_0), some (.int l1), some (.int l2), some (.int l3), some (.int l4), some (.int l5)], []) h (Po K E)
def b_X7_summedNaturally_194 (d : Nat) (r_0 : Nat) (l1 : Int32) (l2 : Int32) (u3 : Option Value) (l4 : Int32) (l5 : Int32) (s0 : Int32) (s1 : Int32) (h : XH) (K : XK) (E : XE) : Prop := Ex d [] tb_X7_summedNaturally (194, [some (.ref r_0), some (.int l1), some (.int l2), u3, some (.int l4), some (.int l5)], [.int s0, .int s1]) h (Po K E)
def b_X7_summedNaturally_208 (d : Nat) (r_0 : Nat) (l1 : Int32) (l2 : Int32) (l3 : Int32) (u4 : Option Value) (u5 : Option Value) (s0 : Int32) (s1 : Int32) (h : XH) (K : XK) (E : XE) : Prop := Ex d [] tb_X7_summedNaturally (208, [some (.ref r_0), some (.int l1), some (.int l2), some (.int l3), u4, u5], [.int s0, .int s1]) h (Po K E)
theorem w_X7_summedNaturally {d : Nat} {h : XH} {y : Nat → Nat} {K : XK} {E : XE} {a : Int32} {b : Int32} (hd : 20 ≤ d) (hs : Sg h.1 y) (H : (∀ h1 : XH, h1 = (x_setI h 77 11 0) → b_X7_summedNaturally_16 d 77 a b (8 * a) (8 * b) none h1 K E)) : Ca (d + 1) m_X7_summedNaturally [.ref 77, .int a, .int b] h K E := by
  refine Ca.of ⟨by show 3 ≤ 6; omega, rfl⟩ ?_
  show Ex d [] tb_X7_summedNaturally (0, [some (.ref 77), some (.int a), some (.int b), none, none, none], []) h _
  refine Ex.pure 2 (fr2 := (2, [some (.ref 77), some (.int a), some (.int b), none, none, none], [.int 0, .ref 77])) rfl ?_
  refine Ex.putI rfl (sg_77 hs) ?_
  obtain ⟨h1, e1⟩ : ∃ z : XH, z = (x_setI h 77 11 0) := ⟨_, rfl⟩
  rw [← e1]
  replace H := H h1 e1
  replace hs : Sg h1.1 y := by rw [e1]; exact hs
  refine Ex.pure 8 (fr2 := (16, [some (.ref 77), some (.int a), some (.int b), some (.int (8 * a)), some (.int (8 * b)), none], [])) rfl ?_
  exact H
theorem w_X7_summedNaturally_16 {d : Nat} {h : XH} {y : Nat → Nat} {K : XK} {E : XE} {l1 : Int32} {l2 : Int32} {l3 : Int32} {l4 : Int32} {u5 : Option Value} (hd : 20 ≤ d) (hs : Sg h.1 y) (H : (Ix l1 2000 ∧ (l3 < ((8 * l1) + (h.2.1 82 (ix l1))) → b_X7_summedNaturally_47 d 77 l1 l2 l3 l4 (u5) h K E) ∧ (¬ (l3 < ((8 * l1) + (h.2.1 82 (ix l1)))) → (Ix l2 2000 ∧ (((8 * l2) + (h.2.1 82 (ix l2))) ≤ l4 → (Ca d m_X7_makes [.ref 77] h (fun rv h1 => ∃ x2, rv = some (.int x2) ∧ Sg h1.1 y ∧ K (some (.int x2)) h1) E)) ∧ (¬ (((8 * l2) + (h.2.1 82 (ix l2))) ≤ l4) → b_X7_summedNaturally_47 d 77 l1 l2 l3 l4 (u5) h K E))))) : b_X7_summedNaturally_16 d 77 l1 l2 l3 l4 u5 h K E := by
  show Ex d [] tb_X7_summedNaturally (16, [some (.ref 77), some (.int l1), some (.int l2), some (.int l3), some (.int l4), u5], []) h _
  refine Ex.pure 5 (fr2 := (22, [some (.ref 77), some (.int l1), some (.int l2), some (.int l3), some (.int l4), u5], [.ref 77, .int (8 * l1), .int l3])) rfl ?_
  refine Ex.getQ rfl (sg_77 hs) rfl ?_
  refine Ex.pure 1 (fr2 := (26, [some (.ref 77), some (.int l1), some (.int l2), some (.int l3), some (.int l4), u5], [.int l1, .ref 82, .int (8 * l1), .int l3])) rfl ?_
  refine Ex.iald rfl (Or.inl rfl) (sg_82 hs) H.1 ?_
  replace H := H.2
  refine Ex.pure 1 (fr2 := (28, [some (.ref 77), some (.int l1), some (.int l2), some (.int l3), some (.int l4), u5], [.int ((8 * l1) + (h.2.1 82 (ix l1))), .int l3])) rfl ?_
  refine Ex.br (x := (47, [some (.ref 77), some (.int l1), some (.int l2), some (.int l3), some (.int l4), u5], [])) (y := (31, [some (.ref 77), some (.int l1), some (.int l2), some (.int l3), some (.int l4), u5], [])) (b := l3 < ((8 * l1) + (h.2.1 82 (ix l1)))) rfl (fun hb => ?_) (fun hb => ?_)
  · replace H := H.1 (hb)
    exact H
  · replace H := H.2 (hb)
    refine Ex.pure 5 (fr2 := (38, [some (.ref 77), some (.int l1), some (.int l2), some (.int l3), some (.int l4), u5], [.ref 77, .int (8 * l2), .int l4])) rfl ?_
    refine Ex.getQ rfl (sg_77 hs) rfl ?_
    refine Ex.pure 1 (fr2 := (42, [some (.ref 77), some (.int l1), some (.int l2), some (.int l3), some (.int l4), u5], [.int l2, .ref 82, .int (8 * l2), .int l4])) rfl ?_
    refine Ex.iald rfl (Or.inl rfl) (sg_82 hs) H.1 ?_
    replace H := H.2
    refine Ex.pure 1 (fr2 := (44, [some (.ref 77), some (.int l1), some (.int l2), some (.int l3), some (.int l4), u5], [.int ((8 * l2) + (h.2.1 82 (ix l2))), .int l4])) rfl ?_
    refine Ex.br (x := (214, [some (.ref 77), some (.int l1), some (.int l2), some (.int l3), some (.int l4), u5], [])) (y := (47, [some (.ref 77), some (.int l1), some (.int l2), some (.int l3), some (.int l4), u5], [])) (b := ((8 * l2) + (h.2.1 82 (ix l2))) ≤ l4) rfl (fun hb => ?_) (fun hb => ?_)
    · replace H := H.1 (hb)
      refine Ex.pure 1 (fr2 := (215, [some (.ref 77), some (.int l1), some (.int l2), some (.int l3), some (.int l4), u5], [.ref 77])) rfl ?_
      refine Ex.cal (rest := []) (j := m_X7_makes) (as := [.ref 77]) (vst (a := 123) (b := 1) (c := 6) (rest := []) (vs := []) rfl ⟨Nat.le_of_ble_eq_true rfl, Nat.le_of_ble_eq_true rfl⟩ rfl rfl (sg_77 hs)) (H.imp ?_)
      intro rv h1 H
      obtain ⟨x2, rfl, H⟩ := H
      obtain ⟨hs, H⟩ := H
      show Ex d [] tb_X7_summedNaturally (218, [some (.ref 77), some (.int l1), some (.int l2), some (.int l3), some (.int l4), u5], [.int x2]) h1 _
      exact Ex.iret rfl (Or.inl rfl) H
    · replace H := H.2 (hb)
      exact H
theorem w_X7_summedNaturally_47 {d : Nat} {h : XH} {y : Nat → Nat} {K : XK} {E : XE} {l1 : Int32} {l2 : Int32} {l3 : Int32} {l4 : Int32} {u5 : Option Value} (hd : 20 ≤ d) (hs : Sg h.1 y) (H : (Ix l1 2000 ∧ (¬ l3 = ((8 * l1) + (h.2.1 82 (ix l1))) → (Ix l2 2000 ∧ (¬ l4 = ((8 * l2) + (h.2.1 82 (ix l2))) → (Ix l3 16000 ∧ (Ix l4 16000 ∧ (Ca d m_X7_compared [.ref 77, .int (h.2.1 80 (ix l3)), .int (h.2.1 80 (ix l4))] h (fun rv h1 => ∃ x2, rv = some (.int x2) ∧ Sg h1.1 y ∧ b_X7_summedNaturally_103 d 77 l1 l2 l3 l4 (u5) x2 h1 K E) E)))) ∧ (¬ (¬ l4 = ((8 * l2) + (h.2.1 82 (ix l2)))) → b_X7_summedNaturally_103 d 77 l1 l2 l3 l4 (u5) 1 h K E))) ∧ (¬ (¬ l3 = ((8 * l1) + (h.2.1 82 (ix l1)))) → b_X7_summedNaturally_103 d 77 l1 l2 l3 l4 (u5) (-1) h K E))) : b_X7_summedNaturally_47 d 77 l1 l2 l3 l4 u5 h K E := by
  show Ex d [] tb_X7_summedNaturally (47, [some (.ref 77), some (.int l1), some (.int l2), some (.int l3), some (.int l4), u5], []) h _
  refine Ex.pure 5 (fr2 := (53, [some (.ref 77), some (.int l1), some (.int l2), some (.int l3), some (.int l4), u5], [.ref 77, .int (8 * l1), .int l3])) rfl ?_
  refine Ex.getQ rfl (sg_77 hs) rfl ?_
  refine Ex.pure 1 (fr2 := (57, [some (.ref 77), some (.int l1), some (.int l2), some (.int l3), some (.int l4), u5], [.int l1, .ref 82, .int (8 * l1), .int l3])) rfl ?_
  refine Ex.iald rfl (Or.inl rfl) (sg_82 hs) H.1 ?_
  replace H := H.2
  refine Ex.pure 1 (fr2 := (59, [some (.ref 77), some (.int l1), some (.int l2), some (.int l3), some (.int l4), u5], [.int ((8 * l1) + (h.2.1 82 (ix l1))), .int l3])) rfl ?_
  refine Ex.br (x := (66, [some (.ref 77), some (.int l1), some (.int l2), some (.int l3), some (.int l4), u5], [])) (y := (62, [some (.ref 77), some (.int l1), some (.int l2), some (.int l3), some (.int l4), u5], [])) (b := ¬ l3 = ((8 * l1) + (h.2.1 82 (ix l1)))) rfl (fun hb => ?_) (fun hb => ?_)
  · replace H := H.1 (hb)
    refine Ex.pure 5 (fr2 := (73, [some (.ref 77), some (.int l1), some (.int l2), some (.int l3), some (.int l4), u5], [.ref 77, .int (8 * l2), .int l4])) rfl ?_
    refine Ex.getQ rfl (sg_77 hs) rfl ?_
    refine Ex.pure 1 (fr2 := (77, [some (.ref 77), some (.int l1), some (.int l2), some (.int l3), some (.int l4), u5], [.int l2, .ref 82, .int (8 * l2), .int l4])) rfl ?_
    refine Ex.iald rfl (Or.inl rfl) (sg_82 hs) H.1 ?_
    replace H := H.2
    refine Ex.pure 1 (fr2 := (79, [some (.ref 77), some (.int l1), some (.int l2), some (.int l3), some (.int l4), u5], [.int ((8 * l2) + (h.2.1 82 (ix l2))), .int l4])) rfl ?_
    refine Ex.br (x := (86, [some (.ref 77), some (.int l1), some (.int l2), some (.int l3), some (.int l4), u5], [])) (y := (82, [some (.ref 77), some (.int l1), some (.int l2), some (.int l3), some (.int l4), u5], [])) (b := ¬ l4 = ((8 * l2) + (h.2.1 82 (ix l2)))) rfl (fun hb => ?_) (fun hb => ?_)
    · replace H := H.1 (hb)
      refine Ex.pure 2 (fr2 := (88, [some (.ref 77), some (.int l1), some (.int l2), some (.int l3), some (.int l4), u5], [.ref 77, .ref 77])) rfl ?_
      refine Ex.getQ rfl (sg_77 hs) rfl ?_
      refine Ex.pure 1 (fr2 := (92, [some (.ref 77), some (.int l1), some (.int l2), some (.int l3), some (.int l4), u5], [.int l3, .ref 80, .ref 77])) rfl ?_
      refine Ex.iald rfl (Or.inl rfl) (sg_80 hs) H.1 ?_
      replace H := H.2
      refine Ex.pure 1 (fr2 := (94, [some (.ref 77), some (.int l1), some (.int l2), some (.int l3), some (.int l4), u5], [.ref 77, .int (h.2.1 80 (ix l3)), .ref 77])) rfl ?_
      refine Ex.getQ rfl (sg_77 hs) rfl ?_
      refine Ex.pure 1 (fr2 := (99, [some (.ref 77), some (.int l1), some (.int l2), some (.int l3), some (.int l4), u5], [.int l4, .ref 80, .int (h.2.1 80 (ix l3)), .ref 77])) rfl ?_
      refine Ex.iald rfl (Or.inl rfl) (sg_80 hs) H.1 ?_
      replace H := H.2
      refine Ex.cal (rest := []) (j := m_X7_compared) (as := [.ref 77, .int (h.2.1 80 (ix l3)), .int (h.2.1 80 (ix l4))]) (vst (a := 120) (b := 3) (c := 6) (rest := []) (vs := [.int (h.2.1 80 (ix l3)), .int (h.2.1 80 (ix l4))]) rfl ⟨Nat.le_of_ble_eq_true rfl, Nat.le_of_ble_eq_true rfl⟩ rfl rfl (sg_77 hs)) (H.imp ?_)
      intro rv h1 H
      obtain ⟨x2, rfl, H⟩ := H
      obtain ⟨hs, H⟩ := H
      show Ex d [] tb_X7_summedNaturally (103, [some (.ref 77), some (.int l1), some (.int l2), some (.int l3), some (.int l4), u5], [.int x2]) h1 _
      exact H
    · replace H := H.2 (hb)
      refine Ex.pure 2 (fr2 := (103, [some (.ref 77), some (.int l1), some (.int l2), some (.int l3), some (.int l4), u5], [.int 1])) rfl ?_
      exact H
  · replace H := H.2 (hb)
    refine Ex.pure 2 (fr2 := (103, [some (.ref 77), some (.int l1), some (.int l2), some (.int l3), some (.int l4), u5], [.int (-1)])) rfl ?_
    exact H
theorem w_X7_summedNaturally_103 {d : Nat} {h : XH} {y : Nat → Nat} {K : XK} {E : XE} {l1 : Int32} {l2 : Int32} {l3 : Int32} {l4 : Int32} {u5 : Option Value} {s0 : Int32} (hd : 20 ≤ d) (hs : Sg h.1 y) (H : (s0 ≤ 0 → (0 ≤ s0 → (Ix l3 16000 ∧ (Ix l3 16000 ∧ (Ix l4 16000 ∧ (Ca d m_X7_adds [.ref 77, .int (h.2.1 80 (ix l3)), .long (((h.2.1 81 (ix l3)) : Int32).toInt64 + ((h.2.1 81 (ix l4)) : Int32).toInt64)] h (fun rv h1 => rv = none ∧ Sg h1.1 y ∧ b_X7_summedNaturally_183 d 77 l1 l2 l3 l4 s0 h1 K E) E))))) ∧ (¬ (0 ≤ s0) → (Ix l4 16000 ∧ (Ix l4 16000 ∧ (Ca d m_X7_adds [.ref 77, .int (h.2.1 80 (ix l4)), .long (((h.2.1 81 (ix l4)) : Int32).toInt64)] h (fun rv h3 => rv = none ∧ Sg h3.1 y ∧ b_X7_summedNaturally_183 d 77 l1 l2 l3 l4 s0 h3 K E) E))))) ∧ (¬ (s0 ≤ 0) → (Ix l3 16000 ∧ (Ix l3 16000 ∧ (Ca d m_X7_adds [.ref 77, .int (h.2.1 80 (ix l3)), .long (((h.2.1 81 (ix l3)) : Int32).toInt64)] h (fun rv h5 => rv = none ∧ Sg h5.1 y ∧ b_X7_summedNaturally_183 d 77 l1 l2 l3 l4 s0 h5 K E) E))))) : b_X7_summedNaturally_103 d 77 l1 l2 l3 l4 u5 s0 h K E := by
  show Ex d [] tb_X7_summedNaturally (103, [some (.ref 77), some (.int l1), some (.int l2), some (.int l3), some (.int l4), u5], [.int s0]) h _
  refine Ex.pure 2 (fr2 := (107, [some (.ref 77), some (.int l1), some (.int l2), some (.int l3), some (.int l4), some (.int s0)], [.int s0])) rfl ?_
  refine Ex.br (x := (130, [some (.ref 77), some (.int l1), some (.int l2), some (.int l3), some (.int l4), some (.int s0)], [])) (y := (110, [some (.ref 77), some (.int l1), some (.int l2), some (.int l3), some (.int l4), some (.int s0)], [])) (b := s0 ≤ 0) rfl (fun hb => ?_) (fun hb => ?_)
  · replace H := H.1 (hb)
    refine Ex.pure 1 (fr2 := (132, [some (.ref 77), some (.int l1), some (.int l2), some (.int l3), some (.int l4), some (.int s0)], [.int s0])) rfl ?_
    refine Ex.br (x := (157, [some (.ref 77), some (.int l1), some (.int l2), some (.int l3), some (.int l4), some (.int s0)], [])) (y := (135, [some (.ref 77), some (.int l1), some (.int l2), some (.int l3), some (.int l4), some (.int s0)], [])) (b := 0 ≤ s0) rfl (fun hb => ?_) (fun hb => ?_)
    · replace H := H.1 (hb)
      refine Ex.pure 2 (fr2 := (159, [some (.ref 77), some (.int l1), some (.int l2), some (.int l3), some (.int l4), some (.int s0)], [.ref 77, .ref 77])) rfl ?_
      refine Ex.getQ rfl (sg_77 hs) rfl ?_
      refine Ex.pure 1 (fr2 := (163, [some (.ref 77), some (.int l1), some (.int l2), some (.int l3), some (.int l4), some (.int s0)], [.int l3, .ref 80, .ref 77])) rfl ?_
      refine Ex.iald rfl (Or.inl rfl) (sg_80 hs) H.1 ?_
      replace H := H.2
      refine Ex.pure 1 (fr2 := (165, [some (.ref 77), some (.int l1), some (.int l2), some (.int l3), some (.int l4), some (.int s0)], [.ref 77, .int (h.2.1 80 (ix l3)), .ref 77])) rfl ?_
      refine Ex.getQ rfl (sg_77 hs) rfl ?_
      refine Ex.pure 1 (fr2 := (169, [some (.ref 77), some (.int l1), some (.int l2), some (.int l3), some (.int l4), some (.int s0)], [.int l3, .ref 81, .int (h.2.1 80 (ix l3)), .ref 77])) rfl ?_
      refine Ex.iald rfl (Or.inl rfl) (sg_81 hs) H.1 ?_
      replace H := H.2
      refine Ex.pure 2 (fr2 := (172, [some (.ref 77), some (.int l1), some (.int l2), some (.int l3), some (.int l4), some (.int s0)], [.ref 77, .long (((h.2.1 81 (ix l3)) : Int32).toInt64), .int (h.2.1 80 (ix l3)), .ref 77])) rfl ?_
      refine Ex.getQ rfl (sg_77 hs) rfl ?_
      refine Ex.pure 1 (fr2 := (177, [some (.ref 77), some (.int l1), some (.int l2), some (.int l3), some (.int l4), some (.int s0)], [.int l4, .ref 81, .long (((h.2.1 81 (ix l3)) : Int32).toInt64), .int (h.2.1 80 (ix l3)), .ref 77])) rfl ?_
      refine Ex.iald rfl (Or.inl rfl) (sg_81 hs) H.1 ?_
      replace H := H.2
      refine Ex.pure 2 (fr2 := (180, [some (.ref 77), some (.int l1), some (.int l2), some (.int l3), some (.int l4), some (.int s0)], [.long (((h.2.1 81 (ix l3)) : Int32).toInt64 + ((h.2.1 81 (ix l4)) : Int32).toInt64), .int (h.2.1 80 (ix l3)), .ref 77])) rfl ?_
      refine Ex.cal (rest := []) (j := m_X7_adds) (as := [.ref 77, .int (h.2.1 80 (ix l3)), .long (((h.2.1 81 (ix l3)) : Int32).toInt64 + ((h.2.1 81 (ix l4)) : Int32).toInt64)]) (vst (a := 121) (b := 3) (c := 6) (rest := []) (vs := [.int (h.2.1 80 (ix l3)), .long (((h.2.1 81 (ix l3)) : Int32).toInt64 + ((h.2.1 81 (ix l4)) : Int32).toInt64)]) rfl ⟨Nat.le_of_ble_eq_true rfl, Nat.le_of_ble_eq_true rfl⟩ rfl rfl (sg_77 hs)) (H.imp ?_)
      intro rv h1 H
      obtain ⟨rfl, H⟩ := H
      obtain ⟨hs, H⟩ := H
      show Ex d [] tb_X7_summedNaturally (183, [some (.ref 77), some (.int l1), some (.int l2), some (.int l3), some (.int l4), some (.int s0)], []) h1 _
      exact H
    · replace H := H.2 (hb)
      refine Ex.pure 2 (fr2 := (137, [some (.ref 77), some (.int l1), some (.int l2), some (.int l3), some (.int l4), some (.int s0)], [.ref 77, .ref 77])) rfl ?_
      refine Ex.getQ rfl (sg_77 hs) rfl ?_
      refine Ex.pure 1 (fr2 := (142, [some (.ref 77), some (.int l1), some (.int l2), some (.int l3), some (.int l4), some (.int s0)], [.int l4, .ref 80, .ref 77])) rfl ?_
      refine Ex.iald rfl (Or.inl rfl) (sg_80 hs) H.1 ?_
      replace H := H.2
      refine Ex.pure 1 (fr2 := (144, [some (.ref 77), some (.int l1), some (.int l2), some (.int l3), some (.int l4), some (.int s0)], [.ref 77, .int (h.2.1 80 (ix l4)), .ref 77])) rfl ?_
      refine Ex.getQ rfl (sg_77 hs) rfl ?_
      refine Ex.pure 1 (fr2 := (149, [some (.ref 77), some (.int l1), some (.int l2), some (.int l3), some (.int l4), some (.int s0)], [.int l4, .ref 81, .int (h.2.1 80 (ix l4)), .ref 77])) rfl ?_
      refine Ex.iald rfl (Or.inl rfl) (sg_81 hs) H.1 ?_
      replace H := H.2
      refine Ex.pure 1 (fr2 := (151, [some (.ref 77), some (.int l1), some (.int l2), some (.int l3), some (.int l4), some (.int s0)], [.long (((h.2.1 81 (ix l4)) : Int32).toInt64), .int (h.2.1 80 (ix l4)), .ref 77])) rfl ?_
      refine Ex.cal (rest := []) (j := m_X7_adds) (as := [.ref 77, .int (h.2.1 80 (ix l4)), .long (((h.2.1 81 (ix l4)) : Int32).toInt64)]) (vst (a := 121) (b := 3) (c := 6) (rest := []) (vs := [.int (h.2.1 80 (ix l4)), .long (((h.2.1 81 (ix l4)) : Int32).toInt64)]) rfl ⟨Nat.le_of_ble_eq_true rfl, Nat.le_of_ble_eq_true rfl⟩ rfl rfl (sg_77 hs)) (H.imp ?_)
      intro rv h3 H
      obtain ⟨rfl, H⟩ := H
      obtain ⟨hs, H⟩ := H
      show Ex d [] tb_X7_summedNaturally (154, [some (.ref 77), some (.int l1), some (.int l2), some (.int l3), some (.int l4), some (.int s0)], []) h3 _
      refine Ex.pure 1 (fr2 := (183, [some (.ref 77), some (.int l1), some (.int l2), some (.int l3), some (.int l4), some (.int s0)], [])) rfl ?_
      exact H
  · replace H := H.2 (hb)
    refine Ex.pure 2 (fr2 := (112, [some (.ref 77), some (.int l1), some (.int l2), some (.int l3), some (.int l4), some (.int s0)], [.ref 77, .ref 77])) rfl ?_
    refine Ex.getQ rfl (sg_77 hs) rfl ?_
    refine Ex.pure 1 (fr2 := (116, [some (.ref 77), some (.int l1), some (.int l2), some (.int l3), some (.int l4), some (.int s0)], [.int l3, .ref 80, .ref 77])) rfl ?_
    refine Ex.iald rfl (Or.inl rfl) (sg_80 hs) H.1 ?_
    replace H := H.2
    refine Ex.pure 1 (fr2 := (118, [some (.ref 77), some (.int l1), some (.int l2), some (.int l3), some (.int l4), some (.int s0)], [.ref 77, .int (h.2.1 80 (ix l3)), .ref 77])) rfl ?_
    refine Ex.getQ rfl (sg_77 hs) rfl ?_
    refine Ex.pure 1 (fr2 := (122, [some (.ref 77), some (.int l1), some (.int l2), some (.int l3), some (.int l4), some (.int s0)], [.int l3, .ref 81, .int (h.2.1 80 (ix l3)), .ref 77])) rfl ?_
    refine Ex.iald rfl (Or.inl rfl) (sg_81 hs) H.1 ?_
    replace H := H.2
    refine Ex.pure 1 (fr2 := (124, [some (.ref 77), some (.int l1), some (.int l2), some (.int l3), some (.int l4), some (.int s0)], [.long (((h.2.1 81 (ix l3)) : Int32).toInt64), .int (h.2.1 80 (ix l3)), .ref 77])) rfl ?_
    refine Ex.cal (rest := []) (j := m_X7_adds) (as := [.ref 77, .int (h.2.1 80 (ix l3)), .long (((h.2.1 81 (ix l3)) : Int32).toInt64)]) (vst (a := 121) (b := 3) (c := 6) (rest := []) (vs := [.int (h.2.1 80 (ix l3)), .long (((h.2.1 81 (ix l3)) : Int32).toInt64)]) rfl ⟨Nat.le_of_ble_eq_true rfl, Nat.le_of_ble_eq_true rfl⟩ rfl rfl (sg_77 hs)) (H.imp ?_)
    intro rv h5 H
    obtain ⟨rfl, H⟩ := H
    obtain ⟨hs, H⟩ := H
    show Ex d [] tb_X7_summedNaturally (127, [some (.ref 77), some (.int l1), some (.int l2), some (.int l3), some (.int l4), some (.int s0)], []) h5 _
    refine Ex.pure 1 (fr2 := (183, [some (.ref 77), some (.int l1), some (.int l2), some (.int l3), some (.int l4), some (.int s0)], [])) rfl ?_
    exact H
theorem w_X7_summedNaturally_183 {d : Nat} {h : XH} {y : Nat → Nat} {K : XK} {E : XE} {l1 : Int32} {l2 : Int32} {l3 : Int32} {l4 : Int32} {l5 : Int32} (hd : 20 ≤ d) (hs : Sg h.1 y) (H : (l5 < 0 → b_X7_summedNaturally_194 d 77 l1 l2 (some (.int l3)) l4 l5 0 l3 h K E) ∧ (¬ (l5 < 0) → b_X7_summedNaturally_194 d 77 l1 l2 (some (.int l3)) l4 l5 1 l3 h K E)) : b_X7_summedNaturally_183 d 77 l1 l2 l3 l4 l5 h K E := by
  show Ex d [] tb_X7_summedNaturally (183, [some (.ref 77), some (.int l1), some (.int l2), some (.int l3), some (.int l4), some (.int l5)], []) h _
  refine Ex.pure 2 (fr2 := (186, [some (.ref 77), some (.int l1), some (.int l2), some (.int l3), some (.int l4), some (.int l5)], [.int l5, .int l3])) rfl ?_
  refine Ex.br (x := (193, [some (.ref 77), some (.int l1), some (.int l2), some (.int l3), some (.int l4), some (.int l5)], [.int l3])) (y := (189, [some (.ref 77), some (.int l1), some (.int l2), some (.int l3), some (.int l4), some (.int l5)], [.int l3])) (b := l5 < 0) rfl (fun hb => ?_) (fun hb => ?_)
  · replace H := H.1 (hb)
    refine Ex.pure 1 (fr2 := (194, [some (.ref 77), some (.int l1), some (.int l2), some (.int l3), some (.int l4), some (.int l5)], [.int 0, .int l3])) rfl ?_
    exact H
  · replace H := H.2 (hb)
    refine Ex.pure 2 (fr2 := (194, [some (.ref 77), some (.int l1), some (.int l2), some (.int l3), some (.int l4), some (.int l5)], [.int 1, .int l3])) rfl ?_
    exact H
theorem w_X7_summedNaturally_194 {d : Nat} {h : XH} {y : Nat → Nat} {K : XK} {E : XE} {l1 : Int32} {l2 : Int32} {u3 : Option Value} {l4 : Int32} {l5 : Int32} {s0 : Int32} {s1 : Int32} (hd : 20 ≤ d) (hs : Sg h.1 y) (H : (0 < l5 → b_X7_summedNaturally_208 d 77 l1 l2 (s1 + s0) (some (.int l4)) (some (.int l5)) 0 l4 h K E) ∧ (¬ (0 < l5) → b_X7_summedNaturally_208 d 77 l1 l2 (s1 + s0) (some (.int l4)) (some (.int l5)) 1 l4 h K E)) : b_X7_summedNaturally_194 d 77 l1 l2 u3 l4 l5 s0 s1 h K E := by
  show Ex d [] tb_X7_summedNaturally (194, [some (.ref 77), some (.int l1), some (.int l2), u3, some (.int l4), some (.int l5)], [.int s0, .int s1]) h _
  refine Ex.pure 4 (fr2 := (200, [some (.ref 77), some (.int l1), some (.int l2), some (.int (s1 + s0)), some (.int l4), some (.int l5)], [.int l5, .int l4])) rfl ?_
  refine Ex.br (x := (207, [some (.ref 77), some (.int l1), some (.int l2), some (.int (s1 + s0)), some (.int l4), some (.int l5)], [.int l4])) (y := (203, [some (.ref 77), some (.int l1), some (.int l2), some (.int (s1 + s0)), some (.int l4), some (.int l5)], [.int l4])) (b := 0 < l5) rfl (fun hb => ?_) (fun hb => ?_)
  · replace H := H.1 (hb)
    refine Ex.pure 1 (fr2 := (208, [some (.ref 77), some (.int l1), some (.int l2), some (.int (s1 + s0)), some (.int l4), some (.int l5)], [.int 0, .int l4])) rfl ?_
    exact H
  · replace H := H.2 (hb)
    refine Ex.pure 2 (fr2 := (208, [some (.ref 77), some (.int l1), some (.int l2), some (.int (s1 + s0)), some (.int l4), some (.int l5)], [.int 1, .int l4])) rfl ?_
    exact H
theorem w_X7_summedNaturally_208 {d : Nat} {h : XH} {y : Nat → Nat} {K : XK} {E : XE} {l1 : Int32} {l2 : Int32} {l3 : Int32} {u4 : Option Value} {u5 : Option Value} {s0 : Int32} {s1 : Int32} (hd : 20 ≤ d) (hs : Sg h.1 y) (H : b_X7_summedNaturally_16 d 77 l1 l2 l3 (s1 + s0) (u5) h K E) : b_X7_summedNaturally_208 d 77 l1 l2 l3 u4 u5 s0 s1 h K E := by
  show Ex d [] tb_X7_summedNaturally (208, [some (.ref 77), some (.int l1), some (.int l2), some (.int l3), u4, u5], [.int s0, .int s1]) h _
  refine Ex.pure 3 (fr2 := (16, [some (.ref 77), some (.int l1), some (.int l2), some (.int l3), some (.int (s1 + s0)), u5], [])) rfl ?_
  exact H
def b_X7_multiplied_12 (d : Nat) (r_0 : Nat) (l1 : Int32) (l2 : Int32) (l3 : Int32) (u4 : Option Value) (h : XH) (K : XK) (E : XE) : Prop := Ex d [] tb_X7_multiplied (12, [some (.ref r_0), some (.int l1), some (.int l2), some (.int l3), u4], []) h (Po K E)
def b_X7_multiplied_64 (d : Nat) (r_0 : Nat) (l1 : Int32) (l2 : Int32) (l3 : Int32) (u4 : Option Value) (s0 : Int32) (s1 : Int32) (r_7 : Nat) (h : XH) (K : XK) (E : XE) : Prop := Ex d [] tb_X7_multiplied (64, [some (.ref r_0), some (.int l1), some (.int l2), some (.int l3), u4], [.int s0, .int s1, .ref r_7]) h (Po K E)
def b_X7_multiplied_90 (d : Nat) (r_0 : Nat) (l1 : Int32) (l2 : Int32) (l3 : Int32) (u4 : Option Value) (h : XH) (K : XK) (E : XE) : Prop := Ex d [] tb_X7_multiplied (90, [some (.ref r_0), some (.int l1), some (.int l2), some (.int l3), u4], []) h (Po K E)
def b_X7_multiplied_136 (d : Nat) (r_0 : Nat) (l1 : Int32) (l2 : Int32) (l3 : Int32) (u4 : Option Value) (h : XH) (K : XK) (E : XE) : Prop := Ex d [] tb_X7_multiplied (136, [some (.ref r_0), some (.int l1), some (.int l2), some (.int l3), u4], []) h (Po K E)
def b_X7_multiplied_197 (d : Nat) (r_0 : Nat) (l1 : Int32) (u2 : Option Int32) (l3 : Int32) (u4 : Option Value) (h : XH) (K : XK) (E : XE) : Prop := Ex d [] tb_X7_multiplied (197, [some (.ref r_0), some (.int l1), (xoi u2), some (.int l3), u4], []) h (Po K E)
def b_X7_multiplied_235 (d : Nat) (r_0 : Nat) (u1 : Option Value) (u2 : Option Int32) (u3 : Option Value) (u4 : Option Value) (h : XH) (K : XK) (E : XE) : Prop := Ex d [] tb_X7_multiplied (235, [some (.ref r_0), u1, (xoi u2), u3, u4], []) h (Po K E)
theorem w_X7_multiplied {d : Nat} {h : XH} {y : Nat → Nat} {K : XK} {E : XE} {a : Int32} {b : Int32} (hd : 20 ≤ d) (hs : Sg h.1 y) (H : (a = 0 → K (some (.int 0)) h) ∧ (¬ (a = 0) → (¬ b = 0 → b_X7_multiplied_12 d 77 a b 0 none h K E) ∧ (¬ (¬ b = 0) → K (some (.int 0)) h))) : Ca (d + 1) m_X7_multiplied [.ref 77, .int a, .int b] h K E := by
  refine Ca.of ⟨by show 3 ≤ 5; omega, rfl⟩ ?_
  show Ex d [] tb_X7_multiplied (0, [some (.ref 77), some (.int a), some (.int b), none, none], []) h _
  refine Ex.pure 1 (fr2 := (1, [some (.ref 77), some (.int a), some (.int b), none, none], [.int a])) rfl ?_
  refine Ex.br (x := (8, [some (.ref 77), some (.int a), some (.int b), none, none], [])) (y := (4, [some (.ref 77), some (.int a), some (.int b), none, none], [])) (b := a = 0) rfl (fun hb => ?_) (fun hb => ?_)
  · replace H := H.1 (hb)
    refine Ex.pure 1 (fr2 := (9, [some (.ref 77), some (.int a), some (.int b), none, none], [.int 0])) rfl ?_
    exact Ex.iret rfl (Or.inl rfl) H
  · replace H := H.2 (hb)
    refine Ex.pure 1 (fr2 := (5, [some (.ref 77), some (.int a), some (.int b), none, none], [.int b])) rfl ?_
    refine Ex.br (x := (10, [some (.ref 77), some (.int a), some (.int b), none, none], [])) (y := (8, [some (.ref 77), some (.int a), some (.int b), none, none], [])) (b := ¬ b = 0) rfl (fun hb => ?_) (fun hb => ?_)
    · replace H := H.1 (hb)
      refine Ex.pure 2 (fr2 := (12, [some (.ref 77), some (.int a), some (.int b), some (.int 0), none], [])) rfl ?_
      exact H
    · replace H := H.2 (hb)
      refine Ex.pure 1 (fr2 := (9, [some (.ref 77), some (.int a), some (.int b), none, none], [.int 0])) rfl ?_
      exact Ex.iret rfl (Or.inl rfl) H
theorem w_X7_multiplied_12 {d : Nat} {h : XH} {y : Nat → Nat} {K : XK} {E : XE} {l1 : Int32} {l2 : Int32} {l3 : Int32} {u4 : Option Value} (hd : 20 ≤ d) (hs : Sg h.1 y) (H : (Ix l2 2000 ∧ ((h.2.1 82 (ix l2)) ≤ l3 → (∀ h1 : XH, h1 = (x_setI h 77 11 0) → b_X7_multiplied_90 d 77 l1 l2 0 (u4) h1 K E)) ∧ (¬ ((h.2.1 82 (ix l2)) ≤ l3) → (Ix ((8 * l2) + l3) 16000 ∧ (¬ (h.2.1 80 (ix ((8 * l2) + l3))) = 0 → (Ix (8 * l1) 16000 ∧ (Ca d m_X7_summed [.ref 77, .int (h.2.1 80 (ix (8 * l1))), .int (h.2.1 80 (ix ((8 * l2) + l3)))] h (fun rv h2 => ∃ x3, rv = some (.int x3) ∧ Sg h2.1 y ∧ b_X7_multiplied_64 d 77 l1 l2 l3 (some (.int (h.2.1 80 (ix ((8 * l2) + l3))))) x3 l3 87 h2 K E) E))) ∧ (¬ (¬ (h.2.1 80 (ix ((8 * l2) + l3))) = 0) → b_X7_multiplied_64 d 77 l1 l2 l3 (some (.int (h.2.1 80 (ix ((8 * l2) + l3))))) 0 l3 87 h K E))))) : b_X7_multiplied_12 d 77 l1 l2 l3 u4 h K E := by
  show Ex d [] tb_X7_multiplied (12, [some (.ref 77), some (.int l1), some (.int l2), some (.int l3), u4], []) h _
  refine Ex.pure 2 (fr2 := (14, [some (.ref 77), some (.int l1), some (.int l2), some (.int l3), u4], [.ref 77, .int l3])) rfl ?_
  refine Ex.getQ rfl (sg_77 hs) rfl ?_
  refine Ex.pure 1 (fr2 := (18, [some (.ref 77), some (.int l1), some (.int l2), some (.int l3), u4], [.int l2, .ref 82, .int l3])) rfl ?_
  refine Ex.iald rfl (Or.inl rfl) (sg_82 hs) H.1 ?_
  replace H := H.2
  refine Ex.br (x := (83, [some (.ref 77), some (.int l1), some (.int l2), some (.int l3), u4], [])) (y := (22, [some (.ref 77), some (.int l1), some (.int l2), some (.int l3), u4], [])) (b := (h.2.1 82 (ix l2)) ≤ l3) rfl (fun hb => ?_) (fun hb => ?_)
  · replace H := H.1 (hb)
    refine Ex.pure 2 (fr2 := (85, [some (.ref 77), some (.int l1), some (.int l2), some (.int l3), u4], [.int 0, .ref 77])) rfl ?_
    refine Ex.putI rfl (sg_77 hs) ?_
    obtain ⟨h1, e1⟩ : ∃ z : XH, z = (x_setI h 77 11 0) := ⟨_, rfl⟩
    rw [← e1]
    replace H := H h1 e1
    replace hs : Sg h1.1 y := by rw [e1]; exact hs
    refine Ex.pure 2 (fr2 := (90, [some (.ref 77), some (.int l1), some (.int l2), some (.int 0), u4], [])) rfl ?_
    exact H
  · replace H := H.2 (hb)
    refine Ex.pure 1 (fr2 := (23, [some (.ref 77), some (.int l1), some (.int l2), some (.int l3), u4], [.ref 77])) rfl ?_
    refine Ex.getQ rfl (sg_77 hs) rfl ?_
    refine Ex.pure 5 (fr2 := (32, [some (.ref 77), some (.int l1), some (.int l2), some (.int l3), u4], [.int ((8 * l2) + l3), .ref 80])) rfl ?_
    refine Ex.iald rfl (Or.inl rfl) (sg_80 hs) H.1 ?_
    replace H := H.2
    refine Ex.pure 2 (fr2 := (36, [some (.ref 77), some (.int l1), some (.int l2), some (.int l3), some (.int (h.2.1 80 (ix ((8 * l2) + l3))))], [.ref 77])) rfl ?_
    refine Ex.getQ rfl (sg_77 hs) rfl ?_
    refine Ex.pure 2 (fr2 := (42, [some (.ref 77), some (.int l1), some (.int l2), some (.int l3), some (.int (h.2.1 80 (ix ((8 * l2) + l3))))], [.int (h.2.1 80 (ix ((8 * l2) + l3))), .int l3, .ref 87])) rfl ?_
    refine Ex.br (x := (49, [some (.ref 77), some (.int l1), some (.int l2), some (.int l3), some (.int (h.2.1 80 (ix ((8 * l2) + l3))))], [.int l3, .ref 87])) (y := (45, [some (.ref 77), some (.int l1), some (.int l2), some (.int l3), some (.int (h.2.1 80 (ix ((8 * l2) + l3))))], [.int l3, .ref 87])) (b := ¬ (h.2.1 80 (ix ((8 * l2) + l3))) = 0) rfl (fun hb => ?_) (fun hb => ?_)
    · replace H := H.1 (hb)
      refine Ex.pure 2 (fr2 := (51, [some (.ref 77), some (.int l1), some (.int l2), some (.int l3), some (.int (h.2.1 80 (ix ((8 * l2) + l3))))], [.ref 77, .ref 77, .int l3, .ref 87])) rfl ?_
      refine Ex.getQ rfl (sg_77 hs) rfl ?_
      refine Ex.pure 3 (fr2 := (58, [some (.ref 77), some (.int l1), some (.int l2), some (.int l3), some (.int (h.2.1 80 (ix ((8 * l2) + l3))))], [.int (8 * l1), .ref 80, .ref 77, .int l3, .ref 87])) rfl ?_
      refine Ex.iald rfl (Or.inl rfl) (sg_80 hs) H.1 ?_
      replace H := H.2
      refine Ex.pure 1 (fr2 := (61, [some (.ref 77), some (.int l1), some (.int l2), some (.int l3), some (.int (h.2.1 80 (ix ((8 * l2) + l3))))], [.int (h.2.1 80 (ix ((8 * l2) + l3))), .int (h.2.1 80 (ix (8 * l1))), .ref 77, .int l3, .ref 87])) rfl ?_
      refine Ex.cal (rest := [.int l3, .ref 87]) (j := m_X7_summed) (as := [.ref 77, .int (h.2.1 80 (ix (8 * l1))), .int (h.2.1 80 (ix ((8 * l2) + l3)))]) (vst (a := 125) (b := 3) (c := 6) (rest := [.int l3, .ref 87]) (vs := [.int (h.2.1 80 (ix (8 * l1))), .int (h.2.1 80 (ix ((8 * l2) + l3)))]) rfl ⟨Nat.le_of_ble_eq_true rfl, Nat.le_of_ble_eq_true rfl⟩ rfl rfl (sg_77 hs)) (H.imp ?_)
      intro rv h2 H
      obtain ⟨x3, rfl, H⟩ := H
      obtain ⟨hs, H⟩ := H
      show Ex d [] tb_X7_multiplied (64, [some (.ref 77), some (.int l1), some (.int l2), some (.int l3), some (.int (h.2.1 80 (ix ((8 * l2) + l3))))], [.int x3, .int l3, .ref 87]) h2 _
      exact H
    · replace H := H.2 (hb)
      refine Ex.pure 2 (fr2 := (64, [some (.ref 77), some (.int l1), some (.int l2), some (.int l3), some (.int (h.2.1 80 (ix ((8 * l2) + l3))))], [.int 0, .int l3, .ref 87])) rfl ?_
      exact H
theorem w_X7_multiplied_64 {d : Nat} {h : XH} {y : Nat → Nat} {K : XK} {E : XE} {l1 : Int32} {l2 : Int32} {l3 : Int32} {u4 : Option Value} {s0 : Int32} {s1 : Int32} (hd : 20 ≤ d) (hs : Sg h.1 y) (H : (Ix s1 64 ∧ (∀ h1 : XH, h1 = (x_setI h 87 (ix s1) s0) → (Ix l3 64 ∧ (¬ (h1.2.1 87 (ix l3)) = (-1) → b_X7_multiplied_12 d 77 l1 l2 (l3 + 1) (u4) h1 K E) ∧ (¬ (¬ (h1.2.1 87 (ix l3)) = (-1)) → K (some (.int (-1))) h1))))) : b_X7_multiplied_64 d 77 l1 l2 l3 u4 s0 s1 87 h K E := by
  show Ex d [] tb_X7_multiplied (64, [some (.ref 77), some (.int l1), some (.int l2), some (.int l3), u4], [.int s0, .int s1, .ref 87]) h _
  refine Ex.iast rfl (sg_87 hs) H.1 ?_
  replace H := H.2
  obtain ⟨h1, e1⟩ : ∃ z : XH, z = (x_setI h 87 (ix s1) s0) := ⟨_, rfl⟩
  rw [← e1]
  replace H := H h1 e1
  replace hs : Sg h1.1 y := by rw [e1]; exact hs
  refine Ex.pure 1 (fr2 := (66, [some (.ref 77), some (.int l1), some (.int l2), some (.int l3), u4], [.ref 77])) rfl ?_
  refine Ex.getQ rfl (sg_77 hs) rfl ?_
  refine Ex.pure 1 (fr2 := (70, [some (.ref 77), some (.int l1), some (.int l2), some (.int l3), u4], [.int l3, .ref 87])) rfl ?_
  refine Ex.iald rfl (Or.inl rfl) (sg_87 hs) H.1 ?_
  replace H := H.2
  refine Ex.pure 1 (fr2 := (72, [some (.ref 77), some (.int l1), some (.int l2), some (.int l3), u4], [.int (-1), .int (h1.2.1 87 (ix l3))])) rfl ?_
  refine Ex.br (x := (77, [some (.ref 77), some (.int l1), some (.int l2), some (.int l3), u4], [])) (y := (75, [some (.ref 77), some (.int l1), some (.int l2), some (.int l3), u4], [])) (b := ¬ (h1.2.1 87 (ix l3)) = (-1)) rfl (fun hb => ?_) (fun hb => ?_)
  · replace H := H.1 (hb)
    refine Ex.pure 2 (fr2 := (12, [some (.ref 77), some (.int l1), some (.int l2), some (.int (l3 + 1)), u4], [])) rfl ?_
    exact H
  · replace H := H.2 (hb)
    refine Ex.pure 1 (fr2 := (76, [some (.ref 77), some (.int l1), some (.int l2), some (.int l3), u4], [.int (-1)])) rfl ?_
    exact Ex.iret rfl (Or.inl rfl) H
theorem w_X7_multiplied_90 {d : Nat} {h : XH} {y : Nat → Nat} {K : XK} {E : XE} {l1 : Int32} {l2 : Int32} {l3 : Int32} {u4 : Option Value} (hd : 20 ≤ d) (hs : Sg h.1 y) (H : (Ix l2 2000 ∧ ((h.2.1 82 (ix l2)) ≤ l3 → (Ca d m_X7_last [.ref 77, .int l2] h (fun rv h1 => ∃ x2, rv = some (.int x2) ∧ Sg h1.1 y ∧ (Ix x2 16000 ∧ (¬ (h1.2.1 80 (ix x2)) = 0 → b_X7_multiplied_235 d 77 (some (.int l1)) (some l2) (some (.int l3)) (u4) h1 K E) ∧ (¬ (¬ (h1.2.1 80 (ix x2)) = 0) → (Ix (8 * l1) 16000 ∧ (Ix (8 * l1) 16000 ∧ (Ca d m_X7_last [.ref 77, .int l2] h1 (fun rv h3 => ∃ x4, rv = some (.int x4) ∧ Sg h3.1 y ∧ (Ix x4 16000 ∧ (Ca d m_X7_adds [.ref 77, .int (h1.2.1 80 (ix (8 * l1))), .long (((h1.2.1 81 (ix (8 * l1))) : Int32).toInt64 * ((h3.2.1 81 (ix x4)) : Int32).toInt64)] h3 (fun rv h5 => rv = none ∧ Sg h5.1 y ∧ b_X7_multiplied_197 d 77 l1 (some l2) ((8 * l1) + 1) (u4) h5 K E) E))) E)))))) E)) ∧ (¬ ((h.2.1 82 (ix l2)) ≤ l3) → (Ix ((8 * l2) + l3) 16000 ∧ ((h.2.1 80 (ix ((8 * l2) + l3))) = 0 → b_X7_multiplied_136 d 77 l1 l2 l3 (u4) h K E) ∧ (¬ ((h.2.1 80 (ix ((8 * l2) + l3))) = 0) → (Ix l3 64 ∧ (Ix ((8 * l2) + l3) 16000 ∧ (Ca d m_X7_adds [.ref 77, .int (h.2.1 87 (ix l3)), .long (((h.2.1 81 (ix ((8 * l2) + l3))) : Int32).toInt64)] h (fun rv h7 => rv = none ∧ Sg h7.1 y ∧ b_X7_multiplied_136 d 77 l1 l2 l3 (u4) h7 K E) E)))))))) : b_X7_multiplied_90 d 77 l1 l2 l3 u4 h K E := by
  show Ex d [] tb_X7_multiplied (90, [some (.ref 77), some (.int l1), some (.int l2), some (.int l3), u4], []) h _
  refine Ex.pure 2 (fr2 := (92, [some (.ref 77), some (.int l1), some (.int l2), some (.int l3), u4], [.ref 77, .int l3])) rfl ?_
  refine Ex.getQ rfl (sg_77 hs) rfl ?_
  refine Ex.pure 1 (fr2 := (96, [some (.ref 77), some (.int l1), some (.int l2), some (.int l3), u4], [.int l2, .ref 82, .int l3])) rfl ?_
  refine Ex.iald rfl (Or.inl rfl) (sg_82 hs) H.1 ?_
  replace H := H.2
  refine Ex.br (x := (142, [some (.ref 77), some (.int l1), some (.int l2), some (.int l3), u4], [])) (y := (100, [some (.ref 77), some (.int l1), some (.int l2), some (.int l3), u4], [])) (b := (h.2.1 82 (ix l2)) ≤ l3) rfl (fun hb => ?_) (fun hb => ?_)
  · replace H := H.1 (hb)
    refine Ex.pure 1 (fr2 := (143, [some (.ref 77), some (.int l1), some (.int l2), some (.int l3), u4], [.ref 77])) rfl ?_
    refine Ex.getQ rfl (sg_77 hs) rfl ?_
    refine Ex.pure 2 (fr2 := (148, [some (.ref 77), some (.int l1), some (.int l2), some (.int l3), u4], [.int l2, .ref 77, .ref 80])) rfl ?_
    refine Ex.cal (rest := [.ref 80]) (j := m_X7_last) (as := [.ref 77, .int l2]) (vst (a := 119) (b := 2) (c := 6) (rest := [.ref 80]) (vs := [.int l2]) rfl ⟨Nat.le_of_ble_eq_true rfl, Nat.le_of_ble_eq_true rfl⟩ rfl rfl (sg_77 hs)) (H.imp ?_)
    intro rv h1 H
    obtain ⟨x2, rfl, H⟩ := H
    obtain ⟨hs, H⟩ := H
    show Ex d [] tb_X7_multiplied (151, [some (.ref 77), some (.int l1), some (.int l2), some (.int l3), u4], [.int x2, .ref 80]) h1 _
    refine Ex.iald rfl (Or.inl rfl) (sg_80 hs) H.1 ?_
    replace H := H.2
    refine Ex.br (x := (235, [some (.ref 77), some (.int l1), some (.int l2), some (.int l3), u4], [])) (y := (155, [some (.ref 77), some (.int l1), some (.int l2), some (.int l3), u4], [])) (b := ¬ (h1.2.1 80 (ix x2)) = 0) rfl (fun hb => ?_) (fun hb => ?_)
    · replace H := H.1 (hb)
      exact H
    · replace H := H.2 (hb)
      refine Ex.pure 2 (fr2 := (157, [some (.ref 77), some (.int l1), some (.int l2), some (.int l3), u4], [.ref 77, .ref 77])) rfl ?_
      refine Ex.getQ rfl (sg_77 hs) rfl ?_
      refine Ex.pure 3 (fr2 := (164, [some (.ref 77), some (.int l1), some (.int l2), some (.int l3), u4], [.int (8 * l1), .ref 80, .ref 77])) rfl ?_
      refine Ex.iald rfl (Or.inl rfl) (sg_80 hs) H.1 ?_
      replace H := H.2
      refine Ex.pure 1 (fr2 := (166, [some (.ref 77), some (.int l1), some (.int l2), some (.int l3), u4], [.ref 77, .int (h1.2.1 80 (ix (8 * l1))), .ref 77])) rfl ?_
      refine Ex.getQ rfl (sg_77 hs) rfl ?_
      refine Ex.pure 3 (fr2 := (173, [some (.ref 77), some (.int l1), some (.int l2), some (.int l3), u4], [.int (8 * l1), .ref 81, .int (h1.2.1 80 (ix (8 * l1))), .ref 77])) rfl ?_
      refine Ex.iald rfl (Or.inl rfl) (sg_81 hs) H.1 ?_
      replace H := H.2
      refine Ex.pure 2 (fr2 := (176, [some (.ref 77), some (.int l1), some (.int l2), some (.int l3), u4], [.ref 77, .long (((h1.2.1 81 (ix (8 * l1))) : Int32).toInt64), .int (h1.2.1 80 (ix (8 * l1))), .ref 77])) rfl ?_
      refine Ex.getQ rfl (sg_77 hs) rfl ?_
      refine Ex.pure 2 (fr2 := (181, [some (.ref 77), some (.int l1), some (.int l2), some (.int l3), u4], [.int l2, .ref 77, .ref 81, .long (((h1.2.1 81 (ix (8 * l1))) : Int32).toInt64), .int (h1.2.1 80 (ix (8 * l1))), .ref 77])) rfl ?_
      refine Ex.cal (rest := [.ref 81, .long (((h1.2.1 81 (ix (8 * l1))) : Int32).toInt64), .int (h1.2.1 80 (ix (8 * l1))), .ref 77]) (j := m_X7_last) (as := [.ref 77, .int l2]) (vst (a := 119) (b := 2) (c := 6) (rest := [.ref 81, .long (((h1.2.1 81 (ix (8 * l1))) : Int32).toInt64), .int (h1.2.1 80 (ix (8 * l1))), .ref 77]) (vs := [.int l2]) rfl ⟨Nat.le_of_ble_eq_true rfl, Nat.le_of_ble_eq_true rfl⟩ rfl rfl (sg_77 hs)) (H.imp ?_)
      intro rv h3 H
      obtain ⟨x4, rfl, H⟩ := H
      obtain ⟨hs, H⟩ := H
      show Ex d [] tb_X7_multiplied (184, [some (.ref 77), some (.int l1), some (.int l2), some (.int l3), u4], [.int x4, .ref 81, .long (((h1.2.1 81 (ix (8 * l1))) : Int32).toInt64), .int (h1.2.1 80 (ix (8 * l1))), .ref 77]) h3 _
      refine Ex.iald rfl (Or.inl rfl) (sg_81 hs) H.1 ?_
      replace H := H.2
      refine Ex.pure 2 (fr2 := (187, [some (.ref 77), some (.int l1), some (.int l2), some (.int l3), u4], [.long (((h1.2.1 81 (ix (8 * l1))) : Int32).toInt64 * ((h3.2.1 81 (ix x4)) : Int32).toInt64), .int (h1.2.1 80 (ix (8 * l1))), .ref 77])) rfl ?_
      refine Ex.cal (rest := []) (j := m_X7_adds) (as := [.ref 77, .int (h1.2.1 80 (ix (8 * l1))), .long (((h1.2.1 81 (ix (8 * l1))) : Int32).toInt64 * ((h3.2.1 81 (ix x4)) : Int32).toInt64)]) (vst (a := 121) (b := 3) (c := 6) (rest := []) (vs := [.int (h1.2.1 80 (ix (8 * l1))), .long (((h1.2.1 81 (ix (8 * l1))) : Int32).toInt64 * ((h3.2.1 81 (ix x4)) : Int32).toInt64)]) rfl ⟨Nat.le_of_ble_eq_true rfl, Nat.le_of_ble_eq_true rfl⟩ rfl rfl (sg_77 hs)) (H.imp ?_)
      intro rv h5 H
      obtain ⟨rfl, H⟩ := H
      obtain ⟨hs, H⟩ := H
      show Ex d [] tb_X7_multiplied (190, [some (.ref 77), some (.int l1), some (.int l2), some (.int l3), u4], []) h5 _
      refine Ex.pure 6 (fr2 := (197, [some (.ref 77), some (.int l1), some (.int l2), some (.int ((8 * l1) + 1)), u4], [])) rfl ?_
      exact H
  · replace H := H.2 (hb)
    refine Ex.pure 1 (fr2 := (101, [some (.ref 77), some (.int l1), some (.int l2), some (.int l3), u4], [.ref 77])) rfl ?_
    refine Ex.getQ rfl (sg_77 hs) rfl ?_
    refine Ex.pure 5 (fr2 := (110, [some (.ref 77), some (.int l1), some (.int l2), some (.int l3), u4], [.int ((8 * l2) + l3), .ref 80])) rfl ?_
    refine Ex.iald rfl (Or.inl rfl) (sg_80 hs) H.1 ?_
    replace H := H.2
    refine Ex.br (x := (136, [some (.ref 77), some (.int l1), some (.int l2), some (.int l3), u4], [])) (y := (114, [some (.ref 77), some (.int l1), some (.int l2), some (.int l3), u4], [])) (b := (h.2.1 80 (ix ((8 * l2) + l3))) = 0) rfl (fun hb => ?_) (fun hb => ?_)
    · replace H := H.1 (hb)
      exact H
    · replace H := H.2 (hb)
      refine Ex.pure 2 (fr2 := (116, [some (.ref 77), some (.int l1), some (.int l2), some (.int l3), u4], [.ref 77, .ref 77])) rfl ?_
      refine Ex.getQ rfl (sg_77 hs) rfl ?_
      refine Ex.pure 1 (fr2 := (120, [some (.ref 77), some (.int l1), some (.int l2), some (.int l3), u4], [.int l3, .ref 87, .ref 77])) rfl ?_
      refine Ex.iald rfl (Or.inl rfl) (sg_87 hs) H.1 ?_
      replace H := H.2
      refine Ex.pure 1 (fr2 := (122, [some (.ref 77), some (.int l1), some (.int l2), some (.int l3), u4], [.ref 77, .int (h.2.1 87 (ix l3)), .ref 77])) rfl ?_
      refine Ex.getQ rfl (sg_77 hs) rfl ?_
      refine Ex.pure 5 (fr2 := (131, [some (.ref 77), some (.int l1), some (.int l2), some (.int l3), u4], [.int ((8 * l2) + l3), .ref 81, .int (h.2.1 87 (ix l3)), .ref 77])) rfl ?_
      refine Ex.iald rfl (Or.inl rfl) (sg_81 hs) H.1 ?_
      replace H := H.2
      refine Ex.pure 1 (fr2 := (133, [some (.ref 77), some (.int l1), some (.int l2), some (.int l3), u4], [.long (((h.2.1 81 (ix ((8 * l2) + l3))) : Int32).toInt64), .int (h.2.1 87 (ix l3)), .ref 77])) rfl ?_
      refine Ex.cal (rest := []) (j := m_X7_adds) (as := [.ref 77, .int (h.2.1 87 (ix l3)), .long (((h.2.1 81 (ix ((8 * l2) + l3))) : Int32).toInt64)]) (vst (a := 121) (b := 3) (c := 6) (rest := []) (vs := [.int (h.2.1 87 (ix l3)), .long (((h.2.1 81 (ix ((8 * l2) + l3))) : Int32).toInt64)]) rfl ⟨Nat.le_of_ble_eq_true rfl, Nat.le_of_ble_eq_true rfl⟩ rfl rfl (sg_77 hs)) (H.imp ?_)
      intro rv h7 H
      obtain ⟨rfl, H⟩ := H
      obtain ⟨hs, H⟩ := H
      show Ex d [] tb_X7_multiplied (136, [some (.ref 77), some (.int l1), some (.int l2), some (.int l3), u4], []) h7 _
      exact H
theorem w_X7_multiplied_136 {d : Nat} {h : XH} {y : Nat → Nat} {K : XK} {E : XE} {l1 : Int32} {l2 : Int32} {l3 : Int32} {u4 : Option Value} (hd : 20 ≤ d) (hs : Sg h.1 y) (H : b_X7_multiplied_90 d 77 l1 l2 (l3 + 1) (u4) h K E) : b_X7_multiplied_136 d 77 l1 l2 l3 u4 h K E := by
  show Ex d [] tb_X7_multiplied (136, [some (.ref 77), some (.int l1), some (.int l2), some (.int l3), u4], []) h _
  refine Ex.pure 2 (fr2 := (90, [some (.ref 77), some (.int l1), some (.int l2), some (.int (l3 + 1)), u4], [])) rfl ?_
  exact H
theorem w_X7_multiplied_197 {d : Nat} {h : XH} {y : Nat → Nat} {K : XK} {E : XE} {l1 : Int32} {u2 : Option Int32} {l3 : Int32} {u4 : Option Value} (hd : 20 ≤ d) (hs : Sg h.1 y) (H : (Ix l1 2000 ∧ (((8 * l1) + (h.2.1 82 (ix l1))) ≤ l3 → b_X7_multiplied_235 d 77 (some (.int l1)) u2 (some (.int l3)) (u4) h K E) ∧ (¬ (((8 * l1) + (h.2.1 82 (ix l1))) ≤ l3) → (Ix l3 16000 ∧ (Ix l3 16000 ∧ (Ca d m_X7_adds [.ref 77, .int (h.2.1 80 (ix l3)), .long (((h.2.1 81 (ix l3)) : Int32).toInt64)] h (fun rv h1 => rv = none ∧ Sg h1.1 y ∧ b_X7_multiplied_197 d 77 l1 u2 (l3 + 1) (u4) h1 K E) E)))))) : b_X7_multiplied_197 d 77 l1 u2 l3 u4 h K E := by
  cases u2 with
  | none =>
    show Ex d [] tb_X7_multiplied (197, [some (.ref 77), some (.int l1), (xoi none), some (.int l3), u4], []) h _
    refine Ex.pure 5 (fr2 := (203, [some (.ref 77), some (.int l1), (xoi none), some (.int l3), u4], [.ref 77, .int (8 * l1), .int l3])) rfl ?_
    refine Ex.getQ rfl (sg_77 hs) rfl ?_
    refine Ex.pure 1 (fr2 := (207, [some (.ref 77), some (.int l1), (xoi none), some (.int l3), u4], [.int l1, .ref 82, .int (8 * l1), .int l3])) rfl ?_
    refine Ex.iald rfl (Or.inl rfl) (sg_82 hs) H.1 ?_
    replace H := H.2
    refine Ex.pure 1 (fr2 := (209, [some (.ref 77), some (.int l1), (xoi none), some (.int l3), u4], [.int ((8 * l1) + (h.2.1 82 (ix l1))), .int l3])) rfl ?_
    refine Ex.br (x := (235, [some (.ref 77), some (.int l1), (xoi none), some (.int l3), u4], [])) (y := (212, [some (.ref 77), some (.int l1), (xoi none), some (.int l3), u4], [])) (b := ((8 * l1) + (h.2.1 82 (ix l1))) ≤ l3) rfl (fun hb => ?_) (fun hb => ?_)
    · replace H := H.1 (hb)
      exact H
    · replace H := H.2 (hb)
      refine Ex.pure 2 (fr2 := (214, [some (.ref 77), some (.int l1), (xoi none), some (.int l3), u4], [.ref 77, .ref 77])) rfl ?_
      refine Ex.getQ rfl (sg_77 hs) rfl ?_
      refine Ex.pure 1 (fr2 := (218, [some (.ref 77), some (.int l1), (xoi none), some (.int l3), u4], [.int l3, .ref 80, .ref 77])) rfl ?_
      refine Ex.iald rfl (Or.inl rfl) (sg_80 hs) H.1 ?_
      replace H := H.2
      refine Ex.pure 1 (fr2 := (220, [some (.ref 77), some (.int l1), (xoi none), some (.int l3), u4], [.ref 77, .int (h.2.1 80 (ix l3)), .ref 77])) rfl ?_
      refine Ex.getQ rfl (sg_77 hs) rfl ?_
      refine Ex.pure 1 (fr2 := (224, [some (.ref 77), some (.int l1), (xoi none), some (.int l3), u4], [.int l3, .ref 81, .int (h.2.1 80 (ix l3)), .ref 77])) rfl ?_
      refine Ex.iald rfl (Or.inl rfl) (sg_81 hs) H.1 ?_
      replace H := H.2
      refine Ex.pure 1 (fr2 := (226, [some (.ref 77), some (.int l1), (xoi none), some (.int l3), u4], [.long (((h.2.1 81 (ix l3)) : Int32).toInt64), .int (h.2.1 80 (ix l3)), .ref 77])) rfl ?_
      refine Ex.cal (rest := []) (j := m_X7_adds) (as := [.ref 77, .int (h.2.1 80 (ix l3)), .long (((h.2.1 81 (ix l3)) : Int32).toInt64)]) (vst (a := 121) (b := 3) (c := 6) (rest := []) (vs := [.int (h.2.1 80 (ix l3)), .long (((h.2.1 81 (ix l3)) : Int32).toInt64)]) rfl ⟨Nat.le_of_ble_eq_true rfl, Nat.le_of_ble_eq_true rfl⟩ rfl rfl (sg_77 hs)) (H.imp ?_)
      intro rv h1 H
      obtain ⟨rfl, H⟩ := H
      obtain ⟨hs, H⟩ := H
      show Ex d [] tb_X7_multiplied (229, [some (.ref 77), some (.int l1), (xoi none), some (.int l3), u4], []) h1 _
      refine Ex.pure 2 (fr2 := (197, [some (.ref 77), some (.int l1), (xoi none), some (.int (l3 + 1)), u4], [])) rfl ?_
      exact H
  | some v2 =>
    show Ex d [] tb_X7_multiplied (197, [some (.ref 77), some (.int l1), (xoi (some v2)), some (.int l3), u4], []) h _
    refine Ex.pure 5 (fr2 := (203, [some (.ref 77), some (.int l1), (xoi (some v2)), some (.int l3), u4], [.ref 77, .int (8 * l1), .int l3])) rfl ?_
    refine Ex.getQ rfl (sg_77 hs) rfl ?_
    refine Ex.pure 1 (fr2 := (207, [some (.ref 77), some (.int l1), (xoi (some v2)), some (.int l3), u4], [.int l1, .ref 82, .int (8 * l1), .int l3])) rfl ?_
    refine Ex.iald rfl (Or.inl rfl) (sg_82 hs) H.1 ?_
    replace H := H.2
    refine Ex.pure 1 (fr2 := (209, [some (.ref 77), some (.int l1), (xoi (some v2)), some (.int l3), u4], [.int ((8 * l1) + (h.2.1 82 (ix l1))), .int l3])) rfl ?_
    refine Ex.br (x := (235, [some (.ref 77), some (.int l1), (xoi (some v2)), some (.int l3), u4], [])) (y := (212, [some (.ref 77), some (.int l1), (xoi (some v2)), some (.int l3), u4], [])) (b := ((8 * l1) + (h.2.1 82 (ix l1))) ≤ l3) rfl (fun hb => ?_) (fun hb => ?_)
    · replace H := H.1 (hb)
      exact H
    · replace H := H.2 (hb)
      refine Ex.pure 2 (fr2 := (214, [some (.ref 77), some (.int l1), (xoi (some v2)), some (.int l3), u4], [.ref 77, .ref 77])) rfl ?_
      refine Ex.getQ rfl (sg_77 hs) rfl ?_
      refine Ex.pure 1 (fr2 := (218, [some (.ref 77), some (.int l1), (xoi (some v2)), some (.int l3), u4], [.int l3, .ref 80, .ref 77])) rfl ?_
      refine Ex.iald rfl (Or.inl rfl) (sg_80 hs) H.1 ?_
      replace H := H.2
      refine Ex.pure 1 (fr2 := (220, [some (.ref 77), some (.int l1), (xoi (some v2)), some (.int l3), u4], [.ref 77, .int (h.2.1 80 (ix l3)), .ref 77])) rfl ?_
      refine Ex.getQ rfl (sg_77 hs) rfl ?_
      refine Ex.pure 1 (fr2 := (224, [some (.ref 77), some (.int l1), (xoi (some v2)), some (.int l3), u4], [.int l3, .ref 81, .int (h.2.1 80 (ix l3)), .ref 77])) rfl ?_
      refine Ex.iald rfl (Or.inl rfl) (sg_81 hs) H.1 ?_
      replace H := H.2
      refine Ex.pure 1 (fr2 := (226, [some (.ref 77), some (.int l1), (xoi (some v2)), some (.int l3), u4], [.long (((h.2.1 81 (ix l3)) : Int32).toInt64), .int (h.2.1 80 (ix l3)), .ref 77])) rfl ?_
      refine Ex.cal (rest := []) (j := m_X7_adds) (as := [.ref 77, .int (h.2.1 80 (ix l3)), .long (((h.2.1 81 (ix l3)) : Int32).toInt64)]) (vst (a := 121) (b := 3) (c := 6) (rest := []) (vs := [.int (h.2.1 80 (ix l3)), .long (((h.2.1 81 (ix l3)) : Int32).toInt64)]) rfl ⟨Nat.le_of_ble_eq_true rfl, Nat.le_of_ble_eq_true rfl⟩ rfl rfl (sg_77 hs)) (H.imp ?_)
      intro rv h1 H
      obtain ⟨rfl, H⟩ := H
      obtain ⟨hs, H⟩ := H
      show Ex d [] tb_X7_multiplied (229, [some (.ref 77), some (.int l1), (xoi (some v2)), some (.int l3), u4], []) h1 _
      refine Ex.pure 2 (fr2 := (197, [some (.ref 77), some (.int l1), (xoi (some v2)), some (.int (l3 + 1)), u4], [])) rfl ?_
      exact H
theorem w_X7_multiplied_235 {d : Nat} {h : XH} {y : Nat → Nat} {K : XK} {E : XE} {u1 : Option Value} {u2 : Option Int32} {u3 : Option Value} {u4 : Option Value} (hd : 20 ≤ d) (hs : Sg h.1 y) (H : (Ca d m_X7_makes [.ref 77] h (fun rv h1 => ∃ x2, rv = some (.int x2) ∧ Sg h1.1 y ∧ K (some (.int x2)) h1) E)) : b_X7_multiplied_235 d 77 u1 u2 u3 u4 h K E := by
  cases u2 with
  | none =>
    show Ex d [] tb_X7_multiplied (235, [some (.ref 77), u1, (xoi none), u3, u4], []) h _
    refine Ex.pure 1 (fr2 := (236, [some (.ref 77), u1, (xoi none), u3, u4], [.ref 77])) rfl ?_
    refine Ex.cal (rest := []) (j := m_X7_makes) (as := [.ref 77]) (vst (a := 123) (b := 1) (c := 6) (rest := []) (vs := []) rfl ⟨Nat.le_of_ble_eq_true rfl, Nat.le_of_ble_eq_true rfl⟩ rfl rfl (sg_77 hs)) (H.imp ?_)
    intro rv h1 H
    obtain ⟨x2, rfl, H⟩ := H
    obtain ⟨hs, H⟩ := H
    show Ex d [] tb_X7_multiplied (239, [some (.ref 77), u1, (xoi none), u3, u4], [.int x2]) h1 _
    exact Ex.iret rfl (Or.inl rfl) H
  | some v2 =>
    show Ex d [] tb_X7_multiplied (235, [some (.ref 77), u1, (xoi (some v2)), u3, u4], []) h _
    refine Ex.pure 1 (fr2 := (236, [some (.ref 77), u1, (xoi (some v2)), u3, u4], [.ref 77])) rfl ?_
    refine Ex.cal (rest := []) (j := m_X7_makes) (as := [.ref 77]) (vst (a := 123) (b := 1) (c := 6) (rest := []) (vs := []) rfl ⟨Nat.le_of_ble_eq_true rfl, Nat.le_of_ble_eq_true rfl⟩ rfl rfl (sg_77 hs)) (H.imp ?_)
    intro rv h1 H
    obtain ⟨x2, rfl, H⟩ := H
    obtain ⟨hs, H⟩ := H
    show Ex d [] tb_X7_multiplied (239, [some (.ref 77), u1, (xoi (some v2)), u3, u4], [.int x2]) h1 _
    exact Ex.iret rfl (Or.inl rfl) H
def b_X7_puts_6 (d : Nat) (r_0 : Nat) (l1 : Int32) (l2 : Int64) (l4 : Int32) (u5 : Option Value) (h : XH) (K : XK) (E : XE) : Prop := Ex d [] tb_X7_puts (6, [some (.ref r_0), some (.int l1), some (.long l2), none, some (.int l4), u5], []) h (Po K E)
def b_X7_puts_47 (d : Nat) (r_0 : Nat) (l1 : Int32) (l2 : Int64) (l4 : Int32) (u5 : Option Value) (h : XH) (K : XK) (E : XE) : Prop := Ex d [] tb_X7_puts (47, [some (.ref r_0), some (.int l1), some (.long l2), none, some (.int l4), u5], []) h (Po K E)
def b_X7_puts_79 (d : Nat) (r_0 : Nat) (l1 : Int32) (l2 : Int64) (l4 : Int32) (u5 : Option Value) (h : XH) (K : XK) (E : XE) : Prop := Ex d [] tb_X7_puts (79, [some (.ref r_0), some (.int l1), some (.long l2), none, some (.int l4), u5], []) h (Po K E)
def b_X7_puts_85 (d : Nat) (r_0 : Nat) (l1 : Int32) (l2 : Int64) (l4 : Int32) (l5 : Int32) (h : XH) (K : XK) (E : XE) : Prop := Ex d [] tb_X7_puts (85, [some (.ref r_0), some (.int l1), some (.long l2), none, some (.int l4), some (.int l5)], []) h (Po K E)
theorem w_X7_puts {d : Nat} {h : XH} {y : Nat → Nat} {K : XK} {E : XE} {a : Int32} {b : Int64} (hd : 20 ≤ d) (hs : Sg h.1 y) (H : b_X7_puts_6 d 77 a b (h.2.1 77 11) none h K E) : Ca (d + 1) m_X7_puts [.ref 77, .int a, .long b] h K E := by
  refine Ca.of ⟨by show 4 ≤ 6; omega, rfl⟩ ?_
  show Ex d [] tb_X7_puts (0, [some (.ref 77), some (.int a), some (.long b), none, none, none], []) h _
  refine Ex.pure 1 (fr2 := (1, [some (.ref 77), some (.int a), some (.long b), none, none, none], [.ref 77])) rfl ?_
  refine Ex.getI rfl (Or.inl rfl) (sg_77 hs) ?_
  refine Ex.pure 1 (fr2 := (6, [some (.ref 77), some (.int a), some (.long b), none, some (.int (h.2.1 77 11)), none], [])) rfl ?_
  exact H
theorem w_X7_puts_6 {d : Nat} {h : XH} {y : Nat → Nat} {K : XK} {E : XE} {l1 : Int32} {l2 : Int64} {l4 : Int32} {u5 : Option Value} (hd : 20 ≤ d) (hs : Sg h.1 y) (H : (l4 ≤ 0 → b_X7_puts_47 d 77 l1 l2 l4 (u5) h K E) ∧ (¬ (l4 ≤ 0) → (Ix (l4 - 1) 80 ∧ ((h.2.1 85 (ix (l4 - 1))) = l1 → b_X7_puts_47 d 77 l1 l2 l4 (u5) h K E) ∧ (¬ ((h.2.1 85 (ix (l4 - 1))) = l1) → (Ix (l4 - 1) 80 ∧ (Ca d m_X7_compared [.ref 77, .int (h.2.1 85 (ix (l4 - 1))), .int l1] h (fun rv h1 => ∃ x2, rv = some (.int x2) ∧ Sg h1.1 y ∧ (0 ≤ x2 → b_X7_puts_47 d 77 l1 l2 l4 (u5) h1 K E) ∧ (¬ (0 ≤ x2) → b_X7_puts_6 d 77 l1 l2 (l4 + (-1)) (u5) h1 K E)) E)))))) : b_X7_puts_6 d 77 l1 l2 l4 u5 h K E := by
  show Ex d [] tb_X7_puts (6, [some (.ref 77), some (.int l1), some (.long l2), none, some (.int l4), u5], []) h _
  refine Ex.pure 1 (fr2 := (8, [some (.ref 77), some (.int l1), some (.long l2), none, some (.int l4), u5], [.int l4])) rfl ?_
  refine Ex.br (x := (47, [some (.ref 77), some (.int l1), some (.long l2), none, some (.int l4), u5], [])) (y := (11, [some (.ref 77), some (.int l1), some (.long l2), none, some (.int l4), u5], [])) (b := l4 ≤ 0) rfl (fun hb => ?_) (fun hb => ?_)
  · replace H := H.1 (hb)
    exact H
  · replace H := H.2 (hb)
    refine Ex.pure 1 (fr2 := (12, [some (.ref 77), some (.int l1), some (.long l2), none, some (.int l4), u5], [.ref 77])) rfl ?_
    refine Ex.getQ rfl (sg_77 hs) rfl ?_
    refine Ex.pure 3 (fr2 := (19, [some (.ref 77), some (.int l1), some (.long l2), none, some (.int l4), u5], [.int (l4 - 1), .ref 85])) rfl ?_
    refine Ex.iald rfl (Or.inl rfl) (sg_85 hs) H.1 ?_
    replace H := H.2
    refine Ex.pure 1 (fr2 := (21, [some (.ref 77), some (.int l1), some (.long l2), none, some (.int l4), u5], [.int l1, .int (h.2.1 85 (ix (l4 - 1)))])) rfl ?_
    refine Ex.br (x := (47, [some (.ref 77), some (.int l1), some (.long l2), none, some (.int l4), u5], [])) (y := (24, [some (.ref 77), some (.int l1), some (.long l2), none, some (.int l4), u5], [])) (b := (h.2.1 85 (ix (l4 - 1))) = l1) rfl (fun hb => ?_) (fun hb => ?_)
    · replace H := H.1 (hb)
      exact H
    · replace H := H.2 (hb)
      refine Ex.pure 2 (fr2 := (26, [some (.ref 77), some (.int l1), some (.long l2), none, some (.int l4), u5], [.ref 77, .ref 77])) rfl ?_
      refine Ex.getQ rfl (sg_77 hs) rfl ?_
      refine Ex.pure 3 (fr2 := (33, [some (.ref 77), some (.int l1), some (.long l2), none, some (.int l4), u5], [.int (l4 - 1), .ref 85, .ref 77])) rfl ?_
      refine Ex.iald rfl (Or.inl rfl) (sg_85 hs) H.1 ?_
      replace H := H.2
      refine Ex.pure 1 (fr2 := (35, [some (.ref 77), some (.int l1), some (.long l2), none, some (.int l4), u5], [.int l1, .int (h.2.1 85 (ix (l4 - 1))), .ref 77])) rfl ?_
      refine Ex.cal (rest := []) (j := m_X7_compared) (as := [.ref 77, .int (h.2.1 85 (ix (l4 - 1))), .int l1]) (vst (a := 120) (b := 3) (c := 6) (rest := []) (vs := [.int (h.2.1 85 (ix (l4 - 1))), .int l1]) rfl ⟨Nat.le_of_ble_eq_true rfl, Nat.le_of_ble_eq_true rfl⟩ rfl rfl (sg_77 hs)) (H.imp ?_)
      intro rv h1 H
      obtain ⟨x2, rfl, H⟩ := H
      obtain ⟨hs, H⟩ := H
      show Ex d [] tb_X7_puts (38, [some (.ref 77), some (.int l1), some (.long l2), none, some (.int l4), u5], [.int x2]) h1 _
      refine Ex.br (x := (47, [some (.ref 77), some (.int l1), some (.long l2), none, some (.int l4), u5], [])) (y := (41, [some (.ref 77), some (.int l1), some (.long l2), none, some (.int l4), u5], [])) (b := 0 ≤ x2) rfl (fun hb => ?_) (fun hb => ?_)
      · replace H := H.1 (hb)
        exact H
      · replace H := H.2 (hb)
        refine Ex.pure 2 (fr2 := (6, [some (.ref 77), some (.int l1), some (.long l2), none, some (.int (l4 + (-1))), u5], [])) rfl ?_
        exact H
theorem w_X7_puts_47 {d : Nat} {h : XH} {y : Nat → Nat} {K : XK} {E : XE} {l1 : Int32} {l2 : Int64} {l4 : Int32} {u5 : Option Value} (hd : 20 ≤ d) (hs : Sg h.1 y) (H : (l4 ≤ 0 → b_X7_puts_79 d 77 l1 l2 l4 (u5) h K E) ∧ (¬ (l4 ≤ 0) → (Ix (l4 - 1) 80 ∧ (¬ (h.2.1 85 (ix (l4 - 1))) = l1 → b_X7_puts_79 d 77 l1 l2 l4 (u5) h K E) ∧ (¬ (¬ (h.2.1 85 (ix (l4 - 1))) = l1) → (Ix (l4 - 1) 80 ∧ (Ix (l4 - 1) 80 ∧ (∀ h1 : XH, h1 = (x_setJ h 86 (ix (l4 - 1)) ((h.2.2.1 86 (ix (l4 - 1))) + l2)) → K none h1))))))) : b_X7_puts_47 d 77 l1 l2 l4 u5 h K E := by
  show Ex d [] tb_X7_puts (47, [some (.ref 77), some (.int l1), some (.long l2), none, some (.int l4), u5], []) h _
  refine Ex.pure 1 (fr2 := (49, [some (.ref 77), some (.int l1), some (.long l2), none, some (.int l4), u5], [.int l4])) rfl ?_
  refine Ex.br (x := (79, [some (.ref 77), some (.int l1), some (.long l2), none, some (.int l4), u5], [])) (y := (52, [some (.ref 77), some (.int l1), some (.long l2), none, some (.int l4), u5], [])) (b := l4 ≤ 0) rfl (fun hb => ?_) (fun hb => ?_)
  · replace H := H.1 (hb)
    exact H
  · replace H := H.2 (hb)
    refine Ex.pure 1 (fr2 := (53, [some (.ref 77), some (.int l1), some (.long l2), none, some (.int l4), u5], [.ref 77])) rfl ?_
    refine Ex.getQ rfl (sg_77 hs) rfl ?_
    refine Ex.pure 3 (fr2 := (60, [some (.ref 77), some (.int l1), some (.long l2), none, some (.int l4), u5], [.int (l4 - 1), .ref 85])) rfl ?_
    refine Ex.iald rfl (Or.inl rfl) (sg_85 hs) H.1 ?_
    replace H := H.2
    refine Ex.pure 1 (fr2 := (62, [some (.ref 77), some (.int l1), some (.long l2), none, some (.int l4), u5], [.int l1, .int (h.2.1 85 (ix (l4 - 1)))])) rfl ?_
    refine Ex.br (x := (79, [some (.ref 77), some (.int l1), some (.long l2), none, some (.int l4), u5], [])) (y := (65, [some (.ref 77), some (.int l1), some (.long l2), none, some (.int l4), u5], [])) (b := ¬ (h.2.1 85 (ix (l4 - 1))) = l1) rfl (fun hb => ?_) (fun hb => ?_)
    · replace H := H.1 (hb)
      exact H
    · replace H := H.2 (hb)
      refine Ex.pure 1 (fr2 := (66, [some (.ref 77), some (.int l1), some (.long l2), none, some (.int l4), u5], [.ref 77])) rfl ?_
      refine Ex.getQ rfl (sg_77 hs) rfl ?_
      refine Ex.pure 4 (fr2 := (74, [some (.ref 77), some (.int l1), some (.long l2), none, some (.int l4), u5], [.int (l4 - 1), .ref 86, .int (l4 - 1), .ref 86])) rfl ?_
      refine Ex.lald rfl (sg_86 hs) H.1 ?_
      replace H := H.2
      refine Ex.pure 2 (fr2 := (77, [some (.ref 77), some (.int l1), some (.long l2), none, some (.int l4), u5], [.long ((h.2.2.1 86 (ix (l4 - 1))) + l2), .int (l4 - 1), .ref 86])) rfl ?_
      refine Ex.last rfl (sg_86 hs) H.1 ?_
      replace H := H.2
      obtain ⟨h1, e1⟩ : ∃ z : XH, z = (x_setJ h 86 (ix (l4 - 1)) ((h.2.2.1 86 (ix (l4 - 1))) + l2)) := ⟨_, rfl⟩
      rw [← e1]
      replace H := H h1 e1
      replace hs : Sg h1.1 y := by rw [e1]; exact hs
      exact Ex.vret rfl H
theorem w_X7_puts_79 {d : Nat} {h : XH} {y : Nat → Nat} {K : XK} {E : XE} {l1 : Int32} {l2 : Int64} {l4 : Int32} {u5 : Option Value} (hd : 20 ≤ d) (hs : Sg h.1 y) (H : b_X7_puts_85 d 77 l1 l2 l4 (h.2.1 77 11) h K E) : b_X7_puts_79 d 77 l1 l2 l4 u5 h K E := by
  show Ex d [] tb_X7_puts (79, [some (.ref 77), some (.int l1), some (.long l2), none, some (.int l4), u5], []) h _
  refine Ex.pure 1 (fr2 := (80, [some (.ref 77), some (.int l1), some (.long l2), none, some (.int l4), u5], [.ref 77])) rfl ?_
  refine Ex.getI rfl (Or.inl rfl) (sg_77 hs) ?_
  refine Ex.pure 1 (fr2 := (85, [some (.ref 77), some (.int l1), some (.long l2), none, some (.int l4), some (.int (h.2.1 77 11))], [])) rfl ?_
  exact H
theorem w_X7_puts_85 {d : Nat} {h : XH} {y : Nat → Nat} {K : XK} {E : XE} {l1 : Int32} {l2 : Int64} {l4 : Int32} {l5 : Int32} (hd : 20 ≤ d) (hs : Sg h.1 y) (H : (l5 ≤ l4 → (Ix l4 80 ∧ (∀ h1 : XH, h1 = (x_setI h 85 (ix l4) l1) → (Ix l4 80 ∧ (∀ h2 : XH, h2 = (x_setJ h1 86 (ix l4) l2) → (∀ h3 : XH, h3 = (x_setI h2 77 11 ((h2.2.1 77 11) + 1)) → K none h3)))))) ∧ (¬ (l5 ≤ l4) → (Ix (l5 - 1) 80 ∧ (Ix l5 80 ∧ (∀ h4 : XH, h4 = (x_setI h 85 (ix l5) (h.2.1 85 (ix (l5 - 1)))) → (Ix (l5 - 1) 80 ∧ (Ix l5 80 ∧ (∀ h5 : XH, h5 = (x_setJ h4 86 (ix l5) (h4.2.2.1 86 (ix (l5 - 1)))) → b_X7_puts_85 d 77 l1 l2 l4 (l5 + (-1)) h5 K E)))))))) : b_X7_puts_85 d 77 l1 l2 l4 l5 h K E := by
  show Ex d [] tb_X7_puts (85, [some (.ref 77), some (.int l1), some (.long l2), none, some (.int l4), some (.int l5)], []) h _
  refine Ex.pure 2 (fr2 := (89, [some (.ref 77), some (.int l1), some (.long l2), none, some (.int l4), some (.int l5)], [.int l4, .int l5])) rfl ?_
  refine Ex.br (x := (130, [some (.ref 77), some (.int l1), some (.long l2), none, some (.int l4), some (.int l5)], [])) (y := (92, [some (.ref 77), some (.int l1), some (.long l2), none, some (.int l4), some (.int l5)], [])) (b := l5 ≤ l4) rfl (fun hb => ?_) (fun hb => ?_)
  · replace H := H.1 (hb)
    refine Ex.pure 1 (fr2 := (131, [some (.ref 77), some (.int l1), some (.long l2), none, some (.int l4), some (.int l5)], [.ref 77])) rfl ?_
    refine Ex.getQ rfl (sg_77 hs) rfl ?_
    refine Ex.pure 2 (fr2 := (137, [some (.ref 77), some (.int l1), some (.long l2), none, some (.int l4), some (.int l5)], [.int l1, .int l4, .ref 85])) rfl ?_
    refine Ex.iast rfl (sg_85 hs) H.1 ?_
    replace H := H.2
    obtain ⟨h1, e1⟩ : ∃ z : XH, z = (x_setI h 85 (ix l4) l1) := ⟨_, rfl⟩
    rw [← e1]
    replace H := H h1 e1
    replace hs : Sg h1.1 y := by rw [e1]; exact hs
    refine Ex.pure 1 (fr2 := (139, [some (.ref 77), some (.int l1), some (.long l2), none, some (.int l4), some (.int l5)], [.ref 77])) rfl ?_
    refine Ex.getQ rfl (sg_77 hs) rfl ?_
    refine Ex.pure 2 (fr2 := (145, [some (.ref 77), some (.int l1), some (.long l2), none, some (.int l4), some (.int l5)], [.long l2, .int l4, .ref 86])) rfl ?_
    refine Ex.last rfl (sg_86 hs) H.1 ?_
    replace H := H.2
    obtain ⟨h2, e2⟩ : ∃ z : XH, z = (x_setJ h1 86 (ix l4) l2) := ⟨_, rfl⟩
    rw [← e2]
    replace H := H h2 e2
    replace hs : Sg h2.1 y := by rw [e2]; exact hs
    refine Ex.pure 2 (fr2 := (148, [some (.ref 77), some (.int l1), some (.long l2), none, some (.int l4), some (.int l5)], [.ref 77, .ref 77])) rfl ?_
    refine Ex.getI rfl (Or.inl rfl) (sg_77 hs) ?_
    refine Ex.pure 2 (fr2 := (153, [some (.ref 77), some (.int l1), some (.long l2), none, some (.int l4), some (.int l5)], [.int ((h2.2.1 77 11) + 1), .ref 77])) rfl ?_
    refine Ex.putI rfl (sg_77 hs) ?_
    obtain ⟨h3, e3⟩ : ∃ z : XH, z = (x_setI h2 77 11 ((h2.2.1 77 11) + 1)) := ⟨_, rfl⟩
    rw [← e3]
    replace H := H h3 e3
    replace hs : Sg h3.1 y := by rw [e3]; exact hs
    exact Ex.vret rfl H
  · replace H := H.2 (hb)
    refine Ex.pure 1 (fr2 := (93, [some (.ref 77), some (.int l1), some (.long l2), none, some (.int l4), some (.int l5)], [.ref 77])) rfl ?_
    refine Ex.getQ rfl (sg_77 hs) rfl ?_
    refine Ex.pure 2 (fr2 := (99, [some (.ref 77), some (.int l1), some (.long l2), none, some (.int l4), some (.int l5)], [.ref 77, .int l5, .ref 85])) rfl ?_
    refine Ex.getQ rfl (sg_77 hs) rfl ?_
    refine Ex.pure 3 (fr2 := (106, [some (.ref 77), some (.int l1), some (.long l2), none, some (.int l4), some (.int l5)], [.int (l5 - 1), .ref 85, .int l5, .ref 85])) rfl ?_
    refine Ex.iald rfl (Or.inl rfl) (sg_85 hs) H.1 ?_
    replace H := H.2
    refine Ex.iast rfl (sg_85 hs) H.1 ?_
    replace H := H.2
    obtain ⟨h4, e4⟩ : ∃ z : XH, z = (x_setI h 85 (ix l5) (h.2.1 85 (ix (l5 - 1)))) := ⟨_, rfl⟩
    rw [← e4]
    replace H := H h4 e4
    replace hs : Sg h4.1 y := by rw [e4]; exact hs
    refine Ex.pure 1 (fr2 := (109, [some (.ref 77), some (.int l1), some (.long l2), none, some (.int l4), some (.int l5)], [.ref 77])) rfl ?_
    refine Ex.getQ rfl (sg_77 hs) rfl ?_
    refine Ex.pure 2 (fr2 := (115, [some (.ref 77), some (.int l1), some (.long l2), none, some (.int l4), some (.int l5)], [.ref 77, .int l5, .ref 86])) rfl ?_
    refine Ex.getQ rfl (sg_77 hs) rfl ?_
    refine Ex.pure 3 (fr2 := (122, [some (.ref 77), some (.int l1), some (.long l2), none, some (.int l4), some (.int l5)], [.int (l5 - 1), .ref 86, .int l5, .ref 86])) rfl ?_
    refine Ex.lald rfl (sg_86 hs) H.1 ?_
    replace H := H.2
    refine Ex.last rfl (sg_86 hs) H.1 ?_
    replace H := H.2
    obtain ⟨h5, e5⟩ : ∃ z : XH, z = (x_setJ h4 86 (ix l5) (h4.2.2.1 86 (ix (l5 - 1)))) := ⟨_, rfl⟩
    rw [← e5]
    replace H := H h5 e5
    replace hs : Sg h5.1 y := by rw [e5]; exact hs
    refine Ex.pure 2 (fr2 := (85, [some (.ref 77), some (.int l1), some (.long l2), none, some (.int l4), some (.int (l5 + (-1)))], [])) rfl ?_
    exact H
def b_X7_multipliedNaturally_8 (d : Nat) (r_0 : Nat) (l1 : Int32) (l2 : Int32) (l3 : Int32) (l4 : Int32) (u5 : Option Value) (h : XH) (K : XK) (E : XE) : Prop := Ex d [] tb_X7_multipliedNaturally (8, [some (.ref r_0), some (.int l1), some (.int l2), some (.int l3), some (.int l4), u5], []) h (Po K E)
def b_X7_multipliedNaturally_30 (d : Nat) (r_0 : Nat) (l1 : Int32) (l2 : Int32) (l3 : Int32) (l4 : Int32) (l5 : Int32) (h : XH) (K : XK) (E : XE) : Prop := Ex d [] tb_X7_multipliedNaturally (30, [some (.ref r_0), some (.int l1), some (.int l2), some (.int l3), some (.int l4), some (.int l5)], []) h (Po K E)
def b_X7_multipliedNaturally_128 (d : Nat) (r_0 : Nat) (u1 : Option Value) (u2 : Option Value) (l3 : Int32) (l4 : Int32) (u5 : Option Value) (h : XH) (K : XK) (E : XE) : Prop := Ex d [] tb_X7_multipliedNaturally (128, [some (.ref r_0), u1, u2, some (.int l3), some (.int l4), u5], []) h (Po K E)
theorem w_X7_multipliedNaturally {d : Nat} {h : XH} {y : Nat → Nat} {K : XK} {E : XE} {a : Int32} {b : Int32} (hd : 20 ≤ d) (hs : Sg h.1 y) (H : b_X7_multipliedNaturally_8 d 77 a b 0 (8 * a) none h K E) : Ca (d + 1) m_X7_multipliedNaturally [.ref 77, .int a, .int b] h K E := by
  refine Ca.of ⟨by show 3 ≤ 6; omega, rfl⟩ ?_
  show Ex d [] tb_X7_multipliedNaturally (0, [some (.ref 77), some (.int a), some (.int b), none, none, none], []) h _
  refine Ex.pure 6 (fr2 := (8, [some (.ref 77), some (.int a), some (.int b), some (.int 0), some (.int (8 * a)), none], [])) rfl ?_
  exact H
theorem w_X7_multipliedNaturally_8 {d : Nat} {h : XH} {y : Nat → Nat} {K : XK} {E : XE} {l1 : Int32} {l2 : Int32} {l3 : Int32} {l4 : Int32} {u5 : Option Value} (hd : 20 ≤ d) (hs : Sg h.1 y) (H : (Ix l1 2000 ∧ (((8 * l1) + (h.2.1 82 (ix l1))) ≤ l4 → (∀ h1 : XH, h1 = (x_setI h 77 11 0) → b_X7_multipliedNaturally_128 d 77 (some (.int l1)) (some (.int l2)) l3 0 (u5) h1 K E)) ∧ (¬ (((8 * l1) + (h.2.1 82 (ix l1))) ≤ l4) → b_X7_multipliedNaturally_30 d 77 l1 l2 l3 l4 (8 * l2) h K E))) : b_X7_multipliedNaturally_8 d 77 l1 l2 l3 l4 u5 h K E := by
  show Ex d [] tb_X7_multipliedNaturally (8, [some (.ref 77), some (.int l1), some (.int l2), some (.int l3), some (.int l4), u5], []) h _
  refine Ex.pure 5 (fr2 := (15, [some (.ref 77), some (.int l1), some (.int l2), some (.int l3), some (.int l4), u5], [.ref 77, .int (8 * l1), .int l4])) rfl ?_
  refine Ex.getQ rfl (sg_77 hs) rfl ?_
  refine Ex.pure 1 (fr2 := (19, [some (.ref 77), some (.int l1), some (.int l2), some (.int l3), some (.int l4), u5], [.int l1, .ref 82, .int (8 * l1), .int l4])) rfl ?_
  refine Ex.iald rfl (Or.inl rfl) (sg_82 hs) H.1 ?_
  replace H := H.2
  refine Ex.pure 1 (fr2 := (21, [some (.ref 77), some (.int l1), some (.int l2), some (.int l3), some (.int l4), u5], [.int ((8 * l1) + (h.2.1 82 (ix l1))), .int l4])) rfl ?_
  refine Ex.br (x := (120, [some (.ref 77), some (.int l1), some (.int l2), some (.int l3), some (.int l4), u5], [])) (y := (24, [some (.ref 77), some (.int l1), some (.int l2), some (.int l3), some (.int l4), u5], [])) (b := ((8 * l1) + (h.2.1 82 (ix l1))) ≤ l4) rfl (fun hb => ?_) (fun hb => ?_)
  · replace H := H.1 (hb)
    refine Ex.pure 2 (fr2 := (122, [some (.ref 77), some (.int l1), some (.int l2), some (.int l3), some (.int l4), u5], [.int 0, .ref 77])) rfl ?_
    refine Ex.putI rfl (sg_77 hs) ?_
    obtain ⟨h1, e1⟩ : ∃ z : XH, z = (x_setI h 77 11 0) := ⟨_, rfl⟩
    rw [← e1]
    replace H := H h1 e1
    replace hs : Sg h1.1 y := by rw [e1]; exact hs
    refine Ex.pure 2 (fr2 := (128, [some (.ref 77), some (.int l1), some (.int l2), some (.int l3), some (.int 0), u5], [])) rfl ?_
    exact H
  · replace H := H.2 (hb)
    refine Ex.pure 4 (fr2 := (30, [some (.ref 77), some (.int l1), some (.int l2), some (.int l3), some (.int l4), some (.int (8 * l2))], [])) rfl ?_
    exact H
theorem w_X7_multipliedNaturally_30 {d : Nat} {h : XH} {y : Nat → Nat} {K : XK} {E : XE} {l1 : Int32} {l2 : Int32} {l3 : Int32} {l4 : Int32} {l5 : Int32} (hd : 20 ≤ d) (hs : Sg h.1 y) (H : (Ix l2 2000 ∧ (((8 * l2) + (h.2.1 82 (ix l2))) ≤ l5 → b_X7_multipliedNaturally_8 d 77 l1 l2 l3 (l4 + 1) (some (.int l5)) h K E) ∧ (¬ (((8 * l2) + (h.2.1 82 (ix l2))) ≤ l5) → (Ix l4 16000 ∧ (Ix l5 16000 ∧ (Ca d m_X7_summedNaturally [.ref 77, .int (h.2.1 80 (ix l4)), .int (h.2.1 80 (ix l5))] h (fun rv h1 => ∃ x2, rv = some (.int x2) ∧ Sg h1.1 y ∧ (Ix l3 64 ∧ (∀ h3 : XH, h3 = (x_setI h1 87 (ix l3) x2) → (Ix l3 64 ∧ (¬ (h3.2.1 87 (ix l3)) = (-1) → (Ix l4 16000 ∧ (Ix l5 16000 ∧ (Ix l3 64 ∧ (∀ h4 : XH, h4 = (x_setJ h3 88 (ix l3) (((h3.2.1 81 (ix l4)) : Int32).toInt64 * ((h3.2.1 81 (ix l5)) : Int32).toInt64)) → b_X7_multipliedNaturally_30 d 77 l1 l2 (l3 + 1) l4 (l5 + 1) h4 K E))))) ∧ (¬ (¬ (h3.2.1 87 (ix l3)) = (-1)) → K (some (.int (-1))) h3))))) E)))))) : b_X7_multipliedNaturally_30 d 77 l1 l2 l3 l4 l5 h K E := by
  show Ex d [] tb_X7_multipliedNaturally (30, [some (.ref 77), some (.int l1), some (.int l2), some (.int l3), some (.int l4), some (.int l5)], []) h _
  refine Ex.pure 5 (fr2 := (37, [some (.ref 77), some (.int l1), some (.int l2), some (.int l3), some (.int l4), some (.int l5)], [.ref 77, .int (8 * l2), .int l5])) rfl ?_
  refine Ex.getQ rfl (sg_77 hs) rfl ?_
  refine Ex.pure 1 (fr2 := (41, [some (.ref 77), some (.int l1), some (.int l2), some (.int l3), some (.int l4), some (.int l5)], [.int l2, .ref 82, .int (8 * l2), .int l5])) rfl ?_
  refine Ex.iald rfl (Or.inl rfl) (sg_82 hs) H.1 ?_
  replace H := H.2
  refine Ex.pure 1 (fr2 := (43, [some (.ref 77), some (.int l1), some (.int l2), some (.int l3), some (.int l4), some (.int l5)], [.int ((8 * l2) + (h.2.1 82 (ix l2))), .int l5])) rfl ?_
  refine Ex.br (x := (114, [some (.ref 77), some (.int l1), some (.int l2), some (.int l3), some (.int l4), some (.int l5)], [])) (y := (46, [some (.ref 77), some (.int l1), some (.int l2), some (.int l3), some (.int l4), some (.int l5)], [])) (b := ((8 * l2) + (h.2.1 82 (ix l2))) ≤ l5) rfl (fun hb => ?_) (fun hb => ?_)
  · replace H := H.1 (hb)
    refine Ex.pure 2 (fr2 := (8, [some (.ref 77), some (.int l1), some (.int l2), some (.int l3), some (.int (l4 + 1)), some (.int l5)], [])) rfl ?_
    exact H
  · replace H := H.2 (hb)
    refine Ex.pure 1 (fr2 := (47, [some (.ref 77), some (.int l1), some (.int l2), some (.int l3), some (.int l4), some (.int l5)], [.ref 77])) rfl ?_
    refine Ex.getQ rfl (sg_77 hs) rfl ?_
    refine Ex.pure 3 (fr2 := (53, [some (.ref 77), some (.int l1), some (.int l2), some (.int l3), some (.int l4), some (.int l5)], [.ref 77, .ref 77, .int l3, .ref 87])) rfl ?_
    refine Ex.getQ rfl (sg_77 hs) rfl ?_
    refine Ex.pure 1 (fr2 := (58, [some (.ref 77), some (.int l1), some (.int l2), some (.int l3), some (.int l4), some (.int l5)], [.int l4, .ref 80, .ref 77, .int l3, .ref 87])) rfl ?_
    refine Ex.iald rfl (Or.inl rfl) (sg_80 hs) H.1 ?_
    replace H := H.2
    refine Ex.pure 1 (fr2 := (60, [some (.ref 77), some (.int l1), some (.int l2), some (.int l3), some (.int l4), some (.int l5)], [.ref 77, .int (h.2.1 80 (ix l4)), .ref 77, .int l3, .ref 87])) rfl ?_
    refine Ex.getQ rfl (sg_77 hs) rfl ?_
    refine Ex.pure 1 (fr2 := (65, [some (.ref 77), some (.int l1), some (.int l2), some (.int l3), some (.int l4), some (.int l5)], [.int l5, .ref 80, .int (h.2.1 80 (ix l4)), .ref 77, .int l3, .ref 87])) rfl ?_
    refine Ex.iald rfl (Or.inl rfl) (sg_80 hs) H.1 ?_
    replace H := H.2
    refine Ex.cal (rest := [.int l3, .ref 87]) (j := m_X7_summedNaturally) (as := [.ref 77, .int (h.2.1 80 (ix l4)), .int (h.2.1 80 (ix l5))]) (vst (a := 126) (b := 3) (c := 6) (rest := [.int l3, .ref 87]) (vs := [.int (h.2.1 80 (ix l4)), .int (h.2.1 80 (ix l5))]) rfl ⟨Nat.le_of_ble_eq_true rfl, Nat.le_of_ble_eq_true rfl⟩ rfl rfl (sg_77 hs)) (H.imp ?_)
    intro rv h1 H
    obtain ⟨x2, rfl, H⟩ := H
    obtain ⟨hs, H⟩ := H
    show Ex d [] tb_X7_multipliedNaturally (69, [some (.ref 77), some (.int l1), some (.int l2), some (.int l3), some (.int l4), some (.int l5)], [.int x2, .int l3, .ref 87]) h1 _
    refine Ex.iast rfl (sg_87 hs) H.1 ?_
    replace H := H.2
    obtain ⟨h3, e3⟩ : ∃ z : XH, z = (x_setI h1 87 (ix l3) x2) := ⟨_, rfl⟩
    rw [← e3]
    replace H := H h3 e3
    replace hs : Sg h3.1 y := by rw [e3]; exact hs
    refine Ex.pure 1 (fr2 := (71, [some (.ref 77), some (.int l1), some (.int l2), some (.int l3), some (.int l4), some (.int l5)], [.ref 77])) rfl ?_
    refine Ex.getQ rfl (sg_77 hs) rfl ?_
    refine Ex.pure 1 (fr2 := (75, [some (.ref 77), some (.int l1), some (.int l2), some (.int l3), some (.int l4), some (.int l5)], [.int l3, .ref 87])) rfl ?_
    refine Ex.iald rfl (Or.inl rfl) (sg_87 hs) H.1 ?_
    replace H := H.2
    refine Ex.pure 1 (fr2 := (77, [some (.ref 77), some (.int l1), some (.int l2), some (.int l3), some (.int l4), some (.int l5)], [.int (-1), .int (h3.2.1 87 (ix l3))])) rfl ?_
    refine Ex.br (x := (82, [some (.ref 77), some (.int l1), some (.int l2), some (.int l3), some (.int l4), some (.int l5)], [])) (y := (80, [some (.ref 77), some (.int l1), some (.int l2), some (.int l3), some (.int l4), some (.int l5)], [])) (b := ¬ (h3.2.1 87 (ix l3)) = (-1)) rfl (fun hb => ?_) (fun hb => ?_)
    · replace H := H.1 (hb)
      refine Ex.pure 1 (fr2 := (83, [some (.ref 77), some (.int l1), some (.int l2), some (.int l3), some (.int l4), some (.int l5)], [.ref 77])) rfl ?_
      refine Ex.getQ rfl (sg_77 hs) rfl ?_
      refine Ex.pure 2 (fr2 := (88, [some (.ref 77), some (.int l1), some (.int l2), some (.int l3), some (.int l4), some (.int l5)], [.ref 77, .int l3, .ref 88])) rfl ?_
      refine Ex.getQ rfl (sg_77 hs) rfl ?_
      refine Ex.pure 1 (fr2 := (93, [some (.ref 77), some (.int l1), some (.int l2), some (.int l3), some (.int l4), some (.int l5)], [.int l4, .ref 81, .int l3, .ref 88])) rfl ?_
      refine Ex.iald rfl (Or.inl rfl) (sg_81 hs) H.1 ?_
      replace H := H.2
      refine Ex.pure 2 (fr2 := (96, [some (.ref 77), some (.int l1), some (.int l2), some (.int l3), some (.int l4), some (.int l5)], [.ref 77, .long (((h3.2.1 81 (ix l4)) : Int32).toInt64), .int l3, .ref 88])) rfl ?_
      refine Ex.getQ rfl (sg_77 hs) rfl ?_
      refine Ex.pure 1 (fr2 := (101, [some (.ref 77), some (.int l1), some (.int l2), some (.int l3), some (.int l4), some (.int l5)], [.int l5, .ref 81, .long (((h3.2.1 81 (ix l4)) : Int32).toInt64), .int l3, .ref 88])) rfl ?_
      refine Ex.iald rfl (Or.inl rfl) (sg_81 hs) H.1 ?_
      replace H := H.2
      refine Ex.pure 2 (fr2 := (104, [some (.ref 77), some (.int l1), some (.int l2), some (.int l3), some (.int l4), some (.int l5)], [.long (((h3.2.1 81 (ix l4)) : Int32).toInt64 * ((h3.2.1 81 (ix l5)) : Int32).toInt64), .int l3, .ref 88])) rfl ?_
      refine Ex.last rfl (sg_88 hs) H.1 ?_
      replace H := H.2
      obtain ⟨h4, e4⟩ : ∃ z : XH, z = (x_setJ h3 88 (ix l3) (((h3.2.1 81 (ix l4)) : Int32).toInt64 * ((h3.2.1 81 (ix l5)) : Int32).toInt64)) := ⟨_, rfl⟩
      rw [← e4]
      replace H := H h4 e4
      replace hs : Sg h4.1 y := by rw [e4]; exact hs
      refine Ex.pure 3 (fr2 := (30, [some (.ref 77), some (.int l1), some (.int l2), some (.int (l3 + 1)), some (.int l4), some (.int (l5 + 1))], [])) rfl ?_
      exact H
    · replace H := H.2 (hb)
      refine Ex.pure 1 (fr2 := (81, [some (.ref 77), some (.int l1), some (.int l2), some (.int l3), some (.int l4), some (.int l5)], [.int (-1)])) rfl ?_
      exact Ex.iret rfl (Or.inl rfl) H
theorem w_X7_multipliedNaturally_128 {d : Nat} {h : XH} {y : Nat → Nat} {K : XK} {E : XE} {u1 : Option Value} {u2 : Option Value} {l3 : Int32} {l4 : Int32} {u5 : Option Value} (hd : 20 ≤ d) (hs : Sg h.1 y) (H : (l3 ≤ l4 → (Ca d m_X7_makes [.ref 77] h (fun rv h1 => ∃ x2, rv = some (.int x2) ∧ Sg h1.1 y ∧ K (some (.int x2)) h1) E)) ∧ (¬ (l3 ≤ l4) → (Ix l4 64 ∧ (Ix l4 64 ∧ (Ca d m_X7_puts [.ref 77, .int (h.2.1 87 (ix l4)), .long (h.2.2.1 88 (ix l4))] h (fun rv h3 => rv = none ∧ Sg h3.1 y ∧ b_X7_multipliedNaturally_128 d 77 (u1) (u2) l3 (l4 + 1) (u5) h3 K E) E))))) : b_X7_multipliedNaturally_128 d 77 u1 u2 l3 l4 u5 h K E := by
  show Ex d [] tb_X7_multipliedNaturally (128, [some (.ref 77), u1, u2, some (.int l3), some (.int l4), u5], []) h _
  refine Ex.pure 2 (fr2 := (131, [some (.ref 77), u1, u2, some (.int l3), some (.int l4), u5], [.int l3, .int l4])) rfl ?_
  refine Ex.br (x := (158, [some (.ref 77), u1, u2, some (.int l3), some (.int l4), u5], [])) (y := (134, [some (.ref 77), u1, u2, some (.int l3), some (.int l4), u5], [])) (b := l3 ≤ l4) rfl (fun hb => ?_) (fun hb => ?_)
  · replace H := H.1 (hb)
    refine Ex.pure 1 (fr2 := (159, [some (.ref 77), u1, u2, some (.int l3), some (.int l4), u5], [.ref 77])) rfl ?_
    refine Ex.cal (rest := []) (j := m_X7_makes) (as := [.ref 77]) (vst (a := 123) (b := 1) (c := 6) (rest := []) (vs := []) rfl ⟨Nat.le_of_ble_eq_true rfl, Nat.le_of_ble_eq_true rfl⟩ rfl rfl (sg_77 hs)) (H.imp ?_)
    intro rv h1 H
    obtain ⟨x2, rfl, H⟩ := H
    obtain ⟨hs, H⟩ := H
    show Ex d [] tb_X7_multipliedNaturally (162, [some (.ref 77), u1, u2, some (.int l3), some (.int l4), u5], [.int x2]) h1 _
    exact Ex.iret rfl (Or.inl rfl) H
  · replace H := H.2 (hb)
    refine Ex.pure 2 (fr2 := (136, [some (.ref 77), u1, u2, some (.int l3), some (.int l4), u5], [.ref 77, .ref 77])) rfl ?_
    refine Ex.getQ rfl (sg_77 hs) rfl ?_
    refine Ex.pure 1 (fr2 := (141, [some (.ref 77), u1, u2, some (.int l3), some (.int l4), u5], [.int l4, .ref 87, .ref 77])) rfl ?_
    refine Ex.iald rfl (Or.inl rfl) (sg_87 hs) H.1 ?_
    replace H := H.2
    refine Ex.pure 1 (fr2 := (143, [some (.ref 77), u1, u2, some (.int l3), some (.int l4), u5], [.ref 77, .int (h.2.1 87 (ix l4)), .ref 77])) rfl ?_
    refine Ex.getQ rfl (sg_77 hs) rfl ?_
    refine Ex.pure 1 (fr2 := (148, [some (.ref 77), u1, u2, some (.int l3), some (.int l4), u5], [.int l4, .ref 88, .int (h.2.1 87 (ix l4)), .ref 77])) rfl ?_
    refine Ex.lald rfl (sg_88 hs) H.1 ?_
    replace H := H.2
    refine Ex.cal (rest := []) (j := m_X7_puts) (as := [.ref 77, .int (h.2.1 87 (ix l4)), .long (h.2.2.1 88 (ix l4))]) (vst (a := 128) (b := 3) (c := 6) (rest := []) (vs := [.int (h.2.1 87 (ix l4)), .long (h.2.2.1 88 (ix l4))]) rfl ⟨Nat.le_of_ble_eq_true rfl, Nat.le_of_ble_eq_true rfl⟩ rfl rfl (sg_77 hs)) (H.imp ?_)
    intro rv h3 H
    obtain ⟨rfl, H⟩ := H
    obtain ⟨hs, H⟩ := H
    show Ex d [] tb_X7_multipliedNaturally (152, [some (.ref 77), u1, u2, some (.int l3), some (.int l4), u5], []) h3 _
    refine Ex.pure 2 (fr2 := (128, [some (.ref 77), u1, u2, some (.int l3), some (.int (l4 + 1)), u5], [])) rfl ?_
    exact H
def b_X7_lessOne_10 (d : Nat) (r_0 : Nat) (l1 : Int32) (l2 : Int32) (u3 : Option Value) (u4 : Option Value) (h : XH) (K : XK) (E : XE) : Prop := Ex d [] tb_X7_lessOne (10, [some (.ref r_0), some (.int l1), some (.int l2), u3, u4], []) h (Po K E)
def b_X7_lessOne_53 (d : Nat) (r_0 : Nat) (l1 : Int32) (l2 : Int32) (u3 : Option Value) (u4 : Option Value) (s0 : Int64) (h : XH) (K : XK) (E : XE) : Prop := Ex d [] tb_X7_lessOne (53, [some (.ref r_0), some (.int l1), some (.int l2), u3, u4], [.long s0]) h (Po K E)
def b_X7_lessOne_71 (d : Nat) (r_0 : Nat) (l1 : Int32) (l2 : Int32) (u3 : Option Value) (u4 : Option Value) (h : XH) (K : XK) (E : XE) : Prop := Ex d [] tb_X7_lessOne (71, [some (.ref r_0), some (.int l1), some (.int l2), u3, u4], []) h (Po K E)
theorem w_X7_lessOne {d : Nat} {h : XH} {y : Nat → Nat} {K : XK} {E : XE} {a : Int32} (hd : 20 ≤ d) (hs : Sg h.1 y) (H : (∀ h1 : XH, h1 = (x_setI h 77 11 0) → b_X7_lessOne_10 d 77 a (8 * a) none none h1 K E)) : Ca (d + 1) m_X7_lessOne [.ref 77, .int a] h K E := by
  refine Ca.of ⟨by show 2 ≤ 5; omega, rfl⟩ ?_
  show Ex d [] tb_X7_lessOne (0, [some (.ref 77), some (.int a), none, none, none], []) h _
  refine Ex.pure 2 (fr2 := (2, [some (.ref 77), some (.int a), none, none, none], [.int 0, .ref 77])) rfl ?_
  refine Ex.putI rfl (sg_77 hs) ?_
  obtain ⟨h1, e1⟩ : ∃ z : XH, z = (x_setI h 77 11 0) := ⟨_, rfl⟩
  rw [← e1]
  replace H := H h1 e1
  replace hs : Sg h1.1 y := by rw [e1]; exact hs
  refine Ex.pure 4 (fr2 := (10, [some (.ref 77), some (.int a), some (.int (8 * a)), none, none], [])) rfl ?_
  exact H
theorem w_X7_lessOne_10 {d : Nat} {h : XH} {y : Nat → Nat} {K : XK} {E : XE} {l1 : Int32} {l2 : Int32} {u3 : Option Value} {u4 : Option Value} (hd : 20 ≤ d) (hs : Sg h.1 y) (H : (Ix l1 2000 ∧ (((8 * l1) + (h.2.1 82 (ix l1))) ≤ l2 → K none h) ∧ (¬ (((8 * l1) + (h.2.1 82 (ix l1))) ≤ l2) → (Ca d m_X7_last [.ref 77, .int l1] h (fun rv h1 => ∃ x2, rv = some (.int x2) ∧ Sg h1.1 y ∧ (¬ l2 = x2 → (Ix l2 16000 ∧ b_X7_lessOne_53 d 77 l1 l2 (u3) (u4) (((h1.2.1 81 (ix l2)) : Int32).toInt64) h1 K E)) ∧ (¬ (¬ l2 = x2) → (Ix l2 16000 ∧ b_X7_lessOne_53 d 77 l1 l2 (u3) (u4) ((((h1.2.1 81 (ix l2)) - 1) : Int32).toInt64) h1 K E))) E)))) : b_X7_lessOne_10 d 77 l1 l2 u3 u4 h K E := by
  show Ex d [] tb_X7_lessOne (10, [some (.ref 77), some (.int l1), some (.int l2), u3, u4], []) h _
  refine Ex.pure 5 (fr2 := (16, [some (.ref 77), some (.int l1), some (.int l2), u3, u4], [.ref 77, .int (8 * l1), .int l2])) rfl ?_
  refine Ex.getQ rfl (sg_77 hs) rfl ?_
  refine Ex.pure 1 (fr2 := (20, [some (.ref 77), some (.int l1), some (.int l2), u3, u4], [.int l1, .ref 82, .int (8 * l1), .int l2])) rfl ?_
  refine Ex.iald rfl (Or.inl rfl) (sg_82 hs) H.1 ?_
  replace H := H.2
  refine Ex.pure 1 (fr2 := (22, [some (.ref 77), some (.int l1), some (.int l2), u3, u4], [.int ((8 * l1) + (h.2.1 82 (ix l1))), .int l2])) rfl ?_
  refine Ex.br (x := (77, [some (.ref 77), some (.int l1), some (.int l2), u3, u4], [])) (y := (25, [some (.ref 77), some (.int l1), some (.int l2), u3, u4], [])) (b := ((8 * l1) + (h.2.1 82 (ix l1))) ≤ l2) rfl (fun hb => ?_) (fun hb => ?_)
  · replace H := H.1 (hb)
    exact Ex.vret rfl H
  · replace H := H.2 (hb)
    refine Ex.pure 3 (fr2 := (28, [some (.ref 77), some (.int l1), some (.int l2), u3, u4], [.int l1, .ref 77, .int l2])) rfl ?_
    refine Ex.cal (rest := [.int l2]) (j := m_X7_last) (as := [.ref 77, .int l1]) (vst (a := 119) (b := 2) (c := 6) (rest := [.int l2]) (vs := [.int l1]) rfl ⟨Nat.le_of_ble_eq_true rfl, Nat.le_of_ble_eq_true rfl⟩ rfl rfl (sg_77 hs)) (H.imp ?_)
    intro rv h1 H
    obtain ⟨x2, rfl, H⟩ := H
    obtain ⟨hs, H⟩ := H
    show Ex d [] tb_X7_lessOne (31, [some (.ref 77), some (.int l1), some (.int l2), u3, u4], [.int x2, .int l2]) h1 _
    refine Ex.br (x := (46, [some (.ref 77), some (.int l1), some (.int l2), u3, u4], [])) (y := (34, [some (.ref 77), some (.int l1), some (.int l2), u3, u4], [])) (b := ¬ l2 = x2) rfl (fun hb => ?_) (fun hb => ?_)
    · replace H := H.1 (hb)
      refine Ex.pure 1 (fr2 := (47, [some (.ref 77), some (.int l1), some (.int l2), u3, u4], [.ref 77])) rfl ?_
      refine Ex.getQ rfl (sg_77 hs) rfl ?_
      refine Ex.pure 1 (fr2 := (51, [some (.ref 77), some (.int l1), some (.int l2), u3, u4], [.int l2, .ref 81])) rfl ?_
      refine Ex.iald rfl (Or.inl rfl) (sg_81 hs) H.1 ?_
      replace H := H.2
      refine Ex.pure 1 (fr2 := (53, [some (.ref 77), some (.int l1), some (.int l2), u3, u4], [.long (((h1.2.1 81 (ix l2)) : Int32).toInt64)])) rfl ?_
      exact H
    · replace H := H.2 (hb)
      refine Ex.pure 1 (fr2 := (35, [some (.ref 77), some (.int l1), some (.int l2), u3, u4], [.ref 77])) rfl ?_
      refine Ex.getQ rfl (sg_77 hs) rfl ?_
      refine Ex.pure 1 (fr2 := (39, [some (.ref 77), some (.int l1), some (.int l2), u3, u4], [.int l2, .ref 81])) rfl ?_
      refine Ex.iald rfl (Or.inl rfl) (sg_81 hs) H.1 ?_
      replace H := H.2
      refine Ex.pure 4 (fr2 := (53, [some (.ref 77), some (.int l1), some (.int l2), u3, u4], [.long ((((h1.2.1 81 (ix l2)) - 1) : Int32).toInt64)])) rfl ?_
      exact H
theorem w_X7_lessOne_53 {d : Nat} {h : XH} {y : Nat → Nat} {K : XK} {E : XE} {l1 : Int32} {l2 : Int32} {u3 : Option Value} {u4 : Option Value} {s0 : Int64} (hd : 20 ≤ d) (hs : Sg h.1 y) (H : (s0 ≤ 0 → b_X7_lessOne_71 d 77 l1 l2 (some (.long s0)) none h K E) ∧ (¬ (s0 ≤ 0) → (Ix l2 16000 ∧ (Ca d m_X7_adds [.ref 77, .int (h.2.1 80 (ix l2)), .long s0] h (fun rv h1 => rv = none ∧ Sg h1.1 y ∧ b_X7_lessOne_71 d 77 l1 l2 (some (.long s0)) none h1 K E) E)))) : b_X7_lessOne_53 d 77 l1 l2 u3 u4 s0 h K E := by
  show Ex d [] tb_X7_lessOne (53, [some (.ref 77), some (.int l1), some (.int l2), u3, u4], [.long s0]) h _
  refine Ex.pure 4 (fr2 := (57, [some (.ref 77), some (.int l1), some (.int l2), some (.long s0), none], [.int (lg_cmp s0 0)])) rfl ?_
  refine Ex.br (x := (71, [some (.ref 77), some (.int l1), some (.int l2), some (.long s0), none], [])) (y := (60, [some (.ref 77), some (.int l1), some (.int l2), some (.long s0), none], [])) (b := (lg_cmp s0 0) ≤ 0) rfl (fun hb => ?_) (fun hb => ?_)
  · replace H := H.1 ((lg_cmp_le _ _).mp hb)
    exact H
  · replace H := H.2 (fun z => hb ((lg_cmp_le _ _).mpr z))
    refine Ex.pure 2 (fr2 := (62, [some (.ref 77), some (.int l1), some (.int l2), some (.long s0), none], [.ref 77, .ref 77])) rfl ?_
    refine Ex.getQ rfl (sg_77 hs) rfl ?_
    refine Ex.pure 1 (fr2 := (66, [some (.ref 77), some (.int l1), some (.int l2), some (.long s0), none], [.int l2, .ref 80, .ref 77])) rfl ?_
    refine Ex.iald rfl (Or.inl rfl) (sg_80 hs) H.1 ?_
    replace H := H.2
    refine Ex.pure 1 (fr2 := (68, [some (.ref 77), some (.int l1), some (.int l2), some (.long s0), none], [.long s0, .int (h.2.1 80 (ix l2)), .ref 77])) rfl ?_
    refine Ex.cal (rest := []) (j := m_X7_adds) (as := [.ref 77, .int (h.2.1 80 (ix l2)), .long s0]) (vst (a := 121) (b := 3) (c := 6) (rest := []) (vs := [.int (h.2.1 80 (ix l2)), .long s0]) rfl ⟨Nat.le_of_ble_eq_true rfl, Nat.le_of_ble_eq_true rfl⟩ rfl rfl (sg_77 hs)) (H.imp ?_)
    intro rv h1 H
    obtain ⟨rfl, H⟩ := H
    obtain ⟨hs, H⟩ := H
    show Ex d [] tb_X7_lessOne (71, [some (.ref 77), some (.int l1), some (.int l2), some (.long s0), none], []) h1 _
    exact H
theorem w_X7_lessOne_71 {d : Nat} {h : XH} {y : Nat → Nat} {K : XK} {E : XE} {l1 : Int32} {l2 : Int32} {u3 : Option Value} {u4 : Option Value} (hd : 20 ≤ d) (hs : Sg h.1 y) (H : b_X7_lessOne_10 d 77 l1 (l2 + 1) (u3) (u4) h K E) : b_X7_lessOne_71 d 77 l1 l2 u3 u4 h K E := by
  show Ex d [] tb_X7_lessOne (71, [some (.ref 77), some (.int l1), some (.int l2), u3, u4], []) h _
  refine Ex.pure 2 (fr2 := (10, [some (.ref 77), some (.int l1), some (.int (l2 + 1)), u3, u4], [])) rfl ?_
  exact H
def b_X7_stepped_21 (d : Nat) (r_0 : Nat) (u1 : Option Value) (l2 : Int32) (l3 : Int32) (l4 : Int32) (u5 : Option Value) (u6 : Option Value) (h : XH) (K : XK) (E : XE) : Prop := Ex d [] tb_X7_stepped (21, [some (.ref r_0), u1, some (.int l2), some (.int l3), some (.int l4), u5, u6], []) h (Po K E)
def b_X7_stepped_67 (d : Nat) (r_0 : Nat) (u1 : Option Value) (l2 : Int32) (l3 : Int32) (l4 : Int32) (u5 : Option Value) (u6 : Option Value) (h : XH) (K : XK) (E : XE) : Prop := Ex d [] tb_X7_stepped (67, [some (.ref r_0), u1, some (.int l2), some (.int l3), some (.int l4), u5, u6], []) h (Po K E)
def b_X7_stepped_87 (d : Nat) (r_0 : Nat) (u1 : Option Value) (l2 : Int32) (l3 : Int32) (l4 : Int32) (l5 : Int32) (u6 : Option Value) (h : XH) (K : XK) (E : XE) : Prop := Ex d [] tb_X7_stepped (87, [some (.ref r_0), u1, some (.int l2), some (.int l3), some (.int l4), some (.int l5), u6], []) h (Po K E)
def b_X7_stepped_110 (d : Nat) (r_0 : Nat) (u1 : Option Value) (u2 : Option Value) (l3 : Int32) (u4 : Option Int32) (u5 : Option Value) (u6 : Option Value) (h : XH) (K : XK) (E : XE) : Prop := Ex d [] tb_X7_stepped (110, [some (.ref r_0), u1, u2, some (.int l3), (xoi u4), u5, u6], []) h (Po K E)
def b_X7_stepped_121 (d : Nat) (r_0 : Nat) (u1 : Option Value) (u2 : Option Value) (u3 : Option Value) (u4 : Option Int32) (l5 : Int32) (l6 : Int32) (h : XH) (K : XK) (E : XE) : Prop := Ex d [] tb_X7_stepped (121, [some (.ref r_0), u1, u2, u3, (xoi u4), some (.int l5), some (.int l6)], []) h (Po K E)
theorem w_X7_stepped {d : Nat} {h : XH} {y : Nat → Nat} {K : XK} {E : XE} {a : Int32} {b : Int32} (hd : 20 ≤ d) (hs : Sg h.1 y) (H : (Ix 0 6 ∧ (∀ h1 : XH, h1 = (x_setI h 89 (ix 0) a) → (Ca d m_X7_last [.ref 77, .int a] h1 (fun rv h2 => ∃ x3, rv = some (.int x3) ∧ Sg h2.1 y ∧ (Ix x3 16000 ∧ b_X7_stepped_21 d 77 (some (.int a)) b 0 (h2.2.1 80 (ix x3)) none none h2 K E)) E)))) : Ca (d + 1) m_X7_stepped [.ref 77, .int a, .int b] h K E := by
  refine Ca.of ⟨by show 3 ≤ 7; omega, rfl⟩ ?_
  show Ex d [] tb_X7_stepped (0, [some (.ref 77), some (.int a), some (.int b), none, none, none, none], []) h _
  refine Ex.pure 3 (fr2 := (3, [some (.ref 77), some (.int a), some (.int b), some (.int 0), none, none, none], [.ref 77])) rfl ?_
  refine Ex.getQ rfl (sg_77 hs) rfl ?_
  refine Ex.pure 2 (fr2 := (8, [some (.ref 77), some (.int a), some (.int b), some (.int 0), none, none, none], [.int a, .int 0, .ref 89])) rfl ?_
  refine Ex.iast rfl (sg_89 hs) H.1 ?_
  replace H := H.2
  obtain ⟨h1, e1⟩ : ∃ z : XH, z = (x_setI h 89 (ix 0) a) := ⟨_, rfl⟩
  rw [← e1]
  replace H := H h1 e1
  replace hs : Sg h1.1 y := by rw [e1]; exact hs
  refine Ex.pure 1 (fr2 := (10, [some (.ref 77), some (.int a), some (.int b), some (.int 0), none, none, none], [.ref 77])) rfl ?_
  refine Ex.getQ rfl (sg_77 hs) rfl ?_
  refine Ex.pure 2 (fr2 := (15, [some (.ref 77), some (.int a), some (.int b), some (.int 0), none, none, none], [.int a, .ref 77, .ref 80])) rfl ?_
  refine Ex.cal (rest := [.ref 80]) (j := m_X7_last) (as := [.ref 77, .int a]) (vst (a := 119) (b := 2) (c := 6) (rest := [.ref 80]) (vs := [.int a]) rfl ⟨Nat.le_of_ble_eq_true rfl, Nat.le_of_ble_eq_true rfl⟩ rfl rfl (sg_77 hs)) (H.imp ?_)
  intro rv h2 H
  obtain ⟨x3, rfl, H⟩ := H
  obtain ⟨hs, H⟩ := H
  show Ex d [] tb_X7_stepped (18, [some (.ref 77), some (.int a), some (.int b), some (.int 0), none, none, none], [.int x3, .ref 80]) h2 _
  refine Ex.iald rfl (Or.inl rfl) (sg_80 hs) H.1 ?_
  replace H := H.2
  refine Ex.pure 1 (fr2 := (21, [some (.ref 77), some (.int a), some (.int b), some (.int 0), some (.int (h2.2.1 80 (ix x3))), none, none], [])) rfl ?_
  exact H
theorem w_X7_stepped_21 {d : Nat} {h : XH} {y : Nat → Nat} {K : XK} {E : XE} {u1 : Option Value} {l2 : Int32} {l3 : Int32} {l4 : Int32} {u5 : Option Value} {u6 : Option Value} (hd : 20 ≤ d) (hs : Sg h.1 y) (H : (l4 = 0 → b_X7_stepped_67 d 77 (u1) l2 l3 l4 (u5) (u6) h K E) ∧ (¬ (l4 = 0) → (Ca d m_X7_last [.ref 77, .int l4] h (fun rv h1 => ∃ x2, rv = some (.int x2) ∧ Sg h1.1 y ∧ (Ix x2 16000 ∧ ((h1.2.1 80 (ix x2)) = 0 → b_X7_stepped_67 d 77 (u1) l2 l3 l4 (u5) (u6) h1 K E) ∧ (¬ ((h1.2.1 80 (ix x2)) = 0) → (Ix (l3 + 1) 6 ∧ (∀ h3 : XH, h3 = (x_setI h1 89 (ix (l3 + 1)) l4) → (Ca d m_X7_last [.ref 77, .int l4] h3 (fun rv h4 => ∃ x5, rv = some (.int x5) ∧ Sg h4.1 y ∧ (Ix x5 16000 ∧ b_X7_stepped_21 d 77 (u1) l2 (l3 + 1) (h4.2.1 80 (ix x5)) (u5) (u6) h4 K E)) E)))))) E))) : b_X7_stepped_21 d 77 u1 l2 l3 l4 u5 u6 h K E := by
  show Ex d [] tb_X7_stepped (21, [some (.ref 77), u1, some (.int l2), some (.int l3), some (.int l4), u5, u6], []) h _
  refine Ex.pure 1 (fr2 := (23, [some (.ref 77), u1, some (.int l2), some (.int l3), some (.int l4), u5, u6], [.int l4])) rfl ?_
  refine Ex.br (x := (67, [some (.ref 77), u1, some (.int l2), some (.int l3), some (.int l4), u5, u6], [])) (y := (26, [some (.ref 77), u1, some (.int l2), some (.int l3), some (.int l4), u5, u6], [])) (b := l4 = 0) rfl (fun hb => ?_) (fun hb => ?_)
  · replace H := H.1 (hb)
    exact H
  · replace H := H.2 (hb)
    refine Ex.pure 1 (fr2 := (27, [some (.ref 77), u1, some (.int l2), some (.int l3), some (.int l4), u5, u6], [.ref 77])) rfl ?_
    refine Ex.getQ rfl (sg_77 hs) rfl ?_
    refine Ex.pure 2 (fr2 := (33, [some (.ref 77), u1, some (.int l2), some (.int l3), some (.int l4), u5, u6], [.int l4, .ref 77, .ref 80])) rfl ?_
    refine Ex.cal (rest := [.ref 80]) (j := m_X7_last) (as := [.ref 77, .int l4]) (vst (a := 119) (b := 2) (c := 6) (rest := [.ref 80]) (vs := [.int l4]) rfl ⟨Nat.le_of_ble_eq_true rfl, Nat.le_of_ble_eq_true rfl⟩ rfl rfl (sg_77 hs)) (H.imp ?_)
    intro rv h1 H
    obtain ⟨x2, rfl, H⟩ := H
    obtain ⟨hs, H⟩ := H
    show Ex d [] tb_X7_stepped (36, [some (.ref 77), u1, some (.int l2), some (.int l3), some (.int l4), u5, u6], [.int x2, .ref 80]) h1 _
    refine Ex.iald rfl (Or.inl rfl) (sg_80 hs) H.1 ?_
    replace H := H.2
    refine Ex.br (x := (67, [some (.ref 77), u1, some (.int l2), some (.int l3), some (.int l4), u5, u6], [])) (y := (40, [some (.ref 77), u1, some (.int l2), some (.int l3), some (.int l4), u5, u6], [])) (b := (h1.2.1 80 (ix x2)) = 0) rfl (fun hb => ?_) (fun hb => ?_)
    · replace H := H.1 (hb)
      exact H
    · replace H := H.2 (hb)
      refine Ex.pure 2 (fr2 := (44, [some (.ref 77), u1, some (.int l2), some (.int (l3 + 1)), some (.int l4), u5, u6], [.ref 77])) rfl ?_
      refine Ex.getQ rfl (sg_77 hs) rfl ?_
      refine Ex.pure 2 (fr2 := (50, [some (.ref 77), u1, some (.int l2), some (.int (l3 + 1)), some (.int l4), u5, u6], [.int l4, .int (l3 + 1), .ref 89])) rfl ?_
      refine Ex.iast rfl (sg_89 hs) H.1 ?_
      replace H := H.2
      obtain ⟨h3, e3⟩ : ∃ z : XH, z = (x_setI h1 89 (ix (l3 + 1)) l4) := ⟨_, rfl⟩
      rw [← e3]
      replace H := H h3 e3
      replace hs : Sg h3.1 y := by rw [e3]; exact hs
      refine Ex.pure 1 (fr2 := (52, [some (.ref 77), u1, some (.int l2), some (.int (l3 + 1)), some (.int l4), u5, u6], [.ref 77])) rfl ?_
      refine Ex.getQ rfl (sg_77 hs) rfl ?_
      refine Ex.pure 2 (fr2 := (58, [some (.ref 77), u1, some (.int l2), some (.int (l3 + 1)), some (.int l4), u5, u6], [.int l4, .ref 77, .ref 80])) rfl ?_
      refine Ex.cal (rest := [.ref 80]) (j := m_X7_last) (as := [.ref 77, .int l4]) (vst (a := 119) (b := 2) (c := 6) (rest := [.ref 80]) (vs := [.int l4]) rfl ⟨Nat.le_of_ble_eq_true rfl, Nat.le_of_ble_eq_true rfl⟩ rfl rfl (sg_77 hs)) (H.imp ?_)
      intro rv h4 H
      obtain ⟨x5, rfl, H⟩ := H
      obtain ⟨hs, H⟩ := H
      show Ex d [] tb_X7_stepped (61, [some (.ref 77), u1, some (.int l2), some (.int (l3 + 1)), some (.int l4), u5, u6], [.int x5, .ref 80]) h4 _
      refine Ex.iald rfl (Or.inl rfl) (sg_80 hs) H.1 ?_
      replace H := H.2
      refine Ex.pure 2 (fr2 := (21, [some (.ref 77), u1, some (.int l2), some (.int (l3 + 1)), some (.int (h4.2.1 80 (ix x5))), u5, u6], [])) rfl ?_
      exact H
theorem w_X7_stepped_67 {d : Nat} {h : XH} {y : Nat → Nat} {K : XK} {E : XE} {u1 : Option Value} {l2 : Int32} {l3 : Int32} {l4 : Int32} {u5 : Option Value} {u6 : Option Value} (hd : 20 ≤ d) (hs : Sg h.1 y) (H : (l4 = 0 → b_X7_stepped_87 d 77 (u1) l2 l3 l4 (-1) (u6) h K E) ∧ (¬ (l4 = 0) → (Ca d m_X7_lessOne [.ref 77, .int l4] h (fun rv h1 => rv = none ∧ Sg h1.1 y ∧ (Ca d m_X7_makes [.ref 77] h1 (fun rv h3 => ∃ x4, rv = some (.int x4) ∧ Sg h3.1 y ∧ b_X7_stepped_87 d 77 (u1) l2 l3 l4 x4 (u6) h3 K E) E)) E))) : b_X7_stepped_67 d 77 u1 l2 l3 l4 u5 u6 h K E := by
  show Ex d [] tb_X7_stepped (67, [some (.ref 77), u1, some (.int l2), some (.int l3), some (.int l4), u5, u6], []) h _
  refine Ex.pure 3 (fr2 := (72, [some (.ref 77), u1, some (.int l2), some (.int l3), some (.int l4), some (.int (-1)), u6], [.int l4])) rfl ?_
  refine Ex.br (x := (87, [some (.ref 77), u1, some (.int l2), some (.int l3), some (.int l4), some (.int (-1)), u6], [])) (y := (75, [some (.ref 77), u1, some (.int l2), some (.int l3), some (.int l4), some (.int (-1)), u6], [])) (b := l4 = 0) rfl (fun hb => ?_) (fun hb => ?_)
  · replace H := H.1 (hb)
    exact H
  · replace H := H.2 (hb)
    refine Ex.pure 2 (fr2 := (78, [some (.ref 77), u1, some (.int l2), some (.int l3), some (.int l4), some (.int (-1)), u6], [.int l4, .ref 77])) rfl ?_
    refine Ex.cal (rest := []) (j := m_X7_lessOne) (as := [.ref 77, .int l4]) (vst (a := 130) (b := 2) (c := 6) (rest := []) (vs := [.int l4]) rfl ⟨Nat.le_of_ble_eq_true rfl, Nat.le_of_ble_eq_true rfl⟩ rfl rfl (sg_77 hs)) (H.imp ?_)
    intro rv h1 H
    obtain ⟨rfl, H⟩ := H
    obtain ⟨hs, H⟩ := H
    show Ex d [] tb_X7_stepped (81, [some (.ref 77), u1, some (.int l2), some (.int l3), some (.int l4), some (.int (-1)), u6], []) h1 _
    refine Ex.pure 1 (fr2 := (82, [some (.ref 77), u1, some (.int l2), some (.int l3), some (.int l4), some (.int (-1)), u6], [.ref 77])) rfl ?_
    refine Ex.cal (rest := []) (j := m_X7_makes) (as := [.ref 77]) (vst (a := 123) (b := 1) (c := 6) (rest := []) (vs := []) rfl ⟨Nat.le_of_ble_eq_true rfl, Nat.le_of_ble_eq_true rfl⟩ rfl rfl (sg_77 hs)) (H.imp ?_)
    intro rv h3 H
    obtain ⟨x4, rfl, H⟩ := H
    obtain ⟨hs, H⟩ := H
    show Ex d [] tb_X7_stepped (85, [some (.ref 77), u1, some (.int l2), some (.int l3), some (.int l4), some (.int (-1)), u6], [.int x4]) h3 _
    refine Ex.pure 1 (fr2 := (87, [some (.ref 77), u1, some (.int l2), some (.int l3), some (.int l4), some (.int x4), u6], [])) rfl ?_
    exact H
theorem w_X7_stepped_87 {d : Nat} {h : XH} {y : Nat → Nat} {K : XK} {E : XE} {u1 : Option Value} {l2 : Int32} {l3 : Int32} {l4 : Int32} {l5 : Int32} {u6 : Option Value} (hd : 20 ≤ d) (hs : Sg h.1 y) (H : (Ix l3 6 ∧ (Ca d m_X7_lessOne [.ref 77, .int (h.2.1 89 (ix l3))] h (fun rv h1 => rv = none ∧ Sg h1.1 y ∧ (l4 = 0 → b_X7_stepped_110 d 77 (u1) (some (.int l2)) l3 (some l4) (some (.int l5)) (u6) h1 K E) ∧ (¬ (l4 = 0) → (Ca d m_X7_adds [.ref 77, .int l5, .long ((l2 : Int32).toInt64)] h1 (fun rv h3 => rv = none ∧ Sg h3.1 y ∧ b_X7_stepped_110 d 77 (u1) (some (.int l2)) l3 (some l4) (some (.int l5)) (u6) h3 K E) E))) E))) : b_X7_stepped_87 d 77 u1 l2 l3 l4 l5 u6 h K E := by
  show Ex d [] tb_X7_stepped (87, [some (.ref 77), u1, some (.int l2), some (.int l3), some (.int l4), some (.int l5), u6], []) h _
  refine Ex.pure 2 (fr2 := (89, [some (.ref 77), u1, some (.int l2), some (.int l3), some (.int l4), some (.int l5), u6], [.ref 77, .ref 77])) rfl ?_
  refine Ex.getQ rfl (sg_77 hs) rfl ?_
  refine Ex.pure 1 (fr2 := (93, [some (.ref 77), u1, some (.int l2), some (.int l3), some (.int l4), some (.int l5), u6], [.int l3, .ref 89, .ref 77])) rfl ?_
  refine Ex.iald rfl (Or.inl rfl) (sg_89 hs) H.1 ?_
  replace H := H.2
  refine Ex.cal (rest := []) (j := m_X7_lessOne) (as := [.ref 77, .int (h.2.1 89 (ix l3))]) (vst (a := 130) (b := 2) (c := 6) (rest := []) (vs := [.int (h.2.1 89 (ix l3))]) rfl ⟨Nat.le_of_ble_eq_true rfl, Nat.le_of_ble_eq_true rfl⟩ rfl rfl (sg_77 hs)) (H.imp ?_)
  intro rv h1 H
  obtain ⟨rfl, H⟩ := H
  obtain ⟨hs, H⟩ := H
  show Ex d [] tb_X7_stepped (97, [some (.ref 77), u1, some (.int l2), some (.int l3), some (.int l4), some (.int l5), u6], []) h1 _
  refine Ex.pure 1 (fr2 := (99, [some (.ref 77), u1, some (.int l2), some (.int l3), some (.int l4), some (.int l5), u6], [.int l4])) rfl ?_
  refine Ex.br (x := (110, [some (.ref 77), u1, some (.int l2), some (.int l3), some (.int l4), some (.int l5), u6], [])) (y := (102, [some (.ref 77), u1, some (.int l2), some (.int l3), some (.int l4), some (.int l5), u6], [])) (b := l4 = 0) rfl (fun hb => ?_) (fun hb => ?_)
  · replace H := H.1 (hb)
    exact H
  · replace H := H.2 (hb)
    refine Ex.pure 4 (fr2 := (107, [some (.ref 77), u1, some (.int l2), some (.int l3), some (.int l4), some (.int l5), u6], [.long ((l2 : Int32).toInt64), .int l5, .ref 77])) rfl ?_
    refine Ex.cal (rest := []) (j := m_X7_adds) (as := [.ref 77, .int l5, .long ((l2 : Int32).toInt64)]) (vst (a := 121) (b := 3) (c := 6) (rest := []) (vs := [.int l5, .long ((l2 : Int32).toInt64)]) rfl ⟨Nat.le_of_ble_eq_true rfl, Nat.le_of_ble_eq_true rfl⟩ rfl rfl (sg_77 hs)) (H.imp ?_)
    intro rv h3 H
    obtain ⟨rfl, H⟩ := H
    obtain ⟨hs, H⟩ := H
    show Ex d [] tb_X7_stepped (110, [some (.ref 77), u1, some (.int l2), some (.int l3), some (.int l4), some (.int l5), u6], []) h3 _
    exact H
theorem w_X7_stepped_110 {d : Nat} {h : XH} {y : Nat → Nat} {K : XK} {E : XE} {u1 : Option Value} {u2 : Option Value} {l3 : Int32} {u4 : Option Int32} {u5 : Option Value} {u6 : Option Value} (hd : 20 ≤ d) (hs : Sg h.1 y) (H : (Ca d m_X7_makes [.ref 77] h (fun rv h1 => ∃ x2, rv = some (.int x2) ∧ Sg h1.1 y ∧ b_X7_stepped_121 d 77 (u1) (u2) (some (.int l3)) u4 x2 (l3 - 1) h1 K E) E)) : b_X7_stepped_110 d 77 u1 u2 l3 u4 u5 u6 h K E := by
  cases u4 with
  | none =>
    show Ex d [] tb_X7_stepped (110, [some (.ref 77), u1, u2, some (.int l3), (xoi none), u5, u6], []) h _
    refine Ex.pure 1 (fr2 := (111, [some (.ref 77), u1, u2, some (.int l3), (xoi none), u5, u6], [.ref 77])) rfl ?_
    refine Ex.cal (rest := []) (j := m_X7_makes) (as := [.ref 77]) (vst (a := 123) (b := 1) (c := 6) (rest := []) (vs := []) rfl ⟨Nat.le_of_ble_eq_true rfl, Nat.le_of_ble_eq_true rfl⟩ rfl rfl (sg_77 hs)) (H.imp ?_)
    intro rv h1 H
    obtain ⟨x2, rfl, H⟩ := H
    obtain ⟨hs, H⟩ := H
    show Ex d [] tb_X7_stepped (114, [some (.ref 77), u1, u2, some (.int l3), (xoi none), u5, u6], [.int x2]) h1 _
    refine Ex.pure 5 (fr2 := (121, [some (.ref 77), u1, u2, some (.int l3), (xoi none), some (.int x2), some (.int (l3 - 1))], [])) rfl ?_
    exact H
  | some v4 =>
    show Ex d [] tb_X7_stepped (110, [some (.ref 77), u1, u2, some (.int l3), (xoi (some v4)), u5, u6], []) h _
    refine Ex.pure 1 (fr2 := (111, [some (.ref 77), u1, u2, some (.int l3), (xoi (some v4)), u5, u6], [.ref 77])) rfl ?_
    refine Ex.cal (rest := []) (j := m_X7_makes) (as := [.ref 77]) (vst (a := 123) (b := 1) (c := 6) (rest := []) (vs := []) rfl ⟨Nat.le_of_ble_eq_true rfl, Nat.le_of_ble_eq_true rfl⟩ rfl rfl (sg_77 hs)) (H.imp ?_)
    intro rv h1 H
    obtain ⟨x2, rfl, H⟩ := H
    obtain ⟨hs, H⟩ := H
    show Ex d [] tb_X7_stepped (114, [some (.ref 77), u1, u2, some (.int l3), (xoi (some v4)), u5, u6], [.int x2]) h1 _
    refine Ex.pure 5 (fr2 := (121, [some (.ref 77), u1, u2, some (.int l3), (xoi (some v4)), some (.int x2), some (.int (l3 - 1))], [])) rfl ?_
    exact H
theorem w_X7_stepped_121 {d : Nat} {h : XH} {y : Nat → Nat} {K : XK} {E : XE} {u1 : Option Value} {u2 : Option Value} {u3 : Option Value} {u4 : Option Int32} {l5 : Int32} {l6 : Int32} (hd : 20 ≤ d) (hs : Sg h.1 y) (H : (l6 < 0 → K (some (.int l5)) h) ∧ (¬ (l6 < 0) → (l5 = (-1) → K (some (.int l5)) h) ∧ (¬ (l5 = (-1)) → (Ix l6 6 ∧ (Ca d m_X7_lessOne [.ref 77, .int (h.2.1 89 (ix l6))] h (fun rv h1 => rv = none ∧ Sg h1.1 y ∧ (Ca d m_X7_adds [.ref 77, .int l5, .long 1] h1 (fun rv h3 => rv = none ∧ Sg h3.1 y ∧ (Ca d m_X7_makes [.ref 77] h3 (fun rv h5 => ∃ x6, rv = some (.int x6) ∧ Sg h5.1 y ∧ b_X7_stepped_121 d 77 (u1) (u2) (u3) u4 x6 (l6 + (-1)) h5 K E) E)) E)) E))))) : b_X7_stepped_121 d 77 u1 u2 u3 u4 l5 l6 h K E := by
  cases u4 with
  | none =>
    show Ex d [] tb_X7_stepped (121, [some (.ref 77), u1, u2, u3, (xoi none), some (.int l5), some (.int l6)], []) h _
    refine Ex.pure 1 (fr2 := (123, [some (.ref 77), u1, u2, u3, (xoi none), some (.int l5), some (.int l6)], [.int l6])) rfl ?_
    refine Ex.br (x := (162, [some (.ref 77), u1, u2, u3, (xoi none), some (.int l5), some (.int l6)], [])) (y := (126, [some (.ref 77), u1, u2, u3, (xoi none), some (.int l5), some (.int l6)], [])) (b := l6 < 0) rfl (fun hb => ?_) (fun hb => ?_)
    · replace H := H.1 (hb)
      refine Ex.pure 1 (fr2 := (164, [some (.ref 77), u1, u2, u3, (xoi none), some (.int l5), some (.int l6)], [.int l5])) rfl ?_
      exact Ex.iret rfl (Or.inl rfl) H
    · replace H := H.2 (hb)
      refine Ex.pure 2 (fr2 := (129, [some (.ref 77), u1, u2, u3, (xoi none), some (.int l5), some (.int l6)], [.int (-1), .int l5])) rfl ?_
      refine Ex.br (x := (162, [some (.ref 77), u1, u2, u3, (xoi none), some (.int l5), some (.int l6)], [])) (y := (132, [some (.ref 77), u1, u2, u3, (xoi none), some (.int l5), some (.int l6)], [])) (b := l5 = (-1)) rfl (fun hb => ?_) (fun hb => ?_)
      · replace H := H.1 (hb)
        refine Ex.pure 1 (fr2 := (164, [some (.ref 77), u1, u2, u3, (xoi none), some (.int l5), some (.int l6)], [.int l5])) rfl ?_
        exact Ex.iret rfl (Or.inl rfl) H
      · replace H := H.2 (hb)
        refine Ex.pure 2 (fr2 := (134, [some (.ref 77), u1, u2, u3, (xoi none), some (.int l5), some (.int l6)], [.ref 77, .ref 77])) rfl ?_
        refine Ex.getQ rfl (sg_77 hs) rfl ?_
        refine Ex.pure 1 (fr2 := (139, [some (.ref 77), u1, u2, u3, (xoi none), some (.int l5), some (.int l6)], [.int l6, .ref 89, .ref 77])) rfl ?_
        refine Ex.iald rfl (Or.inl rfl) (sg_89 hs) H.1 ?_
        replace H := H.2
        refine Ex.cal (rest := []) (j := m_X7_lessOne) (as := [.ref 77, .int (h.2.1 89 (ix l6))]) (vst (a := 130) (b := 2) (c := 6) (rest := []) (vs := [.int (h.2.1 89 (ix l6))]) rfl ⟨Nat.le_of_ble_eq_true rfl, Nat.le_of_ble_eq_true rfl⟩ rfl rfl (sg_77 hs)) (H.imp ?_)
        intro rv h1 H
        obtain ⟨rfl, H⟩ := H
        obtain ⟨hs, H⟩ := H
        show Ex d [] tb_X7_stepped (143, [some (.ref 77), u1, u2, u3, (xoi none), some (.int l5), some (.int l6)], []) h1 _
        refine Ex.pure 3 (fr2 := (147, [some (.ref 77), u1, u2, u3, (xoi none), some (.int l5), some (.int l6)], [.long 1, .int l5, .ref 77])) rfl ?_
        refine Ex.cal (rest := []) (j := m_X7_adds) (as := [.ref 77, .int l5, .long 1]) (vst (a := 121) (b := 3) (c := 6) (rest := []) (vs := [.int l5, .long 1]) rfl ⟨Nat.le_of_ble_eq_true rfl, Nat.le_of_ble_eq_true rfl⟩ rfl rfl (sg_77 hs)) (H.imp ?_)
        intro rv h3 H
        obtain ⟨rfl, H⟩ := H
        obtain ⟨hs, H⟩ := H
        show Ex d [] tb_X7_stepped (150, [some (.ref 77), u1, u2, u3, (xoi none), some (.int l5), some (.int l6)], []) h3 _
        refine Ex.pure 1 (fr2 := (151, [some (.ref 77), u1, u2, u3, (xoi none), some (.int l5), some (.int l6)], [.ref 77])) rfl ?_
        refine Ex.cal (rest := []) (j := m_X7_makes) (as := [.ref 77]) (vst (a := 123) (b := 1) (c := 6) (rest := []) (vs := []) rfl ⟨Nat.le_of_ble_eq_true rfl, Nat.le_of_ble_eq_true rfl⟩ rfl rfl (sg_77 hs)) (H.imp ?_)
        intro rv h5 H
        obtain ⟨x6, rfl, H⟩ := H
        obtain ⟨hs, H⟩ := H
        show Ex d [] tb_X7_stepped (154, [some (.ref 77), u1, u2, u3, (xoi none), some (.int l5), some (.int l6)], [.int x6]) h5 _
        refine Ex.pure 3 (fr2 := (121, [some (.ref 77), u1, u2, u3, (xoi none), some (.int x6), some (.int (l6 + (-1)))], [])) rfl ?_
        exact H
  | some v4 =>
    show Ex d [] tb_X7_stepped (121, [some (.ref 77), u1, u2, u3, (xoi (some v4)), some (.int l5), some (.int l6)], []) h _
    refine Ex.pure 1 (fr2 := (123, [some (.ref 77), u1, u2, u3, (xoi (some v4)), some (.int l5), some (.int l6)], [.int l6])) rfl ?_
    refine Ex.br (x := (162, [some (.ref 77), u1, u2, u3, (xoi (some v4)), some (.int l5), some (.int l6)], [])) (y := (126, [some (.ref 77), u1, u2, u3, (xoi (some v4)), some (.int l5), some (.int l6)], [])) (b := l6 < 0) rfl (fun hb => ?_) (fun hb => ?_)
    · replace H := H.1 (hb)
      refine Ex.pure 1 (fr2 := (164, [some (.ref 77), u1, u2, u3, (xoi (some v4)), some (.int l5), some (.int l6)], [.int l5])) rfl ?_
      exact Ex.iret rfl (Or.inl rfl) H
    · replace H := H.2 (hb)
      refine Ex.pure 2 (fr2 := (129, [some (.ref 77), u1, u2, u3, (xoi (some v4)), some (.int l5), some (.int l6)], [.int (-1), .int l5])) rfl ?_
      refine Ex.br (x := (162, [some (.ref 77), u1, u2, u3, (xoi (some v4)), some (.int l5), some (.int l6)], [])) (y := (132, [some (.ref 77), u1, u2, u3, (xoi (some v4)), some (.int l5), some (.int l6)], [])) (b := l5 = (-1)) rfl (fun hb => ?_) (fun hb => ?_)
      · replace H := H.1 (hb)
        refine Ex.pure 1 (fr2 := (164, [some (.ref 77), u1, u2, u3, (xoi (some v4)), some (.int l5), some (.int l6)], [.int l5])) rfl ?_
        exact Ex.iret rfl (Or.inl rfl) H
      · replace H := H.2 (hb)
        refine Ex.pure 2 (fr2 := (134, [some (.ref 77), u1, u2, u3, (xoi (some v4)), some (.int l5), some (.int l6)], [.ref 77, .ref 77])) rfl ?_
        refine Ex.getQ rfl (sg_77 hs) rfl ?_
        refine Ex.pure 1 (fr2 := (139, [some (.ref 77), u1, u2, u3, (xoi (some v4)), some (.int l5), some (.int l6)], [.int l6, .ref 89, .ref 77])) rfl ?_
        refine Ex.iald rfl (Or.inl rfl) (sg_89 hs) H.1 ?_
        replace H := H.2
        refine Ex.cal (rest := []) (j := m_X7_lessOne) (as := [.ref 77, .int (h.2.1 89 (ix l6))]) (vst (a := 130) (b := 2) (c := 6) (rest := []) (vs := [.int (h.2.1 89 (ix l6))]) rfl ⟨Nat.le_of_ble_eq_true rfl, Nat.le_of_ble_eq_true rfl⟩ rfl rfl (sg_77 hs)) (H.imp ?_)
        intro rv h1 H
        obtain ⟨rfl, H⟩ := H
        obtain ⟨hs, H⟩ := H
        show Ex d [] tb_X7_stepped (143, [some (.ref 77), u1, u2, u3, (xoi (some v4)), some (.int l5), some (.int l6)], []) h1 _
        refine Ex.pure 3 (fr2 := (147, [some (.ref 77), u1, u2, u3, (xoi (some v4)), some (.int l5), some (.int l6)], [.long 1, .int l5, .ref 77])) rfl ?_
        refine Ex.cal (rest := []) (j := m_X7_adds) (as := [.ref 77, .int l5, .long 1]) (vst (a := 121) (b := 3) (c := 6) (rest := []) (vs := [.int l5, .long 1]) rfl ⟨Nat.le_of_ble_eq_true rfl, Nat.le_of_ble_eq_true rfl⟩ rfl rfl (sg_77 hs)) (H.imp ?_)
        intro rv h3 H
        obtain ⟨rfl, H⟩ := H
        obtain ⟨hs, H⟩ := H
        show Ex d [] tb_X7_stepped (150, [some (.ref 77), u1, u2, u3, (xoi (some v4)), some (.int l5), some (.int l6)], []) h3 _
        refine Ex.pure 1 (fr2 := (151, [some (.ref 77), u1, u2, u3, (xoi (some v4)), some (.int l5), some (.int l6)], [.ref 77])) rfl ?_
        refine Ex.cal (rest := []) (j := m_X7_makes) (as := [.ref 77]) (vst (a := 123) (b := 1) (c := 6) (rest := []) (vs := []) rfl ⟨Nat.le_of_ble_eq_true rfl, Nat.le_of_ble_eq_true rfl⟩ rfl rfl (sg_77 hs)) (H.imp ?_)
        intro rv h5 H
        obtain ⟨x6, rfl, H⟩ := H
        obtain ⟨hs, H⟩ := H
        show Ex d [] tb_X7_stepped (154, [some (.ref 77), u1, u2, u3, (xoi (some v4)), some (.int l5), some (.int l6)], [.int x6]) h5 _
        refine Ex.pure 3 (fr2 := (121, [some (.ref 77), u1, u2, u3, (xoi (some v4)), some (.int x6), some (.int (l6 + (-1)))], [])) rfl ?_
        exact H
def b_X7_joins_6 (d : Nat) (r_0 : Nat) (l1 : Int64) (l3 : Int64) (l5 : Int32) (u6 : Option Value) (h : XH) (K : XK) (E : XE) : Prop := Ex d [] tb_X7_joins (6, [some (.ref r_0), some (.long l1), none, some (.long l3), none, some (.int l5), u6], []) h (Po K E)
def b_X7_joins_31 (d : Nat) (r_0 : Nat) (l1 : Int64) (l3 : Int64) (l5 : Int32) (u6 : Option Value) (h : XH) (K : XK) (E : XE) : Prop := Ex d [] tb_X7_joins (31, [some (.ref r_0), some (.long l1), none, some (.long l3), none, some (.int l5), u6], []) h (Po K E)
def b_X7_joins_64 (d : Nat) (r_0 : Nat) (l1 : Int64) (l3 : Int64) (l5 : Int32) (u6 : Option Value) (h : XH) (K : XK) (E : XE) : Prop := Ex d [] tb_X7_joins (64, [some (.ref r_0), some (.long l1), none, some (.long l3), none, some (.int l5), u6], []) h (Po K E)
def b_X7_joins_70 (d : Nat) (r_0 : Nat) (l1 : Int64) (l3 : Int64) (l5 : Int32) (l6 : Int32) (h : XH) (K : XK) (E : XE) : Prop := Ex d [] tb_X7_joins (70, [some (.ref r_0), some (.long l1), none, some (.long l3), none, some (.int l5), some (.int l6)], []) h (Po K E)
theorem w_X7_joins {d : Nat} {h : XH} {y : Nat → Nat} {K : XK} {E : XE} {a : Int64} {b : Int64} (hd : 20 ≤ d) (hs : Sg h.1 y) (H : b_X7_joins_6 d 77 a b (h.2.1 77 20) none h K E) : Ca (d + 1) m_X7_joins [.ref 77, .long a, .long b] h K E := by
  refine Ca.of ⟨by show 5 ≤ 7; omega, rfl⟩ ?_
  show Ex d [] tb_X7_joins (0, [some (.ref 77), some (.long a), none, some (.long b), none, none, none], []) h _
  refine Ex.pure 1 (fr2 := (1, [some (.ref 77), some (.long a), none, some (.long b), none, none, none], [.ref 77])) rfl ?_
  refine Ex.getI rfl (Or.inl rfl) (sg_77 hs) ?_
  refine Ex.pure 1 (fr2 := (6, [some (.ref 77), some (.long a), none, some (.long b), none, some (.int (h.2.1 77 20)), none], [])) rfl ?_
  exact H
theorem w_X7_joins_6 {d : Nat} {h : XH} {y : Nat → Nat} {K : XK} {E : XE} {l1 : Int64} {l3 : Int64} {l5 : Int32} {u6 : Option Value} (hd : 20 ≤ d) (hs : Sg h.1 y) (H : (l5 ≤ 0 → b_X7_joins_31 d 77 l1 l3 l5 (u6) h K E) ∧ (¬ (l5 ≤ 0) → (Ix (l5 - 1) 400 ∧ (l1 ≤ (h.2.2.1 92 (ix (l5 - 1))) → b_X7_joins_31 d 77 l1 l3 l5 (u6) h K E) ∧ (¬ (l1 ≤ (h.2.2.1 92 (ix (l5 - 1)))) → b_X7_joins_6 d 77 l1 l3 (l5 + (-1)) (u6) h K E)))) : b_X7_joins_6 d 77 l1 l3 l5 u6 h K E := by
  show Ex d [] tb_X7_joins (6, [some (.ref 77), some (.long l1), none, some (.long l3), none, some (.int l5), u6], []) h _
  refine Ex.pure 1 (fr2 := (8, [some (.ref 77), some (.long l1), none, some (.long l3), none, some (.int l5), u6], [.int l5])) rfl ?_
  refine Ex.br (x := (31, [some (.ref 77), some (.long l1), none, some (.long l3), none, some (.int l5), u6], [])) (y := (11, [some (.ref 77), some (.long l1), none, some (.long l3), none, some (.int l5), u6], [])) (b := l5 ≤ 0) rfl (fun hb => ?_) (fun hb => ?_)
  · replace H := H.1 (hb)
    exact H
  · replace H := H.2 (hb)
    refine Ex.pure 1 (fr2 := (12, [some (.ref 77), some (.long l1), none, some (.long l3), none, some (.int l5), u6], [.ref 77])) rfl ?_
    refine Ex.getQ rfl (sg_77 hs) rfl ?_
    refine Ex.pure 3 (fr2 := (19, [some (.ref 77), some (.long l1), none, some (.long l3), none, some (.int l5), u6], [.int (l5 - 1), .ref 92])) rfl ?_
    refine Ex.lald rfl (sg_92 hs) H.1 ?_
    replace H := H.2
    refine Ex.pure 2 (fr2 := (22, [some (.ref 77), some (.long l1), none, some (.long l3), none, some (.int l5), u6], [.int (lg_cmp (h.2.2.1 92 (ix (l5 - 1))) l1)])) rfl ?_
    refine Ex.br (x := (31, [some (.ref 77), some (.long l1), none, some (.long l3), none, some (.int l5), u6], [])) (y := (25, [some (.ref 77), some (.long l1), none, some (.long l3), none, some (.int l5), u6], [])) (b := 0 ≤ (lg_cmp (h.2.2.1 92 (ix (l5 - 1))) l1)) rfl (fun hb => ?_) (fun hb => ?_)
    · replace H := H.1 ((lg_cmp_ge _ _).mp hb)
      exact H
    · replace H := H.2 (fun z => hb ((lg_cmp_ge _ _).mpr z))
      refine Ex.pure 2 (fr2 := (6, [some (.ref 77), some (.long l1), none, some (.long l3), none, some (.int (l5 + (-1))), u6], [])) rfl ?_
      exact H
theorem w_X7_joins_31 {d : Nat} {h : XH} {y : Nat → Nat} {K : XK} {E : XE} {l1 : Int64} {l3 : Int64} {l5 : Int32} {u6 : Option Value} (hd : 20 ≤ d) (hs : Sg h.1 y) (H : (l5 ≤ 0 → b_X7_joins_64 d 77 l1 l3 l5 (u6) h K E) ∧ (¬ (l5 ≤ 0) → (Ix (l5 - 1) 400 ∧ (¬ (h.2.2.1 92 (ix (l5 - 1))) = l1 → b_X7_joins_64 d 77 l1 l3 l5 (u6) h K E) ∧ (¬ (¬ (h.2.2.1 92 (ix (l5 - 1))) = l1) → (Ix (l5 - 1) 400 ∧ (Ix (l5 - 1) 400 ∧ (∀ h1 : XH, h1 = (x_setJ h 93 (ix (l5 - 1)) ((h.2.2.1 93 (ix (l5 - 1))) + l3)) → K none h1))))))) : b_X7_joins_31 d 77 l1 l3 l5 u6 h K E := by
  show Ex d [] tb_X7_joins (31, [some (.ref 77), some (.long l1), none, some (.long l3), none, some (.int l5), u6], []) h _
  refine Ex.pure 1 (fr2 := (33, [some (.ref 77), some (.long l1), none, some (.long l3), none, some (.int l5), u6], [.int l5])) rfl ?_
  refine Ex.br (x := (64, [some (.ref 77), some (.long l1), none, some (.long l3), none, some (.int l5), u6], [])) (y := (36, [some (.ref 77), some (.long l1), none, some (.long l3), none, some (.int l5), u6], [])) (b := l5 ≤ 0) rfl (fun hb => ?_) (fun hb => ?_)
  · replace H := H.1 (hb)
    exact H
  · replace H := H.2 (hb)
    refine Ex.pure 1 (fr2 := (37, [some (.ref 77), some (.long l1), none, some (.long l3), none, some (.int l5), u6], [.ref 77])) rfl ?_
    refine Ex.getQ rfl (sg_77 hs) rfl ?_
    refine Ex.pure 3 (fr2 := (44, [some (.ref 77), some (.long l1), none, some (.long l3), none, some (.int l5), u6], [.int (l5 - 1), .ref 92])) rfl ?_
    refine Ex.lald rfl (sg_92 hs) H.1 ?_
    replace H := H.2
    refine Ex.pure 2 (fr2 := (47, [some (.ref 77), some (.long l1), none, some (.long l3), none, some (.int l5), u6], [.int (lg_cmp (h.2.2.1 92 (ix (l5 - 1))) l1)])) rfl ?_
    refine Ex.br (x := (64, [some (.ref 77), some (.long l1), none, some (.long l3), none, some (.int l5), u6], [])) (y := (50, [some (.ref 77), some (.long l1), none, some (.long l3), none, some (.int l5), u6], [])) (b := ¬ (lg_cmp (h.2.2.1 92 (ix (l5 - 1))) l1) = 0) rfl (fun hb => ?_) (fun hb => ?_)
    · replace H := H.1 (fun z => hb ((lg_cmp_eq _ _).mpr z))
      exact H
    · replace H := H.2 (fun z => hb (fun w => z ((lg_cmp_eq _ _).mp w)))
      refine Ex.pure 1 (fr2 := (51, [some (.ref 77), some (.long l1), none, some (.long l3), none, some (.int l5), u6], [.ref 77])) rfl ?_
      refine Ex.getQ rfl (sg_77 hs) rfl ?_
      refine Ex.pure 4 (fr2 := (59, [some (.ref 77), some (.long l1), none, some (.long l3), none, some (.int l5), u6], [.int (l5 - 1), .ref 93, .int (l5 - 1), .ref 93])) rfl ?_
      refine Ex.lald rfl (sg_93 hs) H.1 ?_
      replace H := H.2
      refine Ex.pure 2 (fr2 := (62, [some (.ref 77), some (.long l1), none, some (.long l3), none, some (.int l5), u6], [.long ((h.2.2.1 93 (ix (l5 - 1))) + l3), .int (l5 - 1), .ref 93])) rfl ?_
      refine Ex.last rfl (sg_93 hs) H.1 ?_
      replace H := H.2
      obtain ⟨h1, e1⟩ : ∃ z : XH, z = (x_setJ h 93 (ix (l5 - 1)) ((h.2.2.1 93 (ix (l5 - 1))) + l3)) := ⟨_, rfl⟩
      rw [← e1]
      replace H := H h1 e1
      replace hs : Sg h1.1 y := by rw [e1]; exact hs
      exact Ex.vret rfl H
theorem w_X7_joins_64 {d : Nat} {h : XH} {y : Nat → Nat} {K : XK} {E : XE} {l1 : Int64} {l3 : Int64} {l5 : Int32} {u6 : Option Value} (hd : 20 ≤ d) (hs : Sg h.1 y) (H : b_X7_joins_70 d 77 l1 l3 l5 (h.2.1 77 20) h K E) : b_X7_joins_64 d 77 l1 l3 l5 u6 h K E := by
  show Ex d [] tb_X7_joins (64, [some (.ref 77), some (.long l1), none, some (.long l3), none, some (.int l5), u6], []) h _
  refine Ex.pure 1 (fr2 := (65, [some (.ref 77), some (.long l1), none, some (.long l3), none, some (.int l5), u6], [.ref 77])) rfl ?_
  refine Ex.getI rfl (Or.inl rfl) (sg_77 hs) ?_
  refine Ex.pure 1 (fr2 := (70, [some (.ref 77), some (.long l1), none, some (.long l3), none, some (.int l5), some (.int (h.2.1 77 20))], [])) rfl ?_
  exact H
theorem w_X7_joins_70 {d : Nat} {h : XH} {y : Nat → Nat} {K : XK} {E : XE} {l1 : Int64} {l3 : Int64} {l5 : Int32} {l6 : Int32} (hd : 20 ≤ d) (hs : Sg h.1 y) (H : (l6 ≤ l5 → (Ix l5 400 ∧ (∀ h1 : XH, h1 = (x_setJ h 92 (ix l5) l1) → (Ix l5 400 ∧ (∀ h2 : XH, h2 = (x_setJ h1 93 (ix l5) l3) → (∀ h3 : XH, h3 = (x_setI h2 77 20 ((h2.2.1 77 20) + 1)) → K none h3)))))) ∧ (¬ (l6 ≤ l5) → (Ix (l6 - 1) 400 ∧ (Ix l6 400 ∧ (∀ h4 : XH, h4 = (x_setJ h 92 (ix l6) (h.2.2.1 92 (ix (l6 - 1)))) → (Ix (l6 - 1) 400 ∧ (Ix l6 400 ∧ (∀ h5 : XH, h5 = (x_setJ h4 93 (ix l6) (h4.2.2.1 93 (ix (l6 - 1)))) → b_X7_joins_70 d 77 l1 l3 l5 (l6 + (-1)) h5 K E)))))))) : b_X7_joins_70 d 77 l1 l3 l5 l6 h K E := by
  show Ex d [] tb_X7_joins (70, [some (.ref 77), some (.long l1), none, some (.long l3), none, some (.int l5), some (.int l6)], []) h _
  refine Ex.pure 2 (fr2 := (74, [some (.ref 77), some (.long l1), none, some (.long l3), none, some (.int l5), some (.int l6)], [.int l5, .int l6])) rfl ?_
  refine Ex.br (x := (115, [some (.ref 77), some (.long l1), none, some (.long l3), none, some (.int l5), some (.int l6)], [])) (y := (77, [some (.ref 77), some (.long l1), none, some (.long l3), none, some (.int l5), some (.int l6)], [])) (b := l6 ≤ l5) rfl (fun hb => ?_) (fun hb => ?_)
  · replace H := H.1 (hb)
    refine Ex.pure 1 (fr2 := (116, [some (.ref 77), some (.long l1), none, some (.long l3), none, some (.int l5), some (.int l6)], [.ref 77])) rfl ?_
    refine Ex.getQ rfl (sg_77 hs) rfl ?_
    refine Ex.pure 2 (fr2 := (122, [some (.ref 77), some (.long l1), none, some (.long l3), none, some (.int l5), some (.int l6)], [.long l1, .int l5, .ref 92])) rfl ?_
    refine Ex.last rfl (sg_92 hs) H.1 ?_
    replace H := H.2
    obtain ⟨h1, e1⟩ : ∃ z : XH, z = (x_setJ h 92 (ix l5) l1) := ⟨_, rfl⟩
    rw [← e1]
    replace H := H h1 e1
    replace hs : Sg h1.1 y := by rw [e1]; exact hs
    refine Ex.pure 1 (fr2 := (124, [some (.ref 77), some (.long l1), none, some (.long l3), none, some (.int l5), some (.int l6)], [.ref 77])) rfl ?_
    refine Ex.getQ rfl (sg_77 hs) rfl ?_
    refine Ex.pure 2 (fr2 := (130, [some (.ref 77), some (.long l1), none, some (.long l3), none, some (.int l5), some (.int l6)], [.long l3, .int l5, .ref 93])) rfl ?_
    refine Ex.last rfl (sg_93 hs) H.1 ?_
    replace H := H.2
    obtain ⟨h2, e2⟩ : ∃ z : XH, z = (x_setJ h1 93 (ix l5) l3) := ⟨_, rfl⟩
    rw [← e2]
    replace H := H h2 e2
    replace hs : Sg h2.1 y := by rw [e2]; exact hs
    refine Ex.pure 2 (fr2 := (133, [some (.ref 77), some (.long l1), none, some (.long l3), none, some (.int l5), some (.int l6)], [.ref 77, .ref 77])) rfl ?_
    refine Ex.getI rfl (Or.inl rfl) (sg_77 hs) ?_
    refine Ex.pure 2 (fr2 := (138, [some (.ref 77), some (.long l1), none, some (.long l3), none, some (.int l5), some (.int l6)], [.int ((h2.2.1 77 20) + 1), .ref 77])) rfl ?_
    refine Ex.putI rfl (sg_77 hs) ?_
    obtain ⟨h3, e3⟩ : ∃ z : XH, z = (x_setI h2 77 20 ((h2.2.1 77 20) + 1)) := ⟨_, rfl⟩
    rw [← e3]
    replace H := H h3 e3
    replace hs : Sg h3.1 y := by rw [e3]; exact hs
    exact Ex.vret rfl H
  · replace H := H.2 (hb)
    refine Ex.pure 1 (fr2 := (78, [some (.ref 77), some (.long l1), none, some (.long l3), none, some (.int l5), some (.int l6)], [.ref 77])) rfl ?_
    refine Ex.getQ rfl (sg_77 hs) rfl ?_
    refine Ex.pure 2 (fr2 := (84, [some (.ref 77), some (.long l1), none, some (.long l3), none, some (.int l5), some (.int l6)], [.ref 77, .int l6, .ref 92])) rfl ?_
    refine Ex.getQ rfl (sg_77 hs) rfl ?_
    refine Ex.pure 3 (fr2 := (91, [some (.ref 77), some (.long l1), none, some (.long l3), none, some (.int l5), some (.int l6)], [.int (l6 - 1), .ref 92, .int l6, .ref 92])) rfl ?_
    refine Ex.lald rfl (sg_92 hs) H.1 ?_
    replace H := H.2
    refine Ex.last rfl (sg_92 hs) H.1 ?_
    replace H := H.2
    obtain ⟨h4, e4⟩ : ∃ z : XH, z = (x_setJ h 92 (ix l6) (h.2.2.1 92 (ix (l6 - 1)))) := ⟨_, rfl⟩
    rw [← e4]
    replace H := H h4 e4
    replace hs : Sg h4.1 y := by rw [e4]; exact hs
    refine Ex.pure 1 (fr2 := (94, [some (.ref 77), some (.long l1), none, some (.long l3), none, some (.int l5), some (.int l6)], [.ref 77])) rfl ?_
    refine Ex.getQ rfl (sg_77 hs) rfl ?_
    refine Ex.pure 2 (fr2 := (100, [some (.ref 77), some (.long l1), none, some (.long l3), none, some (.int l5), some (.int l6)], [.ref 77, .int l6, .ref 93])) rfl ?_
    refine Ex.getQ rfl (sg_77 hs) rfl ?_
    refine Ex.pure 3 (fr2 := (107, [some (.ref 77), some (.long l1), none, some (.long l3), none, some (.int l5), some (.int l6)], [.int (l6 - 1), .ref 93, .int l6, .ref 93])) rfl ?_
    refine Ex.lald rfl (sg_93 hs) H.1 ?_
    replace H := H.2
    refine Ex.last rfl (sg_93 hs) H.1 ?_
    replace H := H.2
    obtain ⟨h5, e5⟩ : ∃ z : XH, z = (x_setJ h4 93 (ix l6) (h4.2.2.1 93 (ix (l6 - 1)))) := ⟨_, rfl⟩
    rw [← e5]
    replace H := H h5 e5
    replace hs : Sg h5.1 y := by rw [e5]; exact hs
    refine Ex.pure 2 (fr2 := (70, [some (.ref 77), some (.long l1), none, some (.long l3), none, some (.int l5), some (.int (l6 + (-1)))], [])) rfl ?_
    exact H
def b_X7_fits_6 (d : Nat) (r_0 : Nat) (l1 : Int32) (l2 : Int32) (l3 : Int32) (u4 : Option Value) (h : XH) (K : XK) (E : XE) : Prop := Ex d [] tb_X7_fits (6, [some (.ref r_0), some (.int l1), some (.int l2), some (.int l3), u4], []) h (Po K E)
def b_X7_fits_75 (d : Nat) (r_0 : Nat) (l1 : Int32) (u2 : Option Value) (l3 : Int32) (u4 : Option Value) (h : XH) (K : XK) (E : XE) : Prop := Ex d [] tb_X7_fits (75, [some (.ref r_0), some (.int l1), u2, some (.int l3), u4], []) h (Po K E)
def b_X7_fits_76 (d : Nat) (r_0 : Nat) (l1 : Int32) (u2 : Option Value) (l3 : Int32) (u4 : Option Value) (s0 : Int32) (h : XH) (K : XK) (E : XE) : Prop := Ex d [] tb_X7_fits (76, [some (.ref r_0), some (.int l1), u2, some (.int l3), u4], [.int s0]) h (Po K E)
def b_X7_fits_80 (d : Nat) (r_0 : Nat) (l1 : Int32) (l2 : Int32) (l3 : Int32) (l4 : Int32) (h : XH) (K : XK) (E : XE) : Prop := Ex d [] tb_X7_fits (80, [some (.ref r_0), some (.int l1), some (.int l2), some (.int l3), some (.int l4)], []) h (Po K E)
def b_X7_fits_117 (d : Nat) (r_0 : Nat) (l1 : Int32) (u2 : Option Value) (l3 : Int32) (l4 : Int32) (h : XH) (K : XK) (E : XE) : Prop := Ex d [] tb_X7_fits (117, [some (.ref r_0), some (.int l1), u2, some (.int l3), some (.int l4)], []) h (Po K E)
def b_X7_fits_118 (d : Nat) (r_0 : Nat) (l1 : Int32) (u2 : Option Value) (l3 : Int32) (l4 : Int32) (s0 : Int32) (h : XH) (K : XK) (E : XE) : Prop := Ex d [] tb_X7_fits (118, [some (.ref r_0), some (.int l1), u2, some (.int l3), some (.int l4)], [.int s0]) h (Po K E)
def b_X7_fits_128 (d : Nat) (r_0 : Nat) (l1 : Int32) (l2 : Int32) (l3 : Int32) (u4 : Option Value) (h : XH) (K : XK) (E : XE) : Prop := Ex d [] tb_X7_fits (128, [some (.ref r_0), some (.int l1), some (.int l2), some (.int l3), u4], []) h (Po K E)
theorem w_X7_fits {d : Nat} {h : XH} {y : Nat → Nat} {K : XK} {E : XE} (hd : 20 ≤ d) (hs : Sg h.1 y) (H : b_X7_fits_6 d 77 0 1 0 none h K E) : Ca (d + 1) m_X7_fits [.ref 77] h K E := by
  refine Ca.of ⟨by show 1 ≤ 5; omega, rfl⟩ ?_
  show Ex d [] tb_X7_fits (0, [some (.ref 77), none, none, none, none], []) h _
  refine Ex.pure 6 (fr2 := (6, [some (.ref 77), some (.int 0), some (.int 1), some (.int 0), none], [])) rfl ?_
  exact H
theorem w_X7_fits_6 {d : Nat} {h : XH} {y : Nat → Nat} {K : XK} {E : XE} {l1 : Int32} {l2 : Int32} {l3 : Int32} {u4 : Option Value} (hd : 20 ≤ d) (hs : Sg h.1 y) (H : ((h.2.1 77 20) ≤ l3 → (∀ h1 : XH, h1 = (x_setI h 77 20 l1) → (l2 = 0 → K (some (.int 0)) h1) ∧ (¬ (l2 = 0) → (20 < l1 → K (some (.int 0)) h1) ∧ (¬ (20 < l1) → K (some (.int 1)) h1)))) ∧ (¬ ((h.2.1 77 20) ≤ l3) → (Ix l3 400 ∧ ((h.2.2.1 93 (ix l3)) = 0 → b_X7_fits_128 d 77 l1 l2 l3 (u4) h K E) ∧ (¬ ((h.2.2.1 93 (ix l3)) = 0) → (Ix l3 400 ∧ (Ix l1 400 ∧ (∀ h2 : XH, h2 = (x_setJ h 92 (ix l1) (h.2.2.1 92 (ix l3))) → (Ix l3 400 ∧ (Ix l1 400 ∧ (∀ h3 : XH, h3 = (x_setJ h2 93 (ix l1) (h2.2.2.1 93 (ix l3))) → (l2 = 0 → b_X7_fits_75 d 77 l1 (some (.int l2)) l3 (u4) h3 K E) ∧ (¬ (l2 = 0) → (Ix l1 400 ∧ (((-100000000) ≤ (h3.2.2.1 93 (ix l1)) ∧ (h3.2.2.1 93 (ix l1)) ≤ 100000000) → b_X7_fits_76 d 77 l1 (some (.int l2)) l3 (u4) 1 h3 K E) ∧ (¬ ((-100000000) ≤ (h3.2.2.1 93 (ix l1)) ∧ (h3.2.2.1 93 (ix l1)) ≤ 100000000) → b_X7_fits_75 d 77 l1 (some (.int l2)) l3 (u4) h3 K E))))))))))))) : b_X7_fits_6 d 77 l1 l2 l3 u4 h K E := by
  show Ex d [] tb_X7_fits (6, [some (.ref 77), some (.int l1), some (.int l2), some (.int l3), u4], []) h _
  refine Ex.pure 2 (fr2 := (8, [some (.ref 77), some (.int l1), some (.int l2), some (.int l3), u4], [.ref 77, .int l3])) rfl ?_
  refine Ex.getI rfl (Or.inl rfl) (sg_77 hs) ?_
  refine Ex.br (x := (134, [some (.ref 77), some (.int l1), some (.int l2), some (.int l3), u4], [])) (y := (14, [some (.ref 77), some (.int l1), some (.int l2), some (.int l3), u4], [])) (b := (h.2.1 77 20) ≤ l3) rfl (fun hb => ?_) (fun hb => ?_)
  · replace H := H.1 (hb)
    refine Ex.pure 2 (fr2 := (136, [some (.ref 77), some (.int l1), some (.int l2), some (.int l3), u4], [.int l1, .ref 77])) rfl ?_
    refine Ex.putI rfl (sg_77 hs) ?_
    obtain ⟨h1, e1⟩ : ∃ z : XH, z = (x_setI h 77 20 l1) := ⟨_, rfl⟩
    rw [← e1]
    replace H := H h1 e1
    replace hs : Sg h1.1 y := by rw [e1]; exact hs
    refine Ex.pure 1 (fr2 := (140, [some (.ref 77), some (.int l1), some (.int l2), some (.int l3), u4], [.int l2])) rfl ?_
    refine Ex.br (x := (153, [some (.ref 77), some (.int l1), some (.int l2), some (.int l3), u4], [])) (y := (143, [some (.ref 77), some (.int l1), some (.int l2), some (.int l3), u4], [])) (b := l2 = 0) rfl (fun hb => ?_) (fun hb => ?_)
    · replace H := H.1 (hb)
      refine Ex.pure 1 (fr2 := (154, [some (.ref 77), some (.int l1), some (.int l2), some (.int l3), u4], [.int 0])) rfl ?_
      exact Ex.iret rfl (Or.inr ⟨rfl, by decide⟩) H
    · replace H := H.2 (hb)
      refine Ex.pure 2 (fr2 := (146, [some (.ref 77), some (.int l1), some (.int l2), some (.int l3), u4], [.int 20, .int l1])) rfl ?_
      refine Ex.br (x := (153, [some (.ref 77), some (.int l1), some (.int l2), some (.int l3), u4], [])) (y := (149, [some (.ref 77), some (.int l1), some (.int l2), some (.int l3), u4], [])) (b := 20 < l1) rfl (fun hb => ?_) (fun hb => ?_)
      · replace H := H.1 (hb)
        refine Ex.pure 1 (fr2 := (154, [some (.ref 77), some (.int l1), some (.int l2), some (.int l3), u4], [.int 0])) rfl ?_
        exact Ex.iret rfl (Or.inr ⟨rfl, by decide⟩) H
      · replace H := H.2 (hb)
        refine Ex.pure 2 (fr2 := (154, [some (.ref 77), some (.int l1), some (.int l2), some (.int l3), u4], [.int 1])) rfl ?_
        exact Ex.iret rfl (Or.inr ⟨rfl, by decide⟩) H
  · replace H := H.2 (hb)
    refine Ex.pure 1 (fr2 := (15, [some (.ref 77), some (.int l1), some (.int l2), some (.int l3), u4], [.ref 77])) rfl ?_
    refine Ex.getQ rfl (sg_77 hs) rfl ?_
    refine Ex.pure 1 (fr2 := (19, [some (.ref 77), some (.int l1), some (.int l2), some (.int l3), u4], [.int l3, .ref 93])) rfl ?_
    refine Ex.lald rfl (sg_93 hs) H.1 ?_
    replace H := H.2
    refine Ex.pure 2 (fr2 := (22, [some (.ref 77), some (.int l1), some (.int l2), some (.int l3), u4], [.int (lg_cmp (h.2.2.1 93 (ix l3)) 0)])) rfl ?_
    refine Ex.br (x := (128, [some (.ref 77), some (.int l1), some (.int l2), some (.int l3), u4], [])) (y := (25, [some (.ref 77), some (.int l1), some (.int l2), some (.int l3), u4], [])) (b := (lg_cmp (h.2.2.1 93 (ix l3)) 0) = 0) rfl (fun hb => ?_) (fun hb => ?_)
    · replace H := H.1 ((lg_cmp_eq _ _).mp hb)
      exact H
    · replace H := H.2 (fun z => hb ((lg_cmp_eq _ _).mpr z))
      refine Ex.pure 1 (fr2 := (26, [some (.ref 77), some (.int l1), some (.int l2), some (.int l3), u4], [.ref 77])) rfl ?_
      refine Ex.getQ rfl (sg_77 hs) rfl ?_
      refine Ex.pure 2 (fr2 := (31, [some (.ref 77), some (.int l1), some (.int l2), some (.int l3), u4], [.ref 77, .int l1, .ref 92])) rfl ?_
      refine Ex.getQ rfl (sg_77 hs) rfl ?_
      refine Ex.pure 1 (fr2 := (35, [some (.ref 77), some (.int l1), some (.int l2), some (.int l3), u4], [.int l3, .ref 92, .int l1, .ref 92])) rfl ?_
      refine Ex.lald rfl (sg_92 hs) H.1 ?_
      replace H := H.2
      refine Ex.last rfl (sg_92 hs) H.1 ?_
      replace H := H.2
      obtain ⟨h2, e2⟩ : ∃ z : XH, z = (x_setJ h 92 (ix l1) (h.2.2.1 92 (ix l3))) := ⟨_, rfl⟩
      rw [← e2]
      replace H := H h2 e2
      replace hs : Sg h2.1 y := by rw [e2]; exact hs
      refine Ex.pure 1 (fr2 := (38, [some (.ref 77), some (.int l1), some (.int l2), some (.int l3), u4], [.ref 77])) rfl ?_
      refine Ex.getQ rfl (sg_77 hs) rfl ?_
      refine Ex.pure 2 (fr2 := (43, [some (.ref 77), some (.int l1), some (.int l2), some (.int l3), u4], [.ref 77, .int l1, .ref 93])) rfl ?_
      refine Ex.getQ rfl (sg_77 hs) rfl ?_
      refine Ex.pure 1 (fr2 := (47, [some (.ref 77), some (.int l1), some (.int l2), some (.int l3), u4], [.int l3, .ref 93, .int l1, .ref 93])) rfl ?_
      refine Ex.lald rfl (sg_93 hs) H.1 ?_
      replace H := H.2
      refine Ex.last rfl (sg_93 hs) H.1 ?_
      replace H := H.2
      obtain ⟨h3, e3⟩ : ∃ z : XH, z = (x_setJ h2 93 (ix l1) (h2.2.2.1 93 (ix l3))) := ⟨_, rfl⟩
      rw [← e3]
      replace H := H h3 e3
      replace hs : Sg h3.1 y := by rw [e3]; exact hs
      refine Ex.pure 1 (fr2 := (50, [some (.ref 77), some (.int l1), some (.int l2), some (.int l3), u4], [.int l2])) rfl ?_
      refine Ex.br (x := (75, [some (.ref 77), some (.int l1), some (.int l2), some (.int l3), u4], [])) (y := (53, [some (.ref 77), some (.int l1), some (.int l2), some (.int l3), u4], [])) (b := l2 = 0) rfl (fun hb => ?_) (fun hb => ?_)
      · replace H := H.1 (hb)
        exact H
      · replace H := H.2 (hb)
        refine Ex.pure 1 (fr2 := (54, [some (.ref 77), some (.int l1), some (.int l2), some (.int l3), u4], [.ref 77])) rfl ?_
        refine Ex.getQ rfl (sg_77 hs) rfl ?_
        refine Ex.pure 1 (fr2 := (58, [some (.ref 77), some (.int l1), some (.int l2), some (.int l3), u4], [.int l1, .ref 93])) rfl ?_
        refine Ex.lald rfl (sg_93 hs) H.1 ?_
        replace H := H.2
        refine Ex.pure 2 (fr2 := (65, [some (.ref 77), some (.int l1), some (.int l2), some (.int l3), u4], [.long 100000000, .long (-100000000), .long (h3.2.2.1 93 (ix l1))])) rfl ?_
        refine Ex.ask (rest := []) (j := m_X7_isIn) (as := [.long (h3.2.2.1 93 (ix l1)), .long (-100000000), .long 100000000]) (fun c => rfl) ((t_X7_isIn hs).mono (by omega) (fun _ _ z => z)) ?_
        rintro _ h0 ⟨rfl, e0⟩
        rw [e0]
        show Ex d [] tb_X7_fits (68, [some (.ref 77), some (.int l1), some (.int l2), some (.int l3), u4], [.int (bi ((-100000000) ≤ (h3.2.2.1 93 (ix l1)) ∧ (h3.2.2.1 93 (ix l1)) ≤ 100000000))]) h3 _
        refine Ex.br (x := (75, [some (.ref 77), some (.int l1), some (.int l2), some (.int l3), u4], [])) (y := (71, [some (.ref 77), some (.int l1), some (.int l2), some (.int l3), u4], [])) (b := (bi ((-100000000) ≤ (h3.2.2.1 93 (ix l1)) ∧ (h3.2.2.1 93 (ix l1)) ≤ 100000000)) = 0) rfl (fun hb => ?_) (fun hb => ?_)
        · replace H := H.2 (bi_eq.mp hb)
          exact H
        · replace H := H.1 (bi_neq.mp hb)
          refine Ex.pure 2 (fr2 := (76, [some (.ref 77), some (.int l1), some (.int l2), some (.int l3), u4], [.int 1])) rfl ?_
          exact H
theorem w_X7_fits_75 {d : Nat} {h : XH} {y : Nat → Nat} {K : XK} {E : XE} {l1 : Int32} {u2 : Option Value} {l3 : Int32} {u4 : Option Value} (hd : 20 ≤ d) (hs : Sg h.1 y) (H : b_X7_fits_76 d 77 l1 (u2) l3 (u4) 0 h K E) : b_X7_fits_75 d 77 l1 u2 l3 u4 h K E := by
  show Ex d [] tb_X7_fits (75, [some (.ref 77), some (.int l1), u2, some (.int l3), u4], []) h _
  refine Ex.pure 1 (fr2 := (76, [some (.ref 77), some (.int l1), u2, some (.int l3), u4], [.int 0])) rfl ?_
  exact H
theorem w_X7_fits_76 {d : Nat} {h : XH} {y : Nat → Nat} {K : XK} {E : XE} {l1 : Int32} {u2 : Option Value} {l3 : Int32} {u4 : Option Value} {s0 : Int32} (hd : 20 ≤ d) (hs : Sg h.1 y) (H : b_X7_fits_80 d 77 l1 s0 l3 1 h K E) : b_X7_fits_76 d 77 l1 u2 l3 u4 s0 h K E := by
  show Ex d [] tb_X7_fits (76, [some (.ref 77), some (.int l1), u2, some (.int l3), u4], [.int s0]) h _
  refine Ex.pure 3 (fr2 := (80, [some (.ref 77), some (.int l1), some (.int s0), some (.int l3), some (.int 1)], [])) rfl ?_
  exact H
theorem w_X7_fits_80 {d : Nat} {h : XH} {y : Nat → Nat} {K : XK} {E : XE} {l1 : Int32} {l2 : Int32} {l3 : Int32} {l4 : Int32} (hd : 20 ≤ d) (hs : Sg h.1 y) (H : (5 ≤ l4 → b_X7_fits_128 d 77 (l1 + 1) l2 l3 (some (.int l4)) h K E) ∧ (¬ (5 ≤ l4) → (l2 = 0 → b_X7_fits_117 d 77 l1 (some (.int l2)) l3 l4 h K E) ∧ (¬ (l2 = 0) → (Ix l1 400 ∧ (((-99) ≤ (xpn4 (h.2.2.1 92 (ix l1)) l4) ∧ (xpn4 (h.2.2.1 92 (ix l1)) l4) ≤ 99) → b_X7_fits_118 d 77 l1 (some (.int l2)) l3 l4 1 h K E) ∧ (¬ ((-99) ≤ (xpn4 (h.2.2.1 92 (ix l1)) l4) ∧ (xpn4 (h.2.2.1 92 (ix l1)) l4) ≤ 99) → b_X7_fits_117 d 77 l1 (some (.int l2)) l3 l4 h K E))))) : b_X7_fits_80 d 77 l1 l2 l3 l4 h K E := by
  show Ex d [] tb_X7_fits (80, [some (.ref 77), some (.int l1), some (.int l2), some (.int l3), some (.int l4)], []) h _
  refine Ex.pure 2 (fr2 := (83, [some (.ref 77), some (.int l1), some (.int l2), some (.int l3), some (.int l4)], [.int 5, .int l4])) rfl ?_
  refine Ex.br (x := (125, [some (.ref 77), some (.int l1), some (.int l2), some (.int l3), some (.int l4)], [])) (y := (86, [some (.ref 77), some (.int l1), some (.int l2), some (.int l3), some (.int l4)], [])) (b := 5 ≤ l4) rfl (fun hb => ?_) (fun hb => ?_)
  · replace H := H.1 (hb)
    refine Ex.pure 1 (fr2 := (128, [some (.ref 77), some (.int (l1 + 1)), some (.int l2), some (.int l3), some (.int l4)], [])) rfl ?_
    exact H
  · replace H := H.2 (hb)
    refine Ex.pure 1 (fr2 := (87, [some (.ref 77), some (.int l1), some (.int l2), some (.int l3), some (.int l4)], [.int l2])) rfl ?_
    refine Ex.br (x := (117, [some (.ref 77), some (.int l1), some (.int l2), some (.int l3), some (.int l4)], [])) (y := (90, [some (.ref 77), some (.int l1), some (.int l2), some (.int l3), some (.int l4)], [])) (b := l2 = 0) rfl (fun hb => ?_) (fun hb => ?_)
    · replace H := H.1 (hb)
      exact H
    · replace H := H.2 (hb)
      refine Ex.pure 1 (fr2 := (91, [some (.ref 77), some (.int l1), some (.int l2), some (.int l3), some (.int l4)], [.ref 77])) rfl ?_
      refine Ex.getQ rfl (sg_77 hs) rfl ?_
      refine Ex.pure 1 (fr2 := (95, [some (.ref 77), some (.int l1), some (.int l2), some (.int l3), some (.int l4)], [.int l1, .ref 92])) rfl ?_
      refine Ex.lald rfl (sg_92 hs) H.1 ?_
      replace H := H.2
      refine Ex.pure 1 (fr2 := (98, [some (.ref 77), some (.int l1), some (.int l2), some (.int l3), some (.int l4)], [.int l4, .long (h.2.2.1 92 (ix l1))])) rfl ?_
      refine Ex.ask (rest := []) (j := m_X7_exponentOf) (as := [.long (h.2.2.1 92 (ix l1)), .int l4]) (fun c => rfl) ((t_X7_exponentOf hs).mono (by omega) (fun _ _ z => z)) ?_
      rintro _ h0 ⟨rfl, e0⟩
      rw [e0]
      show Ex d [] tb_X7_fits (101, [some (.ref 77), some (.int l1), some (.int l2), some (.int l3), some (.int l4)], [.long (xpn4 (h.2.2.1 92 (ix l1)) l4)]) h _
      refine Ex.pure 2 (fr2 := (107, [some (.ref 77), some (.int l1), some (.int l2), some (.int l3), some (.int l4)], [.long 99, .long (-99), .long (xpn4 (h.2.2.1 92 (ix l1)) l4)])) rfl ?_
      refine Ex.ask (rest := []) (j := m_X7_isIn) (as := [.long (xpn4 (h.2.2.1 92 (ix l1)) l4), .long (-99), .long 99]) (fun c => rfl) ((t_X7_isIn hs).mono (by omega) (fun _ _ z => z)) ?_
      rintro _ h0 ⟨rfl, e0⟩
      rw [e0]
      show Ex d [] tb_X7_fits (110, [some (.ref 77), some (.int l1), some (.int l2), some (.int l3), some (.int l4)], [.int (bi ((-99) ≤ (xpn4 (h.2.2.1 92 (ix l1)) l4) ∧ (xpn4 (h.2.2.1 92 (ix l1)) l4) ≤ 99))]) h _
      refine Ex.br (x := (117, [some (.ref 77), some (.int l1), some (.int l2), some (.int l3), some (.int l4)], [])) (y := (113, [some (.ref 77), some (.int l1), some (.int l2), some (.int l3), some (.int l4)], [])) (b := (bi ((-99) ≤ (xpn4 (h.2.2.1 92 (ix l1)) l4) ∧ (xpn4 (h.2.2.1 92 (ix l1)) l4) ≤ 99)) = 0) rfl (fun hb => ?_) (fun hb => ?_)
      · replace H := H.2 (bi_eq.mp hb)
        exact H
      · replace H := H.1 (bi_neq.mp hb)
        refine Ex.pure 2 (fr2 := (118, [some (.ref 77), some (.int l1), some (.int l2), some (.int l3), some (.int l4)], [.int 1])) rfl ?_
        exact H
theorem w_X7_fits_117 {d : Nat} {h : XH} {y : Nat → Nat} {K : XK} {E : XE} {l1 : Int32} {u2 : Option Value} {l3 : Int32} {l4 : Int32} (hd : 20 ≤ d) (hs : Sg h.1 y) (H : b_X7_fits_118 d 77 l1 (u2) l3 l4 0 h K E) : b_X7_fits_117 d 77 l1 u2 l3 l4 h K E := by
  show Ex d [] tb_X7_fits (117, [some (.ref 77), some (.int l1), u2, some (.int l3), some (.int l4)], []) h _
  refine Ex.pure 1 (fr2 := (118, [some (.ref 77), some (.int l1), u2, some (.int l3), some (.int l4)], [.int 0])) rfl ?_
  exact H
theorem w_X7_fits_118 {d : Nat} {h : XH} {y : Nat → Nat} {K : XK} {E : XE} {l1 : Int32} {u2 : Option Value} {l3 : Int32} {l4 : Int32} {s0 : Int32} (hd : 20 ≤ d) (hs : Sg h.1 y) (H : b_X7_fits_80 d 77 l1 s0 l3 (l4 + 1) h K E) : b_X7_fits_118 d 77 l1 u2 l3 l4 s0 h K E := by
  show Ex d [] tb_X7_fits (118, [some (.ref 77), some (.int l1), u2, some (.int l3), some (.int l4)], [.int s0]) h _
  refine Ex.pure 3 (fr2 := (80, [some (.ref 77), some (.int l1), some (.int s0), some (.int l3), some (.int (l4 + 1))], [])) rfl ?_
  exact H
theorem w_X7_fits_128 {d : Nat} {h : XH} {y : Nat → Nat} {K : XK} {E : XE} {l1 : Int32} {l2 : Int32} {l3 : Int32} {u4 : Option Value} (hd : 20 ≤ d) (hs : Sg h.1 y) (H : b_X7_fits_6 d 77 l1 l2 (l3 + 1) (u4) h K E) : b_X7_fits_128 d 77 l1 l2 l3 u4 h K E := by
  show Ex d [] tb_X7_fits (128, [some (.ref 77), some (.int l1), some (.int l2), some (.int l3), u4], []) h _
  refine Ex.pure 2 (fr2 := (6, [some (.ref 77), some (.int l1), some (.int l2), some (.int (l3 + 1)), u4], [])) rfl ?_
  exact H
def b_X7_laysGrowth_12 (d : Nat) (r_0 : Nat) (l1 : Int32) (l2 : Int32) (h : XH) (K : XK) (E : XE) : Prop := Ex d [] tb_X7_laysGrowth (12, [some (.ref r_0), some (.int l1), some (.int l2)], []) h (Po K E)
theorem w_X7_laysGrowth {d : Nat} {h : XH} {y : Nat → Nat} {K : XK} {E : XE} {a : Int32} (hd : 20 ≤ d) (hs : Sg h.1 y) (H : (Ca d m_X7_lays [.ref 77, .int a, .int 3, .int (h.2.1 77 20)] h (fun rv h1 => rv = none ∧ Sg h1.1 y ∧ b_X7_laysGrowth_12 d 77 a 0 h1 K E) E)) : Ca (d + 1) m_X7_laysGrowth [.ref 77, .int a] h K E := by
  refine Ca.of ⟨by show 2 ≤ 3; omega, rfl⟩ ?_
  show Ex d [] tb_X7_laysGrowth (0, [some (.ref 77), some (.int a), none], []) h _
  refine Ex.pure 4 (fr2 := (4, [some (.ref 77), some (.int a), none], [.ref 77, .int 3, .int a, .ref 77])) rfl ?_
  refine Ex.getI rfl (Or.inl rfl) (sg_77 hs) ?_
  refine Ex.cal (rest := []) (j := m_X7_lays) (as := [.ref 77, .int a, .int 3, .int (h.2.1 77 20)]) (vst (a := 118) (b := 4) (c := 6) (rest := []) (vs := [.int a, .int 3, .int (h.2.1 77 20)]) rfl ⟨Nat.le_of_ble_eq_true rfl, Nat.le_of_ble_eq_true rfl⟩ rfl rfl (sg_77 hs)) (H.imp ?_)
  intro rv h1 H
  obtain ⟨rfl, H⟩ := H
  obtain ⟨hs, H⟩ := H
  show Ex d [] tb_X7_laysGrowth (10, [some (.ref 77), some (.int a), none], []) h1 _
  refine Ex.pure 2 (fr2 := (12, [some (.ref 77), some (.int a), some (.int 0)], [])) rfl ?_
  exact H
theorem w_X7_laysGrowth_12 {d : Nat} {h : XH} {y : Nat → Nat} {K : XK} {E : XE} {l1 : Int32} {l2 : Int32} (hd : 20 ≤ d) (hs : Sg h.1 y) (H : ((h.2.1 77 20) ≤ l2 → K none h) ∧ (¬ ((h.2.1 77 20) ≤ l2) → (Ix l2 400 ∧ (Ix ((20 * l1) + l2) 320 ∧ (∀ h1 : XH, h1 = (x_setJ h 90 (ix ((20 * l1) + l2)) (h.2.2.1 92 (ix l2))) → (Ix l2 400 ∧ (Ix ((20 * l1) + l2) 320 ∧ (∀ h2 : XH, h2 = (x_setI h1 91 (ix ((20 * l1) + l2)) (((h1.2.2.1 93 (ix l2)) : Int64).toInt32)) → b_X7_laysGrowth_12 d 77 l1 (l2 + 1) h2 K E)))))))) : b_X7_laysGrowth_12 d 77 l1 l2 h K E := by
  show Ex d [] tb_X7_laysGrowth (12, [some (.ref 77), some (.int l1), some (.int l2)], []) h _
  refine Ex.pure 2 (fr2 := (14, [some (.ref 77), some (.int l1), some (.int l2)], [.ref 77, .int l2])) rfl ?_
  refine Ex.getI rfl (Or.inl rfl) (sg_77 hs) ?_
  refine Ex.br (x := (61, [some (.ref 77), some (.int l1), some (.int l2)], [])) (y := (20, [some (.ref 77), some (.int l1), some (.int l2)], [])) (b := (h.2.1 77 20) ≤ l2) rfl (fun hb => ?_) (fun hb => ?_)
  · replace H := H.1 (hb)
    exact Ex.vret rfl H
  · replace H := H.2 (hb)
    refine Ex.pure 1 (fr2 := (21, [some (.ref 77), some (.int l1), some (.int l2)], [.ref 77])) rfl ?_
    refine Ex.getQ rfl (sg_77 hs) rfl ?_
    refine Ex.pure 6 (fr2 := (31, [some (.ref 77), some (.int l1), some (.int l2)], [.ref 77, .int ((20 * l1) + l2), .ref 90])) rfl ?_
    refine Ex.getQ rfl (sg_77 hs) rfl ?_
    refine Ex.pure 1 (fr2 := (35, [some (.ref 77), some (.int l1), some (.int l2)], [.int l2, .ref 92, .int ((20 * l1) + l2), .ref 90])) rfl ?_
    refine Ex.lald rfl (sg_92 hs) H.1 ?_
    replace H := H.2
    refine Ex.last rfl (sg_90 hs) H.1 ?_
    replace H := H.2
    obtain ⟨h1, e1⟩ : ∃ z : XH, z = (x_setJ h 90 (ix ((20 * l1) + l2)) (h.2.2.1 92 (ix l2))) := ⟨_, rfl⟩
    rw [← e1]
    replace H := H h1 e1
    replace hs : Sg h1.1 y := by rw [e1]; exact hs
    refine Ex.pure 1 (fr2 := (38, [some (.ref 77), some (.int l1), some (.int l2)], [.ref 77])) rfl ?_
    refine Ex.getQ rfl (sg_77 hs) rfl ?_
    refine Ex.pure 6 (fr2 := (48, [some (.ref 77), some (.int l1), some (.int l2)], [.ref 77, .int ((20 * l1) + l2), .ref 91])) rfl ?_
    refine Ex.getQ rfl (sg_77 hs) rfl ?_
    refine Ex.pure 1 (fr2 := (52, [some (.ref 77), some (.int l1), some (.int l2)], [.int l2, .ref 93, .int ((20 * l1) + l2), .ref 91])) rfl ?_
    refine Ex.lald rfl (sg_93 hs) H.1 ?_
    replace H := H.2
    refine Ex.pure 1 (fr2 := (54, [some (.ref 77), some (.int l1), some (.int l2)], [.int (((h1.2.2.1 93 (ix l2)) : Int64).toInt32), .int ((20 * l1) + l2), .ref 91])) rfl ?_
    refine Ex.iast rfl (sg_91 hs) H.1 ?_
    replace H := H.2
    obtain ⟨h2, e2⟩ : ∃ z : XH, z = (x_setI h1 91 (ix ((20 * l1) + l2)) (((h1.2.2.1 93 (ix l2)) : Int64).toInt32)) := ⟨_, rfl⟩
    rw [← e2]
    replace H := H h2 e2
    replace hs : Sg h2.1 y := by rw [e2]; exact hs
    refine Ex.pure 2 (fr2 := (12, [some (.ref 77), some (.int l1), some (.int (l2 + 1))], [])) rfl ?_
    exact H
def b_X7_joinsAll_5 (d : Nat) (r_0 : Nat) (l1 : Int32) (l2 : Int32) (l3 : Int32) (h : XH) (K : XK) (E : XE) : Prop := Ex d [] tb_X7_joinsAll (5, [some (.ref r_0), some (.int l1), some (.int l2), some (.int l3)], []) h (Po K E)
theorem w_X7_joinsAll {d : Nat} {h : XH} {y : Nat → Nat} {K : XK} {E : XE} {a : Int32} {b : Int32} (hd : 20 ≤ d) (hs : Sg h.1 y) (H : b_X7_joinsAll_5 d 77 a b (20 * a) h K E) : Ca (d + 1) m_X7_joinsAll [.ref 77, .int a, .int b] h K E := by
  refine Ca.of ⟨by show 3 ≤ 4; omega, rfl⟩ ?_
  show Ex d [] tb_X7_joinsAll (0, [some (.ref 77), some (.int a), some (.int b), none], []) h _
  refine Ex.pure 4 (fr2 := (5, [some (.ref 77), some (.int a), some (.int b), some (.int (20 * a))], [])) rfl ?_
  exact H
theorem w_X7_joinsAll_5 {d : Nat} {h : XH} {y : Nat → Nat} {K : XK} {E : XE} {l1 : Int32} {l2 : Int32} {l3 : Int32} (hd : 20 ≤ d) (hs : Sg h.1 y) (H : (Ix l1 16 ∧ (((20 * l1) + (h.2.1 79 (ix l1))) ≤ l3 → K none h) ∧ (¬ (((20 * l1) + (h.2.1 79 (ix l1))) ≤ l3) → (Ix l3 320 ∧ (Ix l3 320 ∧ (Ca d m_X7_joins [.ref 77, .long (h.2.2.1 90 (ix l3)), .long ((l2 : Int32).toInt64 * ((h.2.1 91 (ix l3)) : Int32).toInt64)] h (fun rv h1 => rv = none ∧ Sg h1.1 y ∧ b_X7_joinsAll_5 d 77 l1 l2 (l3 + 1) h1 K E) E)))))) : b_X7_joinsAll_5 d 77 l1 l2 l3 h K E := by
  show Ex d [] tb_X7_joinsAll (5, [some (.ref 77), some (.int l1), some (.int l2), some (.int l3)], []) h _
  refine Ex.pure 5 (fr2 := (11, [some (.ref 77), some (.int l1), some (.int l2), some (.int l3)], [.ref 77, .int (20 * l1), .int l3])) rfl ?_
  refine Ex.getQ rfl (sg_77 hs) rfl ?_
  refine Ex.pure 1 (fr2 := (15, [some (.ref 77), some (.int l1), some (.int l2), some (.int l3)], [.int l1, .ref 79, .int (20 * l1), .int l3])) rfl ?_
  refine Ex.iald rfl (Or.inl rfl) (sg_79 hs) H.1 ?_
  replace H := H.2
  refine Ex.pure 1 (fr2 := (17, [some (.ref 77), some (.int l1), some (.int l2), some (.int l3)], [.int ((20 * l1) + (h.2.1 79 (ix l1))), .int l3])) rfl ?_
  refine Ex.br (x := (46, [some (.ref 77), some (.int l1), some (.int l2), some (.int l3)], [])) (y := (20, [some (.ref 77), some (.int l1), some (.int l2), some (.int l3)], [])) (b := ((20 * l1) + (h.2.1 79 (ix l1))) ≤ l3) rfl (fun hb => ?_) (fun hb => ?_)
  · replace H := H.1 (hb)
    exact Ex.vret rfl H
  · replace H := H.2 (hb)
    refine Ex.pure 2 (fr2 := (22, [some (.ref 77), some (.int l1), some (.int l2), some (.int l3)], [.ref 77, .ref 77])) rfl ?_
    refine Ex.getQ rfl (sg_77 hs) rfl ?_
    refine Ex.pure 1 (fr2 := (26, [some (.ref 77), some (.int l1), some (.int l2), some (.int l3)], [.int l3, .ref 90, .ref 77])) rfl ?_
    refine Ex.lald rfl (sg_90 hs) H.1 ?_
    replace H := H.2
    refine Ex.pure 3 (fr2 := (30, [some (.ref 77), some (.int l1), some (.int l2), some (.int l3)], [.ref 77, .long ((l2 : Int32).toInt64), .long (h.2.2.1 90 (ix l3)), .ref 77])) rfl ?_
    refine Ex.getQ rfl (sg_77 hs) rfl ?_
    refine Ex.pure 1 (fr2 := (34, [some (.ref 77), some (.int l1), some (.int l2), some (.int l3)], [.int l3, .ref 91, .long ((l2 : Int32).toInt64), .long (h.2.2.1 90 (ix l3)), .ref 77])) rfl ?_
    refine Ex.iald rfl (Or.inl rfl) (sg_91 hs) H.1 ?_
    replace H := H.2
    refine Ex.pure 2 (fr2 := (37, [some (.ref 77), some (.int l1), some (.int l2), some (.int l3)], [.long ((l2 : Int32).toInt64 * ((h.2.1 91 (ix l3)) : Int32).toInt64), .long (h.2.2.1 90 (ix l3)), .ref 77])) rfl ?_
    refine Ex.cal (rest := []) (j := m_X7_joins) (as := [.ref 77, .long (h.2.2.1 90 (ix l3)), .long ((l2 : Int32).toInt64 * ((h.2.1 91 (ix l3)) : Int32).toInt64)]) (vst (a := 135) (b := 3) (c := 6) (rest := []) (vs := [.long (h.2.2.1 90 (ix l3)), .long ((l2 : Int32).toInt64 * ((h.2.1 91 (ix l3)) : Int32).toInt64)]) rfl ⟨Nat.le_of_ble_eq_true rfl, Nat.le_of_ble_eq_true rfl⟩ rfl rfl (sg_77 hs)) (H.imp ?_)
    intro rv h1 H
    obtain ⟨rfl, H⟩ := H
    obtain ⟨hs, H⟩ := H
    show Ex d [] tb_X7_joinsAll (40, [some (.ref 77), some (.int l1), some (.int l2), some (.int l3)], []) h1 _
    refine Ex.pure 2 (fr2 := (5, [some (.ref 77), some (.int l1), some (.int l2), some (.int (l3 + 1))], [])) rfl ?_
    exact H
theorem w_X7_joinsBoth {d : Nat} {h : XH} {y : Nat → Nat} {K : XK} {E : XE} {a : Int32} {b : Int32} {c : Int32} (hd : 20 ≤ d) (hs : Sg h.1 y) (H : (∀ h1 : XH, h1 = (x_setI h 77 20 0) → (Ca d m_X7_joinsAll [.ref 77, .int a, .int 1] h1 (fun rv h2 => rv = none ∧ Sg h2.1 y ∧ (Ca d m_X7_joinsAll [.ref 77, .int b, .int c] h2 (fun rv h4 => rv = none ∧ Sg h4.1 y ∧ (Ca d m_X7_fits [.ref 77] h4 (fun rv h6 => ∃ x7, rv = some (.int x7) ∧ Sg h6.1 y ∧ (x7 = 0 ∨ x7 = 1) ∧ K (some (.int x7)) h6) E)) E)) E))) : Ca (d + 1) m_X7_joinsBoth [.ref 77, .int a, .int b, .int c] h K E := by
  refine Ca.of ⟨by show 4 ≤ 4; omega, rfl⟩ ?_
  show Ex d [] tb_X7_joinsBoth (0, [some (.ref 77), some (.int a), some (.int b), some (.int c)], []) h _
  refine Ex.pure 2 (fr2 := (2, [some (.ref 77), some (.int a), some (.int b), some (.int c)], [.int 0, .ref 77])) rfl ?_
  refine Ex.putI rfl (sg_77 hs) ?_
  obtain ⟨h1, e1⟩ : ∃ z : XH, z = (x_setI h 77 20 0) := ⟨_, rfl⟩
  rw [← e1]
  replace H := H h1 e1
  replace hs : Sg h1.1 y := by rw [e1]; exact hs
  refine Ex.pure 3 (fr2 := (8, [some (.ref 77), some (.int a), some (.int b), some (.int c)], [.int 1, .int a, .ref 77])) rfl ?_
  refine Ex.cal (rest := []) (j := m_X7_joinsAll) (as := [.ref 77, .int a, .int 1]) (vst (a := 138) (b := 3) (c := 6) (rest := []) (vs := [.int a, .int 1]) rfl ⟨Nat.le_of_ble_eq_true rfl, Nat.le_of_ble_eq_true rfl⟩ rfl rfl (sg_77 hs)) (H.imp ?_)
  intro rv h2 H
  obtain ⟨rfl, H⟩ := H
  obtain ⟨hs, H⟩ := H
  show Ex d [] tb_X7_joinsBoth (11, [some (.ref 77), some (.int a), some (.int b), some (.int c)], []) h2 _
  refine Ex.pure 3 (fr2 := (14, [some (.ref 77), some (.int a), some (.int b), some (.int c)], [.int c, .int b, .ref 77])) rfl ?_
  refine Ex.cal (rest := []) (j := m_X7_joinsAll) (as := [.ref 77, .int b, .int c]) (vst (a := 138) (b := 3) (c := 6) (rest := []) (vs := [.int b, .int c]) rfl ⟨Nat.le_of_ble_eq_true rfl, Nat.le_of_ble_eq_true rfl⟩ rfl rfl (sg_77 hs)) (H.imp ?_)
  intro rv h4 H
  obtain ⟨rfl, H⟩ := H
  obtain ⟨hs, H⟩ := H
  show Ex d [] tb_X7_joinsBoth (17, [some (.ref 77), some (.int a), some (.int b), some (.int c)], []) h4 _
  refine Ex.pure 1 (fr2 := (18, [some (.ref 77), some (.int a), some (.int b), some (.int c)], [.ref 77])) rfl ?_
  refine Ex.cal (rest := []) (j := m_X7_fits) (as := [.ref 77]) (vst (a := 136) (b := 1) (c := 6) (rest := []) (vs := []) rfl ⟨Nat.le_of_ble_eq_true rfl, Nat.le_of_ble_eq_true rfl⟩ rfl rfl (sg_77 hs)) (H.imp ?_)
  intro rv h6 H
  obtain ⟨x7, rfl, H⟩ := H
  obtain ⟨hs, H⟩ := H
  show Ex d [] tb_X7_joinsBoth (21, [some (.ref 77), some (.int a), some (.int b), some (.int c)], [.int x7]) h6 _
  exact Ex.iret rfl (Or.inr ⟨rfl, H.1⟩) H.2
def b_X7_multiplies_10 (d : Nat) (r_0 : Nat) (l1 : Int32) (l2 : Int32) (l3 : Int32) (u4 : Option Value) (h : XH) (K : XK) (E : XE) : Prop := Ex d [] tb_X7_multiplies (10, [some (.ref r_0), some (.int l1), some (.int l2), some (.int l3), u4], []) h (Po K E)
def b_X7_multiplies_31 (d : Nat) (r_0 : Nat) (l1 : Int32) (l2 : Int32) (l3 : Int32) (l4 : Int32) (h : XH) (K : XK) (E : XE) : Prop := Ex d [] tb_X7_multiplies (31, [some (.ref r_0), some (.int l1), some (.int l2), some (.int l3), some (.int l4)], []) h (Po K E)
theorem w_X7_multiplies {d : Nat} {h : XH} {y : Nat → Nat} {K : XK} {E : XE} {a : Int32} {b : Int32} (hd : 20 ≤ d) (hs : Sg h.1 y) (H : (∀ h1 : XH, h1 = (x_setI h 77 20 0) → b_X7_multiplies_10 d 77 a b (20 * a) none h1 K E)) : Ca (d + 1) m_X7_multiplies [.ref 77, .int a, .int b] h K E := by
  refine Ca.of ⟨by show 3 ≤ 5; omega, rfl⟩ ?_
  show Ex d [] tb_X7_multiplies (0, [some (.ref 77), some (.int a), some (.int b), none, none], []) h _
  refine Ex.pure 2 (fr2 := (2, [some (.ref 77), some (.int a), some (.int b), none, none], [.int 0, .ref 77])) rfl ?_
  refine Ex.putI rfl (sg_77 hs) ?_
  obtain ⟨h1, e1⟩ : ∃ z : XH, z = (x_setI h 77 20 0) := ⟨_, rfl⟩
  rw [← e1]
  replace H := H h1 e1
  replace hs : Sg h1.1 y := by rw [e1]; exact hs
  refine Ex.pure 4 (fr2 := (10, [some (.ref 77), some (.int a), some (.int b), some (.int (20 * a)), none], [])) rfl ?_
  exact H
theorem w_X7_multiplies_10 {d : Nat} {h : XH} {y : Nat → Nat} {K : XK} {E : XE} {l1 : Int32} {l2 : Int32} {l3 : Int32} {u4 : Option Value} (hd : 20 ≤ d) (hs : Sg h.1 y) (H : (Ix l1 16 ∧ (((20 * l1) + (h.2.1 79 (ix l1))) ≤ l3 → (Ca d m_X7_fits [.ref 77] h (fun rv h1 => ∃ x2, rv = some (.int x2) ∧ Sg h1.1 y ∧ (x2 = 0 ∨ x2 = 1) ∧ K (some (.int x2)) h1) E)) ∧ (¬ (((20 * l1) + (h.2.1 79 (ix l1))) ≤ l3) → b_X7_multiplies_31 d 77 l1 l2 l3 (20 * l2) h K E))) : b_X7_multiplies_10 d 77 l1 l2 l3 u4 h K E := by
  show Ex d [] tb_X7_multiplies (10, [some (.ref 77), some (.int l1), some (.int l2), some (.int l3), u4], []) h _
  refine Ex.pure 5 (fr2 := (16, [some (.ref 77), some (.int l1), some (.int l2), some (.int l3), u4], [.ref 77, .int (20 * l1), .int l3])) rfl ?_
  refine Ex.getQ rfl (sg_77 hs) rfl ?_
  refine Ex.pure 1 (fr2 := (20, [some (.ref 77), some (.int l1), some (.int l2), some (.int l3), u4], [.int l1, .ref 79, .int (20 * l1), .int l3])) rfl ?_
  refine Ex.iald rfl (Or.inl rfl) (sg_79 hs) H.1 ?_
  replace H := H.2
  refine Ex.pure 1 (fr2 := (22, [some (.ref 77), some (.int l1), some (.int l2), some (.int l3), u4], [.int ((20 * l1) + (h.2.1 79 (ix l1))), .int l3])) rfl ?_
  refine Ex.br (x := (97, [some (.ref 77), some (.int l1), some (.int l2), some (.int l3), u4], [])) (y := (25, [some (.ref 77), some (.int l1), some (.int l2), some (.int l3), u4], [])) (b := ((20 * l1) + (h.2.1 79 (ix l1))) ≤ l3) rfl (fun hb => ?_) (fun hb => ?_)
  · replace H := H.1 (hb)
    refine Ex.pure 1 (fr2 := (98, [some (.ref 77), some (.int l1), some (.int l2), some (.int l3), u4], [.ref 77])) rfl ?_
    refine Ex.cal (rest := []) (j := m_X7_fits) (as := [.ref 77]) (vst (a := 136) (b := 1) (c := 6) (rest := []) (vs := []) rfl ⟨Nat.le_of_ble_eq_true rfl, Nat.le_of_ble_eq_true rfl⟩ rfl rfl (sg_77 hs)) (H.imp ?_)
    intro rv h1 H
    obtain ⟨x2, rfl, H⟩ := H
    obtain ⟨hs, H⟩ := H
    show Ex d [] tb_X7_multiplies (101, [some (.ref 77), some (.int l1), some (.int l2), some (.int l3), u4], [.int x2]) h1 _
    exact Ex.iret rfl (Or.inr ⟨rfl, H.1⟩) H.2
  · replace H := H.2 (hb)
    refine Ex.pure 4 (fr2 := (31, [some (.ref 77), some (.int l1), some (.int l2), some (.int l3), some (.int (20 * l2))], [])) rfl ?_
    exact H
theorem w_X7_multiplies_31 {d : Nat} {h : XH} {y : Nat → Nat} {K : XK} {E : XE} {l1 : Int32} {l2 : Int32} {l3 : Int32} {l4 : Int32} (hd : 20 ≤ d) (hs : Sg h.1 y) (H : (Ix l2 16 ∧ (((20 * l2) + (h.2.1 79 (ix l2))) ≤ l4 → b_X7_multiplies_10 d 77 l1 l2 (l3 + 1) (some (.int l4)) h K E) ∧ (¬ (((20 * l2) + (h.2.1 79 (ix l2))) ≤ l4) → (Ix l3 320 ∧ (Ix l4 320 ∧ (Ix l3 320 ∧ (Ix l4 320 ∧ (Ca d m_X7_joins [.ref 77, .long (((h.2.2.1 90 (ix l3)) + (h.2.2.1 90 (ix l4))) - lvl), .long (((h.2.1 91 (ix l3)) : Int32).toInt64 * ((h.2.1 91 (ix l4)) : Int32).toInt64)] h (fun rv h2 => rv = none ∧ Sg h2.1 y ∧ b_X7_multiplies_31 d 77 l1 l2 l3 (l4 + 1) h2 K E) E)))))))) : b_X7_multiplies_31 d 77 l1 l2 l3 l4 h K E := by
  show Ex d [] tb_X7_multiplies (31, [some (.ref 77), some (.int l1), some (.int l2), some (.int l3), some (.int l4)], []) h _
  refine Ex.pure 5 (fr2 := (38, [some (.ref 77), some (.int l1), some (.int l2), some (.int l3), some (.int l4)], [.ref 77, .int (20 * l2), .int l4])) rfl ?_
  refine Ex.getQ rfl (sg_77 hs) rfl ?_
  refine Ex.pure 1 (fr2 := (42, [some (.ref 77), some (.int l1), some (.int l2), some (.int l3), some (.int l4)], [.int l2, .ref 79, .int (20 * l2), .int l4])) rfl ?_
  refine Ex.iald rfl (Or.inl rfl) (sg_79 hs) H.1 ?_
  replace H := H.2
  refine Ex.pure 1 (fr2 := (44, [some (.ref 77), some (.int l1), some (.int l2), some (.int l3), some (.int l4)], [.int ((20 * l2) + (h.2.1 79 (ix l2))), .int l4])) rfl ?_
  refine Ex.br (x := (91, [some (.ref 77), some (.int l1), some (.int l2), some (.int l3), some (.int l4)], [])) (y := (47, [some (.ref 77), some (.int l1), some (.int l2), some (.int l3), some (.int l4)], [])) (b := ((20 * l2) + (h.2.1 79 (ix l2))) ≤ l4) rfl (fun hb => ?_) (fun hb => ?_)
  · replace H := H.1 (hb)
    refine Ex.pure 2 (fr2 := (10, [some (.ref 77), some (.int l1), some (.int l2), some (.int (l3 + 1)), some (.int l4)], [])) rfl ?_
    exact H
  · replace H := H.2 (hb)
    refine Ex.pure 2 (fr2 := (49, [some (.ref 77), some (.int l1), some (.int l2), some (.int l3), some (.int l4)], [.ref 77, .ref 77])) rfl ?_
    refine Ex.getQ rfl (sg_77 hs) rfl ?_
    refine Ex.pure 1 (fr2 := (53, [some (.ref 77), some (.int l1), some (.int l2), some (.int l3), some (.int l4)], [.int l3, .ref 90, .ref 77])) rfl ?_
    refine Ex.lald rfl (sg_90 hs) H.1 ?_
    replace H := H.2
    refine Ex.pure 1 (fr2 := (55, [some (.ref 77), some (.int l1), some (.int l2), some (.int l3), some (.int l4)], [.ref 77, .long (h.2.2.1 90 (ix l3)), .ref 77])) rfl ?_
    refine Ex.getQ rfl (sg_77 hs) rfl ?_
    refine Ex.pure 1 (fr2 := (60, [some (.ref 77), some (.int l1), some (.int l2), some (.int l3), some (.int l4)], [.int l4, .ref 90, .long (h.2.2.1 90 (ix l3)), .ref 77])) rfl ?_
    refine Ex.lald rfl (sg_90 hs) H.1 ?_
    replace H := H.2
    refine Ex.pure 1 (fr2 := (62, [some (.ref 77), some (.int l1), some (.int l2), some (.int l3), some (.int l4)], [.long ((h.2.2.1 90 (ix l3)) + (h.2.2.1 90 (ix l4))), .ref 77])) rfl ?_
    refine Ex.ask (rest := [.long ((h.2.2.1 90 (ix l3)) + (h.2.2.1 90 (ix l4))), .ref 77]) (j := m_X7_level) (as := []) (fun c => rfl) ((t_X7_level hs).mono (by omega) (fun _ _ z => z)) ?_
    rintro _ h0 ⟨rfl, e0⟩
    rw [e0]
    show Ex d [] tb_X7_multiplies (65, [some (.ref 77), some (.int l1), some (.int l2), some (.int l3), some (.int l4)], [.long lvl, .long ((h.2.2.1 90 (ix l3)) + (h.2.2.1 90 (ix l4))), .ref 77]) h _
    refine Ex.pure 2 (fr2 := (67, [some (.ref 77), some (.int l1), some (.int l2), some (.int l3), some (.int l4)], [.ref 77, .long (((h.2.2.1 90 (ix l3)) + (h.2.2.1 90 (ix l4))) - lvl), .ref 77])) rfl ?_
    refine Ex.getQ rfl (sg_77 hs) rfl ?_
    refine Ex.pure 1 (fr2 := (71, [some (.ref 77), some (.int l1), some (.int l2), some (.int l3), some (.int l4)], [.int l3, .ref 91, .long (((h.2.2.1 90 (ix l3)) + (h.2.2.1 90 (ix l4))) - lvl), .ref 77])) rfl ?_
    refine Ex.iald rfl (Or.inl rfl) (sg_91 hs) H.1 ?_
    replace H := H.2
    refine Ex.pure 2 (fr2 := (74, [some (.ref 77), some (.int l1), some (.int l2), some (.int l3), some (.int l4)], [.ref 77, .long (((h.2.1 91 (ix l3)) : Int32).toInt64), .long (((h.2.2.1 90 (ix l3)) + (h.2.2.1 90 (ix l4))) - lvl), .ref 77])) rfl ?_
    refine Ex.getQ rfl (sg_77 hs) rfl ?_
    refine Ex.pure 1 (fr2 := (79, [some (.ref 77), some (.int l1), some (.int l2), some (.int l3), some (.int l4)], [.int l4, .ref 91, .long (((h.2.1 91 (ix l3)) : Int32).toInt64), .long (((h.2.2.1 90 (ix l3)) + (h.2.2.1 90 (ix l4))) - lvl), .ref 77])) rfl ?_
    refine Ex.iald rfl (Or.inl rfl) (sg_91 hs) H.1 ?_
    replace H := H.2
    refine Ex.pure 2 (fr2 := (82, [some (.ref 77), some (.int l1), some (.int l2), some (.int l3), some (.int l4)], [.long (((h.2.1 91 (ix l3)) : Int32).toInt64 * ((h.2.1 91 (ix l4)) : Int32).toInt64), .long (((h.2.2.1 90 (ix l3)) + (h.2.2.1 90 (ix l4))) - lvl), .ref 77])) rfl ?_
    refine Ex.cal (rest := []) (j := m_X7_joins) (as := [.ref 77, .long (((h.2.2.1 90 (ix l3)) + (h.2.2.1 90 (ix l4))) - lvl), .long (((h.2.1 91 (ix l3)) : Int32).toInt64 * ((h.2.1 91 (ix l4)) : Int32).toInt64)]) (vst (a := 135) (b := 3) (c := 6) (rest := []) (vs := [.long (((h.2.2.1 90 (ix l3)) + (h.2.2.1 90 (ix l4))) - lvl), .long (((h.2.1 91 (ix l3)) : Int32).toInt64 * ((h.2.1 91 (ix l4)) : Int32).toInt64)]) rfl ⟨Nat.le_of_ble_eq_true rfl, Nat.le_of_ble_eq_true rfl⟩ rfl rfl (sg_77 hs)) (H.imp ?_)
    intro rv h2 H
    obtain ⟨rfl, H⟩ := H
    obtain ⟨hs, H⟩ := H
    show Ex d [] tb_X7_multiplies (85, [some (.ref 77), some (.int l1), some (.int l2), some (.int l3), some (.int l4)], []) h2 _
    refine Ex.pure 2 (fr2 := (31, [some (.ref 77), some (.int l1), some (.int l2), some (.int l3), some (.int (l4 + 1))], [])) rfl ?_
    exact H
def b_X7_derives_10 (d : Nat) (r_0 : Nat) (l1 : Int32) (l2 : Int32) (u3 : Option Value) (u4 : Option Value) (u5 : Option Value) (h : XH) (K : XK) (E : XE) : Prop := Ex d [] tb_X7_derives (10, [some (.ref r_0), some (.int l1), some (.int l2), u3, u4, u5], []) h (Po K E)
def b_X7_derives_30 (d : Nat) (r_0 : Nat) (l1 : Int32) (l2 : Int32) (l3 : Int64) (l5 : Int32) (h : XH) (K : XK) (E : XE) : Prop := Ex d [] tb_X7_derives (30, [some (.ref r_0), some (.int l1), some (.int l2), some (.long l3), none, some (.int l5)], []) h (Po K E)
def b_X7_derives_52 (d : Nat) (r_0 : Nat) (l1 : Int32) (l2 : Int32) (u3 : Option Value) (u4 : Option Value) (l5 : Int32) (s0 : Int64) (s1 : Int64) (h : XH) (K : XK) (E : XE) : Prop := Ex d [] tb_X7_derives (52, [some (.ref r_0), some (.int l1), some (.int l2), u3, u4, some (.int l5)], [.long s0, .long s1]) h (Po K E)
theorem w_X7_derives {d : Nat} {h : XH} {y : Nat → Nat} {K : XK} {E : XE} {a : Int32} (hd : 20 ≤ d) (hs : Sg h.1 y) (H : (∀ h1 : XH, h1 = (x_setI h 77 20 0) → b_X7_derives_10 d 77 a (20 * a) none none none h1 K E)) : Ca (d + 1) m_X7_derives [.ref 77, .int a] h K E := by
  refine Ca.of ⟨by show 2 ≤ 6; omega, rfl⟩ ?_
  show Ex d [] tb_X7_derives (0, [some (.ref 77), some (.int a), none, none, none, none], []) h _
  refine Ex.pure 2 (fr2 := (2, [some (.ref 77), some (.int a), none, none, none, none], [.int 0, .ref 77])) rfl ?_
  refine Ex.putI rfl (sg_77 hs) ?_
  obtain ⟨h1, e1⟩ : ∃ z : XH, z = (x_setI h 77 20 0) := ⟨_, rfl⟩
  rw [← e1]
  replace H := H h1 e1
  replace hs : Sg h1.1 y := by rw [e1]; exact hs
  refine Ex.pure 4 (fr2 := (10, [some (.ref 77), some (.int a), some (.int (20 * a)), none, none, none], [])) rfl ?_
  exact H
theorem w_X7_derives_10 {d : Nat} {h : XH} {y : Nat → Nat} {K : XK} {E : XE} {l1 : Int32} {l2 : Int32} {u3 : Option Value} {u4 : Option Value} {u5 : Option Value} (hd : 20 ≤ d) (hs : Sg h.1 y) (H : (Ix l1 16 ∧ (((20 * l1) + (h.2.1 79 (ix l1))) ≤ l2 → (Ca d m_X7_fits [.ref 77] h (fun rv h1 => ∃ x2, rv = some (.int x2) ∧ Sg h1.1 y ∧ (x2 = 0 ∨ x2 = 1) ∧ K (some (.int x2)) h1) E)) ∧ (¬ (((20 * l1) + (h.2.1 79 (ix l1))) ≤ l2) → b_X7_derives_30 d 77 l1 l2 0 1 h K E))) : b_X7_derives_10 d 77 l1 l2 u3 u4 u5 h K E := by
  show Ex d [] tb_X7_derives (10, [some (.ref 77), some (.int l1), some (.int l2), u3, u4, u5], []) h _
  refine Ex.pure 5 (fr2 := (16, [some (.ref 77), some (.int l1), some (.int l2), u3, u4, u5], [.ref 77, .int (20 * l1), .int l2])) rfl ?_
  refine Ex.getQ rfl (sg_77 hs) rfl ?_
  refine Ex.pure 1 (fr2 := (20, [some (.ref 77), some (.int l1), some (.int l2), u3, u4, u5], [.int l1, .ref 79, .int (20 * l1), .int l2])) rfl ?_
  refine Ex.iald rfl (Or.inl rfl) (sg_79 hs) H.1 ?_
  replace H := H.2
  refine Ex.pure 1 (fr2 := (22, [some (.ref 77), some (.int l1), some (.int l2), u3, u4, u5], [.int ((20 * l1) + (h.2.1 79 (ix l1))), .int l2])) rfl ?_
  refine Ex.br (x := (97, [some (.ref 77), some (.int l1), some (.int l2), u3, u4, u5], [])) (y := (25, [some (.ref 77), some (.int l1), some (.int l2), u3, u4, u5], [])) (b := ((20 * l1) + (h.2.1 79 (ix l1))) ≤ l2) rfl (fun hb => ?_) (fun hb => ?_)
  · replace H := H.1 (hb)
    refine Ex.pure 1 (fr2 := (98, [some (.ref 77), some (.int l1), some (.int l2), u3, u4, u5], [.ref 77])) rfl ?_
    refine Ex.cal (rest := []) (j := m_X7_fits) (as := [.ref 77]) (vst (a := 136) (b := 1) (c := 6) (rest := []) (vs := []) rfl ⟨Nat.le_of_ble_eq_true rfl, Nat.le_of_ble_eq_true rfl⟩ rfl rfl (sg_77 hs)) (H.imp ?_)
    intro rv h1 H
    obtain ⟨x2, rfl, H⟩ := H
    obtain ⟨hs, H⟩ := H
    show Ex d [] tb_X7_derives (101, [some (.ref 77), some (.int l1), some (.int l2), u3, u4, u5], [.int x2]) h1 _
    exact Ex.iret rfl (Or.inr ⟨rfl, H.1⟩) H.2
  · replace H := H.2 (hb)
    refine Ex.pure 4 (fr2 := (30, [some (.ref 77), some (.int l1), some (.int l2), some (.long 0), none, some (.int 1)], [])) rfl ?_
    exact H
theorem w_X7_derives_30 {d : Nat} {h : XH} {y : Nat → Nat} {K : XK} {E : XE} {l1 : Int32} {l2 : Int32} {l3 : Int64} {l5 : Int32} (hd : 20 ≤ d) (hs : Sg h.1 y) (H : (5 ≤ l5 → b_X7_derives_10 d 77 l1 (l2 + 1) (some (.long l3)) none (some (.int l5)) h K E) ∧ (¬ (5 ≤ l5) → (¬ l5 = 1 → b_X7_derives_52 d 77 l1 l2 (some (.long l3)) none l5 (unt l5) l3 h K E) ∧ (¬ (¬ l5 = 1) → b_X7_derives_52 d 77 l1 l2 (some (.long l3)) none l5 0 l3 h K E))) : b_X7_derives_30 d 77 l1 l2 l3 l5 h K E := by
  show Ex d [] tb_X7_derives (30, [some (.ref 77), some (.int l1), some (.int l2), some (.long l3), none, some (.int l5)], []) h _
  refine Ex.pure 2 (fr2 := (33, [some (.ref 77), some (.int l1), some (.int l2), some (.long l3), none, some (.int l5)], [.int 5, .int l5])) rfl ?_
  refine Ex.br (x := (91, [some (.ref 77), some (.int l1), some (.int l2), some (.long l3), none, some (.int l5)], [])) (y := (36, [some (.ref 77), some (.int l1), some (.int l2), some (.long l3), none, some (.int l5)], [])) (b := 5 ≤ l5) rfl (fun hb => ?_) (fun hb => ?_)
  · replace H := H.1 (hb)
    refine Ex.pure 2 (fr2 := (10, [some (.ref 77), some (.int l1), some (.int (l2 + 1)), some (.long l3), none, some (.int l5)], [])) rfl ?_
    exact H
  · replace H := H.2 (hb)
    refine Ex.pure 3 (fr2 := (40, [some (.ref 77), some (.int l1), some (.int l2), some (.long l3), none, some (.int l5)], [.int 1, .int l5, .long l3])) rfl ?_
    refine Ex.br (x := (47, [some (.ref 77), some (.int l1), some (.int l2), some (.long l3), none, some (.int l5)], [.long l3])) (y := (43, [some (.ref 77), some (.int l1), some (.int l2), some (.long l3), none, some (.int l5)], [.long l3])) (b := ¬ l5 = 1) rfl (fun hb => ?_) (fun hb => ?_)
    · replace H := H.1 (hb)
      refine Ex.pure 1 (fr2 := (49, [some (.ref 77), some (.int l1), some (.int l2), some (.long l3), none, some (.int l5)], [.int l5, .long l3])) rfl ?_
      refine Ex.ask (rest := [.long l3]) (j := m_X7_unit) (as := [.int l5]) (fun c => rfl) ((t_X7_unit hs).mono (by omega) (fun _ _ z => z)) ?_
      rintro _ h0 ⟨rfl, e0⟩
      rw [e0]
      show Ex d [] tb_X7_derives (52, [some (.ref 77), some (.int l1), some (.int l2), some (.long l3), none, some (.int l5)], [.long (unt l5), .long l3]) h _
      exact H
    · replace H := H.2 (hb)
      refine Ex.pure 2 (fr2 := (52, [some (.ref 77), some (.int l1), some (.int l2), some (.long l3), none, some (.int l5)], [.long 0, .long l3])) rfl ?_
      exact H
theorem w_X7_derives_52 {d : Nat} {h : XH} {y : Nat → Nat} {K : XK} {E : XE} {l1 : Int32} {l2 : Int32} {u3 : Option Value} {u4 : Option Value} {l5 : Int32} {s0 : Int64} {s1 : Int64} (hd : 20 ≤ d) (hs : Sg h.1 y) (H : (Ix l2 320 ∧ (Ix l2 320 ∧ (Ix l2 320 ∧ (Ca d m_X7_joins [.ref 77, .long ((h.2.2.1 90 (ix l2)) - (s1 + s0)), .long (((h.2.1 91 (ix l2)) : Int32).toInt64 * (xpn4 (h.2.2.1 90 (ix l2)) l5))] h (fun rv h2 => rv = none ∧ Sg h2.1 y ∧ b_X7_derives_30 d 77 l1 l2 (s1 + s0) (l5 + 1) h2 K E) E))))) : b_X7_derives_52 d 77 l1 l2 u3 u4 l5 s0 s1 h K E := by
  show Ex d [] tb_X7_derives (52, [some (.ref 77), some (.int l1), some (.int l2), u3, u4, some (.int l5)], [.long s0, .long s1]) h _
  refine Ex.pure 4 (fr2 := (56, [some (.ref 77), some (.int l1), some (.int l2), some (.long (s1 + s0)), none, some (.int l5)], [.ref 77, .ref 77])) rfl ?_
  refine Ex.getQ rfl (sg_77 hs) rfl ?_
  refine Ex.pure 1 (fr2 := (60, [some (.ref 77), some (.int l1), some (.int l2), some (.long (s1 + s0)), none, some (.int l5)], [.int l2, .ref 90, .ref 77])) rfl ?_
  refine Ex.lald rfl (sg_90 hs) H.1 ?_
  replace H := H.2
  refine Ex.pure 3 (fr2 := (64, [some (.ref 77), some (.int l1), some (.int l2), some (.long (s1 + s0)), none, some (.int l5)], [.ref 77, .long ((h.2.2.1 90 (ix l2)) - (s1 + s0)), .ref 77])) rfl ?_
  refine Ex.getQ rfl (sg_77 hs) rfl ?_
  refine Ex.pure 1 (fr2 := (68, [some (.ref 77), some (.int l1), some (.int l2), some (.long (s1 + s0)), none, some (.int l5)], [.int l2, .ref 91, .long ((h.2.2.1 90 (ix l2)) - (s1 + s0)), .ref 77])) rfl ?_
  refine Ex.iald rfl (Or.inl rfl) (sg_91 hs) H.1 ?_
  replace H := H.2
  refine Ex.pure 2 (fr2 := (71, [some (.ref 77), some (.int l1), some (.int l2), some (.long (s1 + s0)), none, some (.int l5)], [.ref 77, .long (((h.2.1 91 (ix l2)) : Int32).toInt64), .long ((h.2.2.1 90 (ix l2)) - (s1 + s0)), .ref 77])) rfl ?_
  refine Ex.getQ rfl (sg_77 hs) rfl ?_
  refine Ex.pure 1 (fr2 := (75, [some (.ref 77), some (.int l1), some (.int l2), some (.long (s1 + s0)), none, some (.int l5)], [.int l2, .ref 90, .long (((h.2.1 91 (ix l2)) : Int32).toInt64), .long ((h.2.2.1 90 (ix l2)) - (s1 + s0)), .ref 77])) rfl ?_
  refine Ex.lald rfl (sg_90 hs) H.1 ?_
  replace H := H.2
  refine Ex.pure 1 (fr2 := (78, [some (.ref 77), some (.int l1), some (.int l2), some (.long (s1 + s0)), none, some (.int l5)], [.int l5, .long (h.2.2.1 90 (ix l2)), .long (((h.2.1 91 (ix l2)) : Int32).toInt64), .long ((h.2.2.1 90 (ix l2)) - (s1 + s0)), .ref 77])) rfl ?_
  refine Ex.ask (rest := [.long (((h.2.1 91 (ix l2)) : Int32).toInt64), .long ((h.2.2.1 90 (ix l2)) - (s1 + s0)), .ref 77]) (j := m_X7_exponentOf) (as := [.long (h.2.2.1 90 (ix l2)), .int l5]) (fun c => rfl) ((t_X7_exponentOf hs).mono (by omega) (fun _ _ z => z)) ?_
  rintro _ h0 ⟨rfl, e0⟩
  rw [e0]
  show Ex d [] tb_X7_derives (81, [some (.ref 77), some (.int l1), some (.int l2), some (.long (s1 + s0)), none, some (.int l5)], [.long (xpn4 (h.2.2.1 90 (ix l2)) l5), .long (((h.2.1 91 (ix l2)) : Int32).toInt64), .long ((h.2.2.1 90 (ix l2)) - (s1 + s0)), .ref 77]) h _
  refine Ex.pure 1 (fr2 := (82, [some (.ref 77), some (.int l1), some (.int l2), some (.long (s1 + s0)), none, some (.int l5)], [.long (((h.2.1 91 (ix l2)) : Int32).toInt64 * (xpn4 (h.2.2.1 90 (ix l2)) l5)), .long ((h.2.2.1 90 (ix l2)) - (s1 + s0)), .ref 77])) rfl ?_
  refine Ex.cal (rest := []) (j := m_X7_joins) (as := [.ref 77, .long ((h.2.2.1 90 (ix l2)) - (s1 + s0)), .long (((h.2.1 91 (ix l2)) : Int32).toInt64 * (xpn4 (h.2.2.1 90 (ix l2)) l5))]) (vst (a := 135) (b := 3) (c := 6) (rest := []) (vs := [.long ((h.2.2.1 90 (ix l2)) - (s1 + s0)), .long (((h.2.1 91 (ix l2)) : Int32).toInt64 * (xpn4 (h.2.2.1 90 (ix l2)) l5))]) rfl ⟨Nat.le_of_ble_eq_true rfl, Nat.le_of_ble_eq_true rfl⟩ rfl rfl (sg_77 hs)) (H.imp ?_)
  intro rv h2 H
  obtain ⟨rfl, H⟩ := H
  obtain ⟨hs, H⟩ := H
  show Ex d [] tb_X7_derives (85, [some (.ref 77), some (.int l1), some (.int l2), some (.long (s1 + s0)), none, some (.int l5)], []) h2 _
  refine Ex.pure 2 (fr2 := (30, [some (.ref 77), some (.int l1), some (.int l2), some (.long (s1 + s0)), none, some (.int (l5 + 1))], [])) rfl ?_
  exact H
theorem w_X7_begins {d : Nat} {h : XH} {y : Nat → Nat} {K : XK} {E : XE} (hd : 20 ≤ d) (hs : Sg h.1 y) (H : (((0 : Int32) = 0 ∨ (0 : Int32) = 1) ∧ (∀ h1 : XH, h1 = (x_setI h 77 21 0) → (((0 : Int32) = 0 ∨ (0 : Int32) = 1) ∧ (∀ h2 : XH, h2 = (x_setI h1 77 22 0) → (∀ h3 : XH, h3 = (x_setJ h2 77 25 0) → (∀ h4 : XH, h4 = (x_setI h3 77 26 0) → K none h4))))))) : Ca (d + 1) m_X7_begins [.ref 77] h K E := by
  refine Ca.of ⟨by show 1 ≤ 1; omega, rfl⟩ ?_
  show Ex d [] tb_X7_begins (0, [some (.ref 77)], []) h _
  refine Ex.pure 2 (fr2 := (2, [some (.ref 77)], [.int 0, .ref 77])) rfl ?_
  refine Ex.putZ rfl (sg_77 hs) H.1 ?_
  replace H := H.2
  obtain ⟨h1, e1⟩ : ∃ z : XH, z = (x_setI h 77 21 0) := ⟨_, rfl⟩
  rw [← e1]
  replace H := H h1 e1
  replace hs : Sg h1.1 y := by rw [e1]; exact hs
  refine Ex.pure 2 (fr2 := (7, [some (.ref 77)], [.int 0, .ref 77])) rfl ?_
  refine Ex.putZ rfl (sg_77 hs) H.1 ?_
  replace H := H.2
  obtain ⟨h2, e2⟩ : ∃ z : XH, z = (x_setI h1 77 22 0) := ⟨_, rfl⟩
  rw [← e2]
  replace H := H h2 e2
  replace hs : Sg h2.1 y := by rw [e2]; exact hs
  refine Ex.pure 2 (fr2 := (12, [some (.ref 77)], [.long 0, .ref 77])) rfl ?_
  refine Ex.putJ rfl (sg_77 hs) ?_
  obtain ⟨h3, e3⟩ : ∃ z : XH, z = (x_setJ h2 77 25 0) := ⟨_, rfl⟩
  rw [← e3]
  replace H := H h3 e3
  replace hs : Sg h3.1 y := by rw [e3]; exact hs
  refine Ex.pure 2 (fr2 := (17, [some (.ref 77)], [.int 0, .ref 77])) rfl ?_
  refine Ex.putI rfl (sg_77 hs) ?_
  obtain ⟨h4, e4⟩ : ∃ z : XH, z = (x_setI h3 77 26 0) := ⟨_, rfl⟩
  rw [← e4]
  replace H := H h4 e4
  replace hs : Sg h4.1 y := by rw [e4]; exact hs
  exact Ex.vret rfl H
def b_X7_goes_33 (d : Nat) (r_0 : Nat) (l1 : Int32) (u2 : Option Value) (u3 : Option Value) (u4 : Option Value) (h : XH) (K : XK) (E : XE) : Prop := Ex d [] tb_X7_goes (33, [some (.ref r_0), some (.int l1), u2, u3, u4], []) h (Po K E)
def b_X7_goes_48 (d : Nat) (r_0 : Nat) (l1 : Int32) (u2 : Option Value) (u3 : Option Value) (u4 : Option Value) (s0 : Int32) (h : XH) (K : XK) (E : XE) : Prop := Ex d [] tb_X7_goes (48, [some (.ref r_0), some (.int l1), u2, u3, u4], [.int s0]) h (Po K E)
def b_X7_goes_118 (d : Nat) (r_0 : Nat) (u1 : Option Value) (l2 : Int32) (u3 : Option Value) (u4 : Option Value) (s0 : Int64) (h : XH) (K : XK) (E : XE) : Prop := Ex d [] tb_X7_goes (118, [some (.ref r_0), u1, some (.int l2), u3, u4], [.long s0]) h (Po K E)
def b_X7_goes_145 (d : Nat) (r_0 : Nat) (u1 : Option Value) (u2 : Option Value) (l3 : Int64) (h : XH) (K : XK) (E : XE) : Prop := Ex d [] tb_X7_goes (145, [some (.ref r_0), u1, u2, some (.long l3), none], []) h (Po K E)
theorem w_X7_goes {d : Nat} {h : XH} {y : Nat → Nat} {K : XK} {E : XE} {a : Int32} (hd : 20 ≤ d) (hs : Sg h.1 y) (H : (a = 0 → (((1 : Int32) = 0 ∨ (1 : Int32) = 1) ∧ (∀ h1 : XH, h1 = (x_setI h 77 21 1) → (∀ h2 : XH, h2 = (x_setJ h1 77 23 (h1.2.2.1 77 25)) → b_X7_goes_33 d 77 a none none none h2 K E)))) ∧ (¬ (a = 0) → (((1 : Int32) = 0 ∨ (1 : Int32) = 1) ∧ (∀ h3 : XH, h3 = (x_setI h 77 22 1) → (∀ h4 : XH, h4 = (x_setJ h3 77 24 (h3.2.2.1 77 25)) → b_X7_goes_33 d 77 a none none none h4 K E))))) : Ca (d + 1) m_X7_goes [.ref 77, .int a] h K E := by
  refine Ca.of ⟨by show 2 ≤ 5; omega, rfl⟩ ?_
  show Ex d [] tb_X7_goes (0, [some (.ref 77), some (.int a), none, none, none], []) h _
  refine Ex.pure 1 (fr2 := (1, [some (.ref 77), some (.int a), none, none, none], [.int a])) rfl ?_
  refine Ex.br (x := (20, [some (.ref 77), some (.int a), none, none, none], [])) (y := (4, [some (.ref 77), some (.int a), none, none, none], [])) (b := a = 0) rfl (fun hb => ?_) (fun hb => ?_)
  · replace H := H.1 (hb)
    refine Ex.pure 2 (fr2 := (22, [some (.ref 77), some (.int a), none, none, none], [.int 1, .ref 77])) rfl ?_
    refine Ex.putZ rfl (sg_77 hs) H.1 ?_
    replace H := H.2
    obtain ⟨h1, e1⟩ : ∃ z : XH, z = (x_setI h 77 21 1) := ⟨_, rfl⟩
    rw [← e1]
    replace H := H h1 e1
    replace hs : Sg h1.1 y := by rw [e1]; exact hs
    refine Ex.pure 2 (fr2 := (27, [some (.ref 77), some (.int a), none, none, none], [.ref 77, .ref 77])) rfl ?_
    refine Ex.getJ rfl (sg_77 hs) ?_
    refine Ex.putJ rfl (sg_77 hs) ?_
    obtain ⟨h2, e2⟩ : ∃ z : XH, z = (x_setJ h1 77 23 (h1.2.2.1 77 25)) := ⟨_, rfl⟩
    rw [← e2]
    replace H := H h2 e2
    replace hs : Sg h2.1 y := by rw [e2]; exact hs
    exact H
  · replace H := H.2 (hb)
    refine Ex.pure 2 (fr2 := (6, [some (.ref 77), some (.int a), none, none, none], [.int 1, .ref 77])) rfl ?_
    refine Ex.putZ rfl (sg_77 hs) H.1 ?_
    replace H := H.2
    obtain ⟨h3, e3⟩ : ∃ z : XH, z = (x_setI h 77 22 1) := ⟨_, rfl⟩
    rw [← e3]
    replace H := H h3 e3
    replace hs : Sg h3.1 y := by rw [e3]; exact hs
    refine Ex.pure 2 (fr2 := (11, [some (.ref 77), some (.int a), none, none, none], [.ref 77, .ref 77])) rfl ?_
    refine Ex.getJ rfl (sg_77 hs) ?_
    refine Ex.putJ rfl (sg_77 hs) ?_
    obtain ⟨h4, e4⟩ : ∃ z : XH, z = (x_setJ h3 77 24 (h3.2.2.1 77 25)) := ⟨_, rfl⟩
    rw [← e4]
    replace H := H h4 e4
    replace hs : Sg h4.1 y := by rw [e4]; exact hs
    refine Ex.pure 1 (fr2 := (33, [some (.ref 77), some (.int a), none, none, none], [])) rfl ?_
    exact H
theorem w_X7_goes_33 {d : Nat} {h : XH} {y : Nat → Nat} {K : XK} {E : XE} {l1 : Int32} {u2 : Option Value} {u3 : Option Value} {u4 : Option Value} (hd : 20 ≤ d) (hs : Sg h.1 y) (H : (l1 = 0 → b_X7_goes_48 d 77 l1 (u2) (u3) (u4) (h.2.1 77 22) h K E) ∧ (¬ (l1 = 0) → b_X7_goes_48 d 77 l1 (u2) (u3) (u4) (h.2.1 77 21) h K E)) : b_X7_goes_33 d 77 l1 u2 u3 u4 h K E := by
  show Ex d [] tb_X7_goes (33, [some (.ref 77), some (.int l1), u2, u3, u4], []) h _
  refine Ex.pure 1 (fr2 := (34, [some (.ref 77), some (.int l1), u2, u3, u4], [.int l1])) rfl ?_
  refine Ex.br (x := (44, [some (.ref 77), some (.int l1), u2, u3, u4], [])) (y := (37, [some (.ref 77), some (.int l1), u2, u3, u4], [])) (b := l1 = 0) rfl (fun hb => ?_) (fun hb => ?_)
  · replace H := H.1 (hb)
    refine Ex.pure 1 (fr2 := (45, [some (.ref 77), some (.int l1), u2, u3, u4], [.ref 77])) rfl ?_
    refine Ex.getI rfl (Or.inr rfl) (sg_77 hs) ?_
    exact H
  · replace H := H.2 (hb)
    refine Ex.pure 1 (fr2 := (38, [some (.ref 77), some (.int l1), u2, u3, u4], [.ref 77])) rfl ?_
    refine Ex.getI rfl (Or.inr rfl) (sg_77 hs) ?_
    refine Ex.pure 1 (fr2 := (48, [some (.ref 77), some (.int l1), u2, u3, u4], [.int (h.2.1 77 21)])) rfl ?_
    exact H
theorem w_X7_goes_48 {d : Nat} {h : XH} {y : Nat → Nat} {K : XK} {E : XE} {l1 : Int32} {u2 : Option Value} {u3 : Option Value} {u4 : Option Value} {s0 : Int32} (hd : 20 ≤ d) (hs : Sg h.1 y) (H : (l1 = 0 → ((h.2.1 77 22) = 0 → b_X7_goes_118 d 77 (some (.int l1)) s0 (u3) (u4) (2 * ((h.2.2.1 77 25) - 1048576)) h K E) ∧ (¬ ((h.2.1 77 22) = 0) → b_X7_goes_118 d 77 (some (.int l1)) s0 (u3) (u4) ((h.2.2.1 77 25) + (h.2.2.1 77 24)) h K E)) ∧ (¬ (l1 = 0) → ((h.2.1 77 21) = 0 → b_X7_goes_118 d 77 (some (.int l1)) s0 (u3) (u4) (2 * ((h.2.2.1 77 25) + 1048576)) h K E) ∧ (¬ ((h.2.1 77 21) = 0) → b_X7_goes_118 d 77 (some (.int l1)) s0 (u3) (u4) ((h.2.2.1 77 25) + (h.2.2.1 77 23)) h K E))) : b_X7_goes_48 d 77 l1 u2 u3 u4 s0 h K E := by
  show Ex d [] tb_X7_goes (48, [some (.ref 77), some (.int l1), u2, u3, u4], [.int s0]) h _
  refine Ex.pure 2 (fr2 := (50, [some (.ref 77), some (.int l1), some (.int s0), u3, u4], [.int l1])) rfl ?_
  refine Ex.br (x := (87, [some (.ref 77), some (.int l1), some (.int s0), u3, u4], [])) (y := (53, [some (.ref 77), some (.int l1), some (.int s0), u3, u4], [])) (b := l1 = 0) rfl (fun hb => ?_) (fun hb => ?_)
  · replace H := H.1 (hb)
    refine Ex.pure 1 (fr2 := (88, [some (.ref 77), some (.int l1), some (.int s0), u3, u4], [.ref 77])) rfl ?_
    refine Ex.getI rfl (Or.inr rfl) (sg_77 hs) ?_
    refine Ex.br (x := (106, [some (.ref 77), some (.int l1), some (.int s0), u3, u4], [])) (y := (94, [some (.ref 77), some (.int l1), some (.int s0), u3, u4], [])) (b := (h.2.1 77 22) = 0) rfl (fun hb => ?_) (fun hb => ?_)
    · replace H := H.1 (hb)
      refine Ex.pure 2 (fr2 := (110, [some (.ref 77), some (.int l1), some (.int s0), u3, u4], [.ref 77, .long 2])) rfl ?_
      refine Ex.getJ rfl (sg_77 hs) ?_
      refine Ex.pure 3 (fr2 := (118, [some (.ref 77), some (.int l1), some (.int s0), u3, u4], [.long (2 * ((h.2.2.1 77 25) - 1048576))])) rfl ?_
      exact H
    · replace H := H.2 (hb)
      refine Ex.pure 1 (fr2 := (95, [some (.ref 77), some (.int l1), some (.int s0), u3, u4], [.ref 77])) rfl ?_
      refine Ex.getJ rfl (sg_77 hs) ?_
      refine Ex.pure 1 (fr2 := (99, [some (.ref 77), some (.int l1), some (.int s0), u3, u4], [.ref 77, .long (h.2.2.1 77 25)])) rfl ?_
      refine Ex.getJ rfl (sg_77 hs) ?_
      refine Ex.pure 2 (fr2 := (118, [some (.ref 77), some (.int l1), some (.int s0), u3, u4], [.long ((h.2.2.1 77 25) + (h.2.2.1 77 24))])) rfl ?_
      exact H
  · replace H := H.2 (hb)
    refine Ex.pure 1 (fr2 := (54, [some (.ref 77), some (.int l1), some (.int s0), u3, u4], [.ref 77])) rfl ?_
    refine Ex.getI rfl (Or.inr rfl) (sg_77 hs) ?_
    refine Ex.br (x := (72, [some (.ref 77), some (.int l1), some (.int s0), u3, u4], [])) (y := (60, [some (.ref 77), some (.int l1), some (.int s0), u3, u4], [])) (b := (h.2.1 77 21) = 0) rfl (fun hb => ?_) (fun hb => ?_)
    · replace H := H.1 (hb)
      refine Ex.pure 2 (fr2 := (76, [some (.ref 77), some (.int l1), some (.int s0), u3, u4], [.ref 77, .long 2])) rfl ?_
      refine Ex.getJ rfl (sg_77 hs) ?_
      refine Ex.pure 4 (fr2 := (118, [some (.ref 77), some (.int l1), some (.int s0), u3, u4], [.long (2 * ((h.2.2.1 77 25) + 1048576))])) rfl ?_
      exact H
    · replace H := H.2 (hb)
      refine Ex.pure 1 (fr2 := (61, [some (.ref 77), some (.int l1), some (.int s0), u3, u4], [.ref 77])) rfl ?_
      refine Ex.getJ rfl (sg_77 hs) ?_
      refine Ex.pure 1 (fr2 := (65, [some (.ref 77), some (.int l1), some (.int s0), u3, u4], [.ref 77, .long (h.2.2.1 77 25)])) rfl ?_
      refine Ex.getJ rfl (sg_77 hs) ?_
      refine Ex.pure 2 (fr2 := (118, [some (.ref 77), some (.int l1), some (.int s0), u3, u4], [.long ((h.2.2.1 77 25) + (h.2.2.1 77 23))])) rfl ?_
      exact H
theorem w_X7_goes_118 {d : Nat} {h : XH} {y : Nat → Nat} {K : XK} {E : XE} {u1 : Option Value} {l2 : Int32} {u3 : Option Value} {u4 : Option Value} {s0 : Int64} (hd : 20 ≤ d) (hs : Sg h.1 y) (H : (∀ h1 : XH, h1 = (x_setI h 77 26 ((h.2.1 77 26) + 1)) → (l2 = 0 → b_X7_goes_145 d 77 (u1) (some (.int l2)) s0 h1 K E) ∧ (¬ (l2 = 0) → ((s0 - s0 / 2 * 2) = 0 → b_X7_goes_145 d 77 (u1) (some (.int l2)) s0 h1 K E) ∧ (¬ ((s0 - s0 / 2 * 2) = 0) → K (some (.int 0)) h1)))) : b_X7_goes_118 d 77 u1 l2 u3 u4 s0 h K E := by
  show Ex d [] tb_X7_goes (118, [some (.ref 77), u1, some (.int l2), u3, u4], [.long s0]) h _
  refine Ex.pure 3 (fr2 := (121, [some (.ref 77), u1, some (.int l2), some (.long s0), none], [.ref 77, .ref 77])) rfl ?_
  refine Ex.getI rfl (Or.inl rfl) (sg_77 hs) ?_
  refine Ex.pure 2 (fr2 := (126, [some (.ref 77), u1, some (.int l2), some (.long s0), none], [.int ((h.2.1 77 26) + 1), .ref 77])) rfl ?_
  refine Ex.putI rfl (sg_77 hs) ?_
  obtain ⟨h1, e1⟩ : ∃ z : XH, z = (x_setI h 77 26 ((h.2.1 77 26) + 1)) := ⟨_, rfl⟩
  rw [← e1]
  replace H := H h1 e1
  replace hs : Sg h1.1 y := by rw [e1]; exact hs
  refine Ex.pure 1 (fr2 := (130, [some (.ref 77), u1, some (.int l2), some (.long s0), none], [.int l2])) rfl ?_
  refine Ex.br (x := (145, [some (.ref 77), u1, some (.int l2), some (.long s0), none], [])) (y := (133, [some (.ref 77), u1, some (.int l2), some (.long s0), none], [])) (b := l2 = 0) rfl (fun hb => ?_) (fun hb => ?_)
  · replace H := H.1 (hb)
    exact H
  · replace H := H.2 (hb)
    refine Ex.pure 2 (fr2 := (137, [some (.ref 77), u1, some (.int l2), some (.long s0), none], [.long 2, .long s0])) rfl ?_
    refine Ex.lrem rfl (by decide) ?_
    refine Ex.pure 2 (fr2 := (140, [some (.ref 77), u1, some (.int l2), some (.long s0), none], [.int (lg_cmp (s0 - s0 / 2 * 2) 0)])) rfl ?_
    refine Ex.br (x := (145, [some (.ref 77), u1, some (.int l2), some (.long s0), none], [])) (y := (143, [some (.ref 77), u1, some (.int l2), some (.long s0), none], [])) (b := (lg_cmp (s0 - s0 / 2 * 2) 0) = 0) rfl (fun hb => ?_) (fun hb => ?_)
    · replace H := H.1 ((lg_cmp_eq _ _).mp hb)
      exact H
    · replace H := H.2 (fun z => hb ((lg_cmp_eq _ _).mpr z))
      refine Ex.pure 1 (fr2 := (144, [some (.ref 77), u1, some (.int l2), some (.long s0), none], [.int 0])) rfl ?_
      exact Ex.iret rfl (Or.inr ⟨rfl, by decide⟩) H
theorem w_X7_goes_145 {d : Nat} {h : XH} {y : Nat → Nat} {K : XK} {E : XE} {u1 : Option Value} {u2 : Option Value} {l3 : Int64} (hd : 20 ≤ d) (hs : Sg h.1 y) (H : (∀ h1 : XH, h1 = (x_setJ h 77 25 (l3 / 2)) → K (some (.int 1)) h1)) : b_X7_goes_145 d 77 u1 u2 l3 h K E := by
  show Ex d [] tb_X7_goes (145, [some (.ref 77), u1, u2, some (.long l3), none], []) h _
  refine Ex.pure 3 (fr2 := (150, [some (.ref 77), u1, u2, some (.long l3), none], [.long 2, .long l3, .ref 77])) rfl ?_
  refine Ex.ldiv rfl (by decide) ?_
  refine Ex.putJ rfl (sg_77 hs) ?_
  obtain ⟨h1, e1⟩ : ∃ z : XH, z = (x_setJ h 77 25 (l3 / 2)) := ⟨_, rfl⟩
  rw [← e1]
  replace H := H h1 e1
  replace hs : Sg h1.1 y := by rw [e1]; exact hs
  refine Ex.pure 1 (fr2 := (155, [some (.ref 77), u1, u2, some (.long l3), none], [.int 1])) rfl ?_
  exact Ex.iret rfl (Or.inr ⟨rfl, by decide⟩) H
def b_X7_goesTo_7 (d : Nat) (r_0 : Nat) (l1 : Int64) (l3 : Int32) (l4 : Int32) (u5 : Option Value) (h : XH) (K : XK) (E : XE) : Prop := Ex d [] tb_X7_goesTo (7, [some (.ref r_0), some (.long l1), none, some (.int l3), some (.int l4), u5], []) h (Po K E)
def b_X7_goesTo_38 (d : Nat) (r_0 : Nat) (l1 : Int64) (l3 : Int32) (u4 : Option Value) (u5 : Option Value) (s0 : Int32) (h : XH) (K : XK) (E : XE) : Prop := Ex d [] tb_X7_goesTo (38, [some (.ref r_0), some (.long l1), none, some (.int l3), u4, u5], [.int s0]) h (Po K E)
def b_X7_goesTo_55 (d : Nat) (r_0 : Nat) (l1 : Int64) (l3 : Int32) (l4 : Int32) (u5 : Option Value) (s0 : Int32) (r_6 : Nat) (h : XH) (K : XK) (E : XE) : Prop := Ex d [] tb_X7_goesTo (55, [some (.ref r_0), some (.long l1), none, some (.int l3), some (.int l4), u5], [.int s0, .ref r_6]) h (Po K E)
theorem w_X7_goesTo {d : Nat} {h : XH} {y : Nat → Nat} {K : XK} {E : XE} {a : Int64} {b : Int32} (hd : 20 ≤ d) (hs : Sg h.1 y) (H : (Ca d m_X7_begins [.ref 77] h (fun rv h1 => rv = none ∧ Sg h1.1 y ∧ b_X7_goesTo_7 d 77 a b 0 none h1 K E) E)) : Ca (d + 1) m_X7_goesTo [.ref 77, .long a, .int b] h K E := by
  refine Ca.of ⟨by show 4 ≤ 6; omega, rfl⟩ ?_
  show Ex d [] tb_X7_goesTo (0, [some (.ref 77), some (.long a), none, some (.int b), none, none], []) h _
  refine Ex.pure 1 (fr2 := (1, [some (.ref 77), some (.long a), none, some (.int b), none, none], [.ref 77])) rfl ?_
  refine Ex.cal (rest := []) (j := m_X7_begins) (as := [.ref 77]) (vst (a := 143) (b := 1) (c := 6) (rest := []) (vs := []) rfl ⟨Nat.le_of_ble_eq_true rfl, Nat.le_of_ble_eq_true rfl⟩ rfl rfl (sg_77 hs)) (H.imp ?_)
  intro rv h1 H
  obtain ⟨rfl, H⟩ := H
  obtain ⟨hs, H⟩ := H
  show Ex d [] tb_X7_goesTo (4, [some (.ref 77), some (.long a), none, some (.int b), none, none], []) h1 _
  refine Ex.pure 2 (fr2 := (7, [some (.ref 77), some (.long a), none, some (.int b), some (.int 0), none], [])) rfl ?_
  exact H
theorem w_X7_goesTo_7 {d : Nat} {h : XH} {y : Nat → Nat} {K : XK} {E : XE} {l1 : Int64} {l3 : Int32} {l4 : Int32} {u5 : Option Value} (hd : 20 ≤ d) (hs : Sg h.1 y) (H : ((h.2.2.1 77 25) = l1 → K (some (.int l4)) h) ∧ (¬ ((h.2.2.1 77 25) = l1) → (l3 ≤ (h.2.1 77 26) → K (some (.int l4)) h) ∧ (¬ (l3 ≤ (h.2.1 77 26)) → (l1 ≤ (h.2.2.1 77 25) → b_X7_goesTo_38 d 77 l1 l3 (some (.int l4)) (u5) (-1) h K E) ∧ (¬ (l1 ≤ (h.2.2.1 77 25)) → b_X7_goesTo_38 d 77 l1 l3 (some (.int l4)) (u5) 1 h K E)))) : b_X7_goesTo_7 d 77 l1 l3 l4 u5 h K E := by
  show Ex d [] tb_X7_goesTo (7, [some (.ref 77), some (.long l1), none, some (.int l3), some (.int l4), u5], []) h _
  refine Ex.pure 1 (fr2 := (8, [some (.ref 77), some (.long l1), none, some (.int l3), some (.int l4), u5], [.ref 77])) rfl ?_
  refine Ex.getJ rfl (sg_77 hs) ?_
  refine Ex.pure 2 (fr2 := (13, [some (.ref 77), some (.long l1), none, some (.int l3), some (.int l4), u5], [.int (lg_cmp (h.2.2.1 77 25) l1)])) rfl ?_
  refine Ex.br (x := (63, [some (.ref 77), some (.long l1), none, some (.int l3), some (.int l4), u5], [])) (y := (16, [some (.ref 77), some (.long l1), none, some (.int l3), some (.int l4), u5], [])) (b := (lg_cmp (h.2.2.1 77 25) l1) = 0) rfl (fun hb => ?_) (fun hb => ?_)
  · replace H := H.1 ((lg_cmp_eq _ _).mp hb)
    refine Ex.pure 1 (fr2 := (65, [some (.ref 77), some (.long l1), none, some (.int l3), some (.int l4), u5], [.int l4])) rfl ?_
    exact Ex.iret rfl (Or.inl rfl) H
  · replace H := H.2 (fun z => hb ((lg_cmp_eq _ _).mpr z))
    refine Ex.pure 1 (fr2 := (17, [some (.ref 77), some (.long l1), none, some (.int l3), some (.int l4), u5], [.ref 77])) rfl ?_
    refine Ex.getI rfl (Or.inl rfl) (sg_77 hs) ?_
    refine Ex.pure 1 (fr2 := (21, [some (.ref 77), some (.long l1), none, some (.int l3), some (.int l4), u5], [.int l3, .int (h.2.1 77 26)])) rfl ?_
    refine Ex.br (x := (63, [some (.ref 77), some (.long l1), none, some (.int l3), some (.int l4), u5], [])) (y := (24, [some (.ref 77), some (.long l1), none, some (.int l3), some (.int l4), u5], [])) (b := l3 ≤ (h.2.1 77 26)) rfl (fun hb => ?_) (fun hb => ?_)
    · replace H := H.1 (hb)
      refine Ex.pure 1 (fr2 := (65, [some (.ref 77), some (.long l1), none, some (.int l3), some (.int l4), u5], [.int l4])) rfl ?_
      exact Ex.iret rfl (Or.inl rfl) H
    · replace H := H.2 (hb)
      refine Ex.pure 2 (fr2 := (26, [some (.ref 77), some (.long l1), none, some (.int l3), some (.int l4), u5], [.ref 77, .long l1])) rfl ?_
      refine Ex.getJ rfl (sg_77 hs) ?_
      refine Ex.pure 1 (fr2 := (30, [some (.ref 77), some (.long l1), none, some (.int l3), some (.int l4), u5], [.int (lg_cmp l1 (h.2.2.1 77 25))])) rfl ?_
      refine Ex.br (x := (37, [some (.ref 77), some (.long l1), none, some (.int l3), some (.int l4), u5], [])) (y := (33, [some (.ref 77), some (.long l1), none, some (.int l3), some (.int l4), u5], [])) (b := (lg_cmp l1 (h.2.2.1 77 25)) ≤ 0) rfl (fun hb => ?_) (fun hb => ?_)
      · replace H := H.1 ((lg_cmp_le _ _).mp hb)
        refine Ex.pure 1 (fr2 := (38, [some (.ref 77), some (.long l1), none, some (.int l3), some (.int l4), u5], [.int (-1)])) rfl ?_
        exact H
      · replace H := H.2 (fun z => hb ((lg_cmp_le _ _).mpr z))
        refine Ex.pure 2 (fr2 := (38, [some (.ref 77), some (.long l1), none, some (.int l3), some (.int l4), u5], [.int 1])) rfl ?_
        exact H
theorem w_X7_goesTo_38 {d : Nat} {h : XH} {y : Nat → Nat} {K : XK} {E : XE} {l1 : Int64} {l3 : Int32} {u4 : Option Value} {u5 : Option Value} {s0 : Int32} (hd : 20 ≤ d) (hs : Sg h.1 y) (H : (l1 ≤ (h.2.2.1 77 25) → b_X7_goesTo_55 d 77 l1 l3 s0 (u5) 0 77 h K E) ∧ (¬ (l1 ≤ (h.2.2.1 77 25)) → b_X7_goesTo_55 d 77 l1 l3 s0 (u5) 1 77 h K E)) : b_X7_goesTo_38 d 77 l1 l3 u4 u5 s0 h K E := by
  show Ex d [] tb_X7_goesTo (38, [some (.ref 77), some (.long l1), none, some (.int l3), u4, u5], [.int s0]) h _
  refine Ex.pure 4 (fr2 := (43, [some (.ref 77), some (.long l1), none, some (.int l3), some (.int s0), u5], [.ref 77, .long l1, .ref 77])) rfl ?_
  refine Ex.getJ rfl (sg_77 hs) ?_
  refine Ex.pure 1 (fr2 := (47, [some (.ref 77), some (.long l1), none, some (.int l3), some (.int s0), u5], [.int (lg_cmp l1 (h.2.2.1 77 25)), .ref 77])) rfl ?_
  refine Ex.br (x := (54, [some (.ref 77), some (.long l1), none, some (.int l3), some (.int s0), u5], [.ref 77])) (y := (50, [some (.ref 77), some (.long l1), none, some (.int l3), some (.int s0), u5], [.ref 77])) (b := (lg_cmp l1 (h.2.2.1 77 25)) ≤ 0) rfl (fun hb => ?_) (fun hb => ?_)
  · replace H := H.1 ((lg_cmp_le _ _).mp hb)
    refine Ex.pure 1 (fr2 := (55, [some (.ref 77), some (.long l1), none, some (.int l3), some (.int s0), u5], [.int 0, .ref 77])) rfl ?_
    exact H
  · replace H := H.2 (fun z => hb ((lg_cmp_le _ _).mpr z))
    refine Ex.pure 2 (fr2 := (55, [some (.ref 77), some (.long l1), none, some (.int l3), some (.int s0), u5], [.int 1, .ref 77])) rfl ?_
    exact H
theorem w_X7_goesTo_55 {d : Nat} {h : XH} {y : Nat → Nat} {K : XK} {E : XE} {l1 : Int64} {l3 : Int32} {l4 : Int32} {u5 : Option Value} {s0 : Int32} (hd : 20 ≤ d) (hs : Sg h.1 y) (H : (Ca d m_X7_goes [.ref 77, .int s0] h (fun rv h1 => ∃ x2, rv = some (.int x2) ∧ Sg h1.1 y ∧ b_X7_goesTo_7 d 77 l1 l3 l4 (some (.int x2)) h1 K E) E)) : b_X7_goesTo_55 d 77 l1 l3 l4 u5 s0 77 h K E := by
  show Ex d [] tb_X7_goesTo (55, [some (.ref 77), some (.long l1), none, some (.int l3), some (.int l4), u5], [.int s0, .ref 77]) h _
  refine Ex.cal (rest := []) (j := m_X7_goes) (as := [.ref 77, .int s0]) (vst (a := 144) (b := 2) (c := 6) (rest := []) (vs := [.int s0]) rfl ⟨Nat.le_of_ble_eq_true rfl, Nat.le_of_ble_eq_true rfl⟩ rfl rfl (sg_77 hs)) (H.imp ?_)
  intro rv h1 H
  obtain ⟨x2, rfl, H⟩ := H
  obtain ⟨hs, H⟩ := H
  show Ex d [] tb_X7_goesTo (58, [some (.ref 77), some (.long l1), none, some (.int l3), some (.int l4), u5], [.int x2]) h1 _
  refine Ex.pure 2 (fr2 := (7, [some (.ref 77), some (.long l1), none, some (.int l3), some (.int l4), some (.int x2)], [])) rfl ?_
  exact H
def b_X7_finds_7 (d : Nat) (r_0 : Nat) (l1 : Int32) (l2 : Int64) (l4 : Int32) (l5 : Int64) (l7 : Int32) (h : XH) (K : XK) (E : XE) : Prop := Ex d [] tb_X7_finds (7, [some (.ref r_0), some (.int l1), some (.long l2), none, some (.int l4), some (.long l5), none, some (.int l7)], []) h (Po K E)
def b_X7_finds_25 (d : Nat) (r_0 : Nat) (l1 : Int32) (l2 : Int64) (l4 : Int32) (l5 : Int64) (l7 : Int32) (h : XH) (K : XK) (E : XE) : Prop := Ex d [] tb_X7_finds (25, [some (.ref r_0), some (.int l1), some (.long l2), none, some (.int l4), some (.long l5), none, some (.int l7)], []) h (Po K E)
def b_X7_finds_40 (d : Nat) (r_0 : Nat) (l1 : Int32) (l2 : Int64) (l4 : Int32) (l5 : Int64) (u7 : Option Value) (h : XH) (K : XK) (E : XE) : Prop := Ex d [] tb_X7_finds (40, [some (.ref r_0), some (.int l1), some (.long l2), none, some (.int l4), some (.long l5), none, u7], []) h (Po K E)
def b_X7_finds_58 (d : Nat) (r_0 : Nat) (l1 : Int32) (l2 : Int64) (l4 : Int32) (l5 : Int64) (u7 : Option Value) (r_6 : Nat) (h : XH) (K : XK) (E : XE) : Prop := Ex d [] tb_X7_finds (58, [some (.ref r_0), some (.int l1), some (.long l2), none, some (.int l4), some (.long l5), none, u7], [.ref r_6]) h (Po K E)
def b_X7_finds_59 (d : Nat) (r_0 : Nat) (l1 : Int32) (l2 : Int64) (l4 : Int32) (l5 : Int64) (u7 : Option Value) (s0 : Int32) (r_7 : Nat) (h : XH) (K : XK) (E : XE) : Prop := Ex d [] tb_X7_finds (59, [some (.ref r_0), some (.int l1), some (.long l2), none, some (.int l4), some (.long l5), none, u7], [.int s0, .ref r_7]) h (Po K E)
def b_X7_finds_79 (d : Nat) (r_0 : Nat) (l1 : Int32) (l2 : Int64) (l4 : Int32) (l5 : Int64) (u7 : Option Value) (h : XH) (K : XK) (E : XE) : Prop := Ex d [] tb_X7_finds (79, [some (.ref r_0), some (.int l1), some (.long l2), none, some (.int l4), some (.long l5), none, u7], []) h (Po K E)
def b_X7_finds_80 (d : Nat) (r_0 : Nat) (l1 : Int32) (l2 : Int64) (l4 : Int32) (l5 : Int64) (u7 : Option Value) (s0 : Int32) (h : XH) (K : XK) (E : XE) : Prop := Ex d [] tb_X7_finds (80, [some (.ref r_0), some (.int l1), some (.long l2), none, some (.int l4), some (.long l5), none, u7], [.int s0]) h (Po K E)
theorem w_X7_finds {d : Nat} {h : XH} {y : Nat → Nat} {K : XK} {E : XE} {a : Int32} {b : Int64} {c : Int32} {e : Int64} (hd : 20 ≤ d) (hs : Sg h.1 y) (H : (Ca d m_X7_begins [.ref 77] h (fun rv h1 => rv = none ∧ Sg h1.1 y ∧ b_X7_finds_7 d 77 a b c e 1 h1 K E) E)) : Ca (d + 1) m_X7_finds [.ref 77, .int a, .long b, .int c, .long e] h K E := by
  refine Ca.of ⟨by show 7 ≤ 8; omega, rfl⟩ ?_
  show Ex d [] tb_X7_finds (0, [some (.ref 77), some (.int a), some (.long b), none, some (.int c), some (.long e), none, none], []) h _
  refine Ex.pure 1 (fr2 := (1, [some (.ref 77), some (.int a), some (.long b), none, some (.int c), some (.long e), none, none], [.ref 77])) rfl ?_
  refine Ex.cal (rest := []) (j := m_X7_begins) (as := [.ref 77]) (vst (a := 143) (b := 1) (c := 6) (rest := []) (vs := []) rfl ⟨Nat.le_of_ble_eq_true rfl, Nat.le_of_ble_eq_true rfl⟩ rfl rfl (sg_77 hs)) (H.imp ?_)
  intro rv h1 H
  obtain ⟨rfl, H⟩ := H
  obtain ⟨hs, H⟩ := H
  show Ex d [] tb_X7_finds (4, [some (.ref 77), some (.int a), some (.long b), none, some (.int c), some (.long e), none, none], []) h1 _
  refine Ex.pure 2 (fr2 := (7, [some (.ref 77), some (.int a), some (.long b), none, some (.int c), some (.long e), none, some (.int 1)], [])) rfl ?_
  exact H
theorem w_X7_finds_7 {d : Nat} {h : XH} {y : Nat → Nat} {K : XK} {E : XE} {l1 : Int32} {l2 : Int64} {l4 : Int32} {l5 : Int64} {l7 : Int32} (hd : 20 ≤ d) (hs : Sg h.1 y) (H : (l7 = 0 → (l7 = 0 ∨ l7 = 1) ∧ K (some (.int l7)) h) ∧ (¬ (l7 = 0) → (l1 = 0 → b_X7_finds_25 d 77 l1 l2 l4 l5 l7 h K E) ∧ (¬ (l1 = 0) → ((h.2.2.1 77 25) ≤ l2 → b_X7_finds_40 d 77 l1 l2 l4 l5 (some (.int l7)) h K E) ∧ (¬ ((h.2.2.1 77 25) ≤ l2) → b_X7_finds_25 d 77 l1 l2 l4 l5 l7 h K E)))) : b_X7_finds_7 d 77 l1 l2 l4 l5 l7 h K E := by
  show Ex d [] tb_X7_finds (7, [some (.ref 77), some (.int l1), some (.long l2), none, some (.int l4), some (.long l5), none, some (.int l7)], []) h _
  refine Ex.pure 1 (fr2 := (9, [some (.ref 77), some (.int l1), some (.long l2), none, some (.int l4), some (.long l5), none, some (.int l7)], [.int l7])) rfl ?_
  refine Ex.br (x := (85, [some (.ref 77), some (.int l1), some (.long l2), none, some (.int l4), some (.long l5), none, some (.int l7)], [])) (y := (12, [some (.ref 77), some (.int l1), some (.long l2), none, some (.int l4), some (.long l5), none, some (.int l7)], [])) (b := l7 = 0) rfl (fun hb => ?_) (fun hb => ?_)
  · replace H := H.1 (hb)
    refine Ex.pure 1 (fr2 := (87, [some (.ref 77), some (.int l1), some (.long l2), none, some (.int l4), some (.long l5), none, some (.int l7)], [.int l7])) rfl ?_
    exact Ex.iret rfl (Or.inr ⟨rfl, H.1⟩) H.2
  · replace H := H.2 (hb)
    refine Ex.pure 1 (fr2 := (13, [some (.ref 77), some (.int l1), some (.long l2), none, some (.int l4), some (.long l5), none, some (.int l7)], [.int l1])) rfl ?_
    refine Ex.br (x := (25, [some (.ref 77), some (.int l1), some (.long l2), none, some (.int l4), some (.long l5), none, some (.int l7)], [])) (y := (16, [some (.ref 77), some (.int l1), some (.long l2), none, some (.int l4), some (.long l5), none, some (.int l7)], [])) (b := l1 = 0) rfl (fun hb => ?_) (fun hb => ?_)
    · replace H := H.1 (hb)
      exact H
    · replace H := H.2 (hb)
      refine Ex.pure 1 (fr2 := (17, [some (.ref 77), some (.int l1), some (.long l2), none, some (.int l4), some (.long l5), none, some (.int l7)], [.ref 77])) rfl ?_
      refine Ex.getJ rfl (sg_77 hs) ?_
      refine Ex.pure 2 (fr2 := (22, [some (.ref 77), some (.int l1), some (.long l2), none, some (.int l4), some (.long l5), none, some (.int l7)], [.int (lg_cmp (h.2.2.1 77 25) l2)])) rfl ?_
      refine Ex.br (x := (40, [some (.ref 77), some (.int l1), some (.long l2), none, some (.int l4), some (.long l5), none, some (.int l7)], [])) (y := (25, [some (.ref 77), some (.int l1), some (.long l2), none, some (.int l4), some (.long l5), none, some (.int l7)], [])) (b := (lg_cmp (h.2.2.1 77 25) l2) ≤ 0) rfl (fun hb => ?_) (fun hb => ?_)
      · replace H := H.1 ((lg_cmp_le _ _).mp hb)
        exact H
      · replace H := H.2 (fun z => hb ((lg_cmp_le _ _).mpr z))
        exact H
theorem w_X7_finds_25 {d : Nat} {h : XH} {y : Nat → Nat} {K : XK} {E : XE} {l1 : Int32} {l2 : Int64} {l4 : Int32} {l5 : Int64} {l7 : Int32} (hd : 20 ≤ d) (hs : Sg h.1 y) (H : (l4 = 0 → (l7 = 0 ∨ l7 = 1) ∧ K (some (.int l7)) h) ∧ (¬ (l4 = 0) → ((h.2.2.1 77 25) < l5 → (l7 = 0 ∨ l7 = 1) ∧ K (some (.int l7)) h) ∧ (¬ ((h.2.2.1 77 25) < l5) → b_X7_finds_40 d 77 l1 l2 l4 l5 (some (.int l7)) h K E))) : b_X7_finds_25 d 77 l1 l2 l4 l5 l7 h K E := by
  show Ex d [] tb_X7_finds (25, [some (.ref 77), some (.int l1), some (.long l2), none, some (.int l4), some (.long l5), none, some (.int l7)], []) h _
  refine Ex.pure 1 (fr2 := (27, [some (.ref 77), some (.int l1), some (.long l2), none, some (.int l4), some (.long l5), none, some (.int l7)], [.int l4])) rfl ?_
  refine Ex.br (x := (85, [some (.ref 77), some (.int l1), some (.long l2), none, some (.int l4), some (.long l5), none, some (.int l7)], [])) (y := (30, [some (.ref 77), some (.int l1), some (.long l2), none, some (.int l4), some (.long l5), none, some (.int l7)], [])) (b := l4 = 0) rfl (fun hb => ?_) (fun hb => ?_)
  · replace H := H.1 (hb)
    refine Ex.pure 1 (fr2 := (87, [some (.ref 77), some (.int l1), some (.long l2), none, some (.int l4), some (.long l5), none, some (.int l7)], [.int l7])) rfl ?_
    exact Ex.iret rfl (Or.inr ⟨rfl, H.1⟩) H.2
  · replace H := H.2 (hb)
    refine Ex.pure 1 (fr2 := (31, [some (.ref 77), some (.int l1), some (.long l2), none, some (.int l4), some (.long l5), none, some (.int l7)], [.ref 77])) rfl ?_
    refine Ex.getJ rfl (sg_77 hs) ?_
    refine Ex.pure 2 (fr2 := (37, [some (.ref 77), some (.int l1), some (.long l2), none, some (.int l4), some (.long l5), none, some (.int l7)], [.int (lg_cmp (h.2.2.1 77 25) l5)])) rfl ?_
    refine Ex.br (x := (85, [some (.ref 77), some (.int l1), some (.long l2), none, some (.int l4), some (.long l5), none, some (.int l7)], [])) (y := (40, [some (.ref 77), some (.int l1), some (.long l2), none, some (.int l4), some (.long l5), none, some (.int l7)], [])) (b := (lg_cmp (h.2.2.1 77 25) l5) < 0) rfl (fun hb => ?_) (fun hb => ?_)
    · replace H := H.1 ((lg_cmp_lt _ _).mp hb)
      refine Ex.pure 1 (fr2 := (87, [some (.ref 77), some (.int l1), some (.long l2), none, some (.int l4), some (.long l5), none, some (.int l7)], [.int l7])) rfl ?_
      exact Ex.iret rfl (Or.inr ⟨rfl, H.1⟩) H.2
    · replace H := H.2 (fun z => hb ((lg_cmp_lt _ _).mpr z))
      exact H
theorem w_X7_finds_40 {d : Nat} {h : XH} {y : Nat → Nat} {K : XK} {E : XE} {l1 : Int32} {l2 : Int64} {l4 : Int32} {l5 : Int64} {u7 : Option Value} (hd : 20 ≤ d) (hs : Sg h.1 y) (H : (l1 = 0 → b_X7_finds_58 d 77 l1 l2 l4 l5 (u7) 77 h K E) ∧ (¬ (l1 = 0) → (l2 < (h.2.2.1 77 25) → b_X7_finds_58 d 77 l1 l2 l4 l5 (u7) 77 h K E) ∧ (¬ (l2 < (h.2.2.1 77 25)) → b_X7_finds_59 d 77 l1 l2 l4 l5 (u7) 1 77 h K E))) : b_X7_finds_40 d 77 l1 l2 l4 l5 u7 h K E := by
  show Ex d [] tb_X7_finds (40, [some (.ref 77), some (.int l1), some (.long l2), none, some (.int l4), some (.long l5), none, u7], []) h _
  refine Ex.pure 2 (fr2 := (42, [some (.ref 77), some (.int l1), some (.long l2), none, some (.int l4), some (.long l5), none, u7], [.int l1, .ref 77])) rfl ?_
  refine Ex.br (x := (58, [some (.ref 77), some (.int l1), some (.long l2), none, some (.int l4), some (.long l5), none, u7], [.ref 77])) (y := (45, [some (.ref 77), some (.int l1), some (.long l2), none, some (.int l4), some (.long l5), none, u7], [.ref 77])) (b := l1 = 0) rfl (fun hb => ?_) (fun hb => ?_)
  · replace H := H.1 (hb)
    exact H
  · replace H := H.2 (hb)
    refine Ex.pure 1 (fr2 := (46, [some (.ref 77), some (.int l1), some (.long l2), none, some (.int l4), some (.long l5), none, u7], [.ref 77, .ref 77])) rfl ?_
    refine Ex.getJ rfl (sg_77 hs) ?_
    refine Ex.pure 2 (fr2 := (51, [some (.ref 77), some (.int l1), some (.long l2), none, some (.int l4), some (.long l5), none, u7], [.int (lg_cmp (h.2.2.1 77 25) l2), .ref 77])) rfl ?_
    refine Ex.br (x := (58, [some (.ref 77), some (.int l1), some (.long l2), none, some (.int l4), some (.long l5), none, u7], [.ref 77])) (y := (54, [some (.ref 77), some (.int l1), some (.long l2), none, some (.int l4), some (.long l5), none, u7], [.ref 77])) (b := 0 < (lg_cmp (h.2.2.1 77 25) l2)) rfl (fun hb => ?_) (fun hb => ?_)
    · replace H := H.1 ((lg_cmp_gt _ _).mp hb)
      exact H
    · replace H := H.2 (fun z => hb ((lg_cmp_gt _ _).mpr z))
      refine Ex.pure 2 (fr2 := (59, [some (.ref 77), some (.int l1), some (.long l2), none, some (.int l4), some (.long l5), none, u7], [.int 1, .ref 77])) rfl ?_
      exact H
theorem w_X7_finds_58 {d : Nat} {h : XH} {y : Nat → Nat} {K : XK} {E : XE} {l1 : Int32} {l2 : Int64} {l4 : Int32} {l5 : Int64} {u7 : Option Value} (hd : 20 ≤ d) (hs : Sg h.1 y) (H : b_X7_finds_59 d 77 l1 l2 l4 l5 (u7) 0 77 h K E) : b_X7_finds_58 d 77 l1 l2 l4 l5 u7 77 h K E := by
  show Ex d [] tb_X7_finds (58, [some (.ref 77), some (.int l1), some (.long l2), none, some (.int l4), some (.long l5), none, u7], [.ref 77]) h _
  refine Ex.pure 1 (fr2 := (59, [some (.ref 77), some (.int l1), some (.long l2), none, some (.int l4), some (.long l5), none, u7], [.int 0, .ref 77])) rfl ?_
  exact H
theorem w_X7_finds_59 {d : Nat} {h : XH} {y : Nat → Nat} {K : XK} {E : XE} {l1 : Int32} {l2 : Int64} {l4 : Int32} {l5 : Int64} {u7 : Option Value} {s0 : Int32} (hd : 20 ≤ d) (hs : Sg h.1 y) (H : (Ca d m_X7_goes [.ref 77, .int s0] h (fun rv h1 => ∃ x2, rv = some (.int x2) ∧ Sg h1.1 y ∧ (x2 = 0 → b_X7_finds_79 d 77 l1 l2 l4 l5 (u7) h1 K E) ∧ (¬ (x2 = 0) → ((-268435456 ≤ (h1.2.2.1 77 25) ∧ (h1.2.2.1 77 25) ≤ 268435456) → b_X7_finds_80 d 77 l1 l2 l4 l5 (u7) 1 h1 K E) ∧ (¬ (-268435456 ≤ (h1.2.2.1 77 25) ∧ (h1.2.2.1 77 25) ≤ 268435456) → b_X7_finds_79 d 77 l1 l2 l4 l5 (u7) h1 K E))) E)) : b_X7_finds_59 d 77 l1 l2 l4 l5 u7 s0 77 h K E := by
  show Ex d [] tb_X7_finds (59, [some (.ref 77), some (.int l1), some (.long l2), none, some (.int l4), some (.long l5), none, u7], [.int s0, .ref 77]) h _
  refine Ex.cal (rest := []) (j := m_X7_goes) (as := [.ref 77, .int s0]) (vst (a := 144) (b := 2) (c := 6) (rest := []) (vs := [.int s0]) rfl ⟨Nat.le_of_ble_eq_true rfl, Nat.le_of_ble_eq_true rfl⟩ rfl rfl (sg_77 hs)) (H.imp ?_)
  intro rv h1 H
  obtain ⟨x2, rfl, H⟩ := H
  obtain ⟨hs, H⟩ := H
  show Ex d [] tb_X7_finds (62, [some (.ref 77), some (.int l1), some (.long l2), none, some (.int l4), some (.long l5), none, u7], [.int x2]) h1 _
  refine Ex.br (x := (79, [some (.ref 77), some (.int l1), some (.long l2), none, some (.int l4), some (.long l5), none, u7], [])) (y := (65, [some (.ref 77), some (.int l1), some (.long l2), none, some (.int l4), some (.long l5), none, u7], [])) (b := x2 = 0) rfl (fun hb => ?_) (fun hb => ?_)
  · replace H := H.1 (hb)
    exact H
  · replace H := H.2 (hb)
    refine Ex.pure 1 (fr2 := (66, [some (.ref 77), some (.int l1), some (.long l2), none, some (.int l4), some (.long l5), none, u7], [.ref 77])) rfl ?_
    refine Ex.getJ rfl (sg_77 hs) ?_
    refine Ex.ask (rest := []) (j := m_X7_isNumber) (as := [.long (h1.2.2.1 77 25)]) (fun c => rfl) ((t_X7_isNumber hs).mono (by omega) (fun _ _ z => z)) ?_
    rintro _ h0 ⟨rfl, e0⟩
    rw [e0]
    show Ex d [] tb_X7_finds (72, [some (.ref 77), some (.int l1), some (.long l2), none, some (.int l4), some (.long l5), none, u7], [.int (bi (-268435456 ≤ (h1.2.2.1 77 25) ∧ (h1.2.2.1 77 25) ≤ 268435456))]) h1 _
    refine Ex.br (x := (79, [some (.ref 77), some (.int l1), some (.long l2), none, some (.int l4), some (.long l5), none, u7], [])) (y := (75, [some (.ref 77), some (.int l1), some (.long l2), none, some (.int l4), some (.long l5), none, u7], [])) (b := (bi (-268435456 ≤ (h1.2.2.1 77 25) ∧ (h1.2.2.1 77 25) ≤ 268435456)) = 0) rfl (fun hb => ?_) (fun hb => ?_)
    · replace H := H.2 (bi_eq.mp hb)
      exact H
    · replace H := H.1 (bi_neq.mp hb)
      refine Ex.pure 2 (fr2 := (80, [some (.ref 77), some (.int l1), some (.long l2), none, some (.int l4), some (.long l5), none, u7], [.int 1])) rfl ?_
      exact H
theorem w_X7_finds_79 {d : Nat} {h : XH} {y : Nat → Nat} {K : XK} {E : XE} {l1 : Int32} {l2 : Int64} {l4 : Int32} {l5 : Int64} {u7 : Option Value} (hd : 20 ≤ d) (hs : Sg h.1 y) (H : b_X7_finds_80 d 77 l1 l2 l4 l5 (u7) 0 h K E) : b_X7_finds_79 d 77 l1 l2 l4 l5 u7 h K E := by
  show Ex d [] tb_X7_finds (79, [some (.ref 77), some (.int l1), some (.long l2), none, some (.int l4), some (.long l5), none, u7], []) h _
  refine Ex.pure 1 (fr2 := (80, [some (.ref 77), some (.int l1), some (.long l2), none, some (.int l4), some (.long l5), none, u7], [.int 0])) rfl ?_
  exact H
theorem w_X7_finds_80 {d : Nat} {h : XH} {y : Nat → Nat} {K : XK} {E : XE} {l1 : Int32} {l2 : Int64} {l4 : Int32} {l5 : Int64} {u7 : Option Value} {s0 : Int32} (hd : 20 ≤ d) (hs : Sg h.1 y) (H : b_X7_finds_7 d 77 l1 l2 l4 l5 s0 h K E) : b_X7_finds_80 d 77 l1 l2 l4 l5 u7 s0 h K E := by
  show Ex d [] tb_X7_finds (80, [some (.ref 77), some (.int l1), some (.long l2), none, some (.int l4), some (.long l5), none, u7], [.int s0]) h _
  refine Ex.pure 2 (fr2 := (7, [some (.ref 77), some (.int l1), some (.long l2), none, some (.int l4), some (.long l5), none, some (.int s0)], [])) rfl ?_
  exact H
def b_X7_kind_13 (d : Nat) (r_0 : Nat) (l1 : Int32) (s0 : Int32) (r_3 : Nat) (h : XH) (K : XK) (E : XE) : Prop := Ex d [] tb_X7_kind (13, [some (.ref r_0), some (.int l1)], [.int s0, .ref r_3]) h (Po K E)
theorem w_X7_kind {d : Nat} {h : XH} {y : Nat → Nat} {K : XK} {E : XE} {a : Int32} (hd : 20 ≤ d) (hs : Sg h.1 y) (H : ((isp a) → b_X7_kind_13 d 77 a 0 77 h K E) ∧ (¬ (isp a) → b_X7_kind_13 d 77 a 1 77 h K E)) : Ca (d + 1) m_X7_kind [.ref 77, .int a] h K E := by
  refine Ca.of ⟨by show 2 ≤ 2; omega, rfl⟩ ?_
  show Ex d [] tb_X7_kind (0, [some (.ref 77), some (.int a)], []) h _
  refine Ex.pure 2 (fr2 := (2, [some (.ref 77), some (.int a)], [.int a, .ref 77])) rfl ?_
  refine Ex.ask (rest := [.ref 77]) (j := m_X7_isPlace) (as := [.int a]) (fun c => rfl) ((t_X7_isPlace hs).mono (by omega) (fun _ _ z => z)) ?_
  rintro _ h0 ⟨rfl, e0⟩
  rw [e0]
  show Ex d [] tb_X7_kind (5, [some (.ref 77), some (.int a)], [.int (bi (isp a)), .ref 77]) h _
  refine Ex.br (x := (12, [some (.ref 77), some (.int a)], [.ref 77])) (y := (8, [some (.ref 77), some (.int a)], [.ref 77])) (b := (bi (isp a)) = 0) rfl (fun hb => ?_) (fun hb => ?_)
  · replace H := H.2 (bi_eq.mp hb)
    refine Ex.pure 1 (fr2 := (13, [some (.ref 77), some (.int a)], [.int 1, .ref 77])) rfl ?_
    exact H
  · replace H := H.1 (bi_neq.mp hb)
    refine Ex.pure 2 (fr2 := (13, [some (.ref 77), some (.int a)], [.int 0, .ref 77])) rfl ?_
    exact H
theorem w_X7_kind_13 {d : Nat} {h : XH} {y : Nat → Nat} {K : XK} {E : XE} {l1 : Int32} {s0 : Int32} (hd : 20 ≤ d) (hs : Sg h.1 y) (H : (∀ h1 : XH, h1 = (x_setI h 77 0 s0) → ((s0 = 0) → (Ix l1 16 ∧ K (some (.int (h1.2.1 78 (ix l1)))) h1)) ∧ (¬ (s0 = 0) → K (some (.int 0)) h1))) : b_X7_kind_13 d 77 l1 s0 77 h K E := by
  show Ex d [] tb_X7_kind (13, [some (.ref 77), some (.int l1)], [.int s0, .ref 77]) h _
  refine Ex.ask (rest := []) (j := m_X7_holds) (as := [.ref 77, .int s0]) (vst (a := 114) (b := 2) (c := 6) (rest := []) (vs := [.int s0]) rfl ⟨Nat.le_of_ble_eq_true rfl, Nat.le_of_ble_eq_true rfl⟩ rfl rfl (sg_77 hs)) ((t_X7_holds hs).mono (by omega) (fun _ _ z => z)) ?_
  rintro _ h1 ⟨rfl, e1⟩
  replace H := H h1 e1
  replace hs : Sg h1.1 y := by rw [e1]; exact hs
  show Ex d [] tb_X7_kind (16, [some (.ref 77), some (.int l1)], [.int (bi (s0 = 0))]) h1 _
  refine Ex.br (x := (28, [some (.ref 77), some (.int l1)], [])) (y := (19, [some (.ref 77), some (.int l1)], [])) (b := (bi (s0 = 0)) = 0) rfl (fun hb => ?_) (fun hb => ?_)
  · replace H := H.2 (bi_eq.mp hb)
    refine Ex.pure 1 (fr2 := (29, [some (.ref 77), some (.int l1)], [.int 0])) rfl ?_
    exact Ex.iret rfl (Or.inl rfl) H
  · replace H := H.1 (bi_neq.mp hb)
    refine Ex.pure 1 (fr2 := (20, [some (.ref 77), some (.int l1)], [.ref 77])) rfl ?_
    refine Ex.getQ rfl (sg_77 hs) rfl ?_
    refine Ex.pure 1 (fr2 := (24, [some (.ref 77), some (.int l1)], [.int l1, .ref 78])) rfl ?_
    refine Ex.iald rfl (Or.inl rfl) (sg_78 hs) H.1 ?_
    replace H := H.2
    refine Ex.pure 1 (fr2 := (29, [some (.ref 77), some (.int l1)], [.int (h1.2.1 78 (ix l1))])) rfl ?_
    exact Ex.iret rfl (Or.inl rfl) H
def b_X7_clear_13 (d : Nat) (r_0 : Nat) (l1 : Int32) (u2 : Option Value) (s0 : Int32) (r_4 : Nat) (h : XH) (K : XK) (E : XE) : Prop := Ex d [] tb_X7_clear (13, [some (.ref r_0), some (.int l1), u2], [.int s0, .ref r_4]) h (Po K E)
theorem w_X7_clear {d : Nat} {h : XH} {y : Nat → Nat} {K : XK} {E : XE} {a : Int32} (hd : 20 ≤ d) (hs : Sg h.1 y) (H : ((isp a) → b_X7_clear_13 d 77 a none 0 77 h K E) ∧ (¬ (isp a) → b_X7_clear_13 d 77 a none 1 77 h K E)) : Ca (d + 1) m_X7_clear [.ref 77, .int a] h K E := by
  refine Ca.of ⟨by show 2 ≤ 3; omega, rfl⟩ ?_
  show Ex d [] tb_X7_clear (0, [some (.ref 77), some (.int a), none], []) h _
  refine Ex.pure 2 (fr2 := (2, [some (.ref 77), some (.int a), none], [.int a, .ref 77])) rfl ?_
  refine Ex.ask (rest := [.ref 77]) (j := m_X7_isPlace) (as := [.int a]) (fun c => rfl) ((t_X7_isPlace hs).mono (by omega) (fun _ _ z => z)) ?_
  rintro _ h0 ⟨rfl, e0⟩
  rw [e0]
  show Ex d [] tb_X7_clear (5, [some (.ref 77), some (.int a), none], [.int (bi (isp a)), .ref 77]) h _
  refine Ex.br (x := (12, [some (.ref 77), some (.int a), none], [.ref 77])) (y := (8, [some (.ref 77), some (.int a), none], [.ref 77])) (b := (bi (isp a)) = 0) rfl (fun hb => ?_) (fun hb => ?_)
  · replace H := H.2 (bi_eq.mp hb)
    refine Ex.pure 1 (fr2 := (13, [some (.ref 77), some (.int a), none], [.int 1, .ref 77])) rfl ?_
    exact H
  · replace H := H.1 (bi_neq.mp hb)
    refine Ex.pure 2 (fr2 := (13, [some (.ref 77), some (.int a), none], [.int 0, .ref 77])) rfl ?_
    exact H
theorem w_X7_clear_13 {d : Nat} {h : XH} {y : Nat → Nat} {K : XK} {E : XE} {l1 : Int32} {u2 : Option Value} {s0 : Int32} (hd : 20 ≤ d) (hs : Sg h.1 y) (H : (∀ h1 : XH, h1 = (x_setI h 77 0 s0) → ((s0 = 0) → (Ix l1 16 ∧ (Ca d m_X7_lays [.ref 77, .int l1, .int 0, .int 0] h1 (fun rv h2 => rv = none ∧ Sg h2.1 y ∧ K (some (.int (h1.2.1 78 (ix l1)))) h2) E))) ∧ (¬ (s0 = 0) → K (some (.int 0)) h1))) : b_X7_clear_13 d 77 l1 u2 s0 77 h K E := by
  show Ex d [] tb_X7_clear (13, [some (.ref 77), some (.int l1), u2], [.int s0, .ref 77]) h _
  refine Ex.ask (rest := []) (j := m_X7_holds) (as := [.ref 77, .int s0]) (vst (a := 114) (b := 2) (c := 6) (rest := []) (vs := [.int s0]) rfl ⟨Nat.le_of_ble_eq_true rfl, Nat.le_of_ble_eq_true rfl⟩ rfl rfl (sg_77 hs)) ((t_X7_holds hs).mono (by omega) (fun _ _ z => z)) ?_
  rintro _ h1 ⟨rfl, e1⟩
  replace H := H h1 e1
  replace hs : Sg h1.1 y := by rw [e1]; exact hs
  show Ex d [] tb_X7_clear (16, [some (.ref 77), some (.int l1), u2], [.int (bi (s0 = 0))]) h1 _
  refine Ex.br (x := (21, [some (.ref 77), some (.int l1), u2], [])) (y := (19, [some (.ref 77), some (.int l1), u2], [])) (b := ¬ (bi (s0 = 0)) = 0) rfl (fun hb => ?_) (fun hb => ?_)
  · replace H := H.1 (bi_ne.mp hb)
    refine Ex.pure 1 (fr2 := (22, [some (.ref 77), some (.int l1), u2], [.ref 77])) rfl ?_
    refine Ex.getQ rfl (sg_77 hs) rfl ?_
    refine Ex.pure 1 (fr2 := (26, [some (.ref 77), some (.int l1), u2], [.int l1, .ref 78])) rfl ?_
    refine Ex.iald rfl (Or.inl rfl) (sg_78 hs) H.1 ?_
    replace H := H.2
    refine Ex.pure 5 (fr2 := (32, [some (.ref 77), some (.int l1), some (.int (h1.2.1 78 (ix l1)))], [.int 0, .int 0, .int l1, .ref 77])) rfl ?_
    refine Ex.cal (rest := []) (j := m_X7_lays) (as := [.ref 77, .int l1, .int 0, .int 0]) (vst (a := 118) (b := 4) (c := 6) (rest := []) (vs := [.int l1, .int 0, .int 0]) rfl ⟨Nat.le_of_ble_eq_true rfl, Nat.le_of_ble_eq_true rfl⟩ rfl rfl (sg_77 hs)) (H.imp ?_)
    intro rv h2 H
    obtain ⟨rfl, H⟩ := H
    obtain ⟨hs, H⟩ := H
    show Ex d [] tb_X7_clear (35, [some (.ref 77), some (.int l1), some (.int (h1.2.1 78 (ix l1)))], []) h2 _
    refine Ex.pure 1 (fr2 := (36, [some (.ref 77), some (.int l1), some (.int (h1.2.1 78 (ix l1)))], [.int (h1.2.1 78 (ix l1))])) rfl ?_
    exact Ex.iret rfl (Or.inl rfl) H
  · replace H := H.2 (bi_nne.mp hb)
    refine Ex.pure 1 (fr2 := (20, [some (.ref 77), some (.int l1), u2], [.int 0])) rfl ?_
    exact Ex.iret rfl (Or.inl rfl) H
def b_X7_finiteOne_16 (d : Nat) (r_0 : Nat) (u1 : Option Value) (h : XH) (K : XK) (E : XE) : Prop := Ex d [] tb_X7_finiteOne (16, [some (.ref r_0), u1], []) h (Po K E)
theorem w_X7_finiteOne {d : Nat} {h : XH} {y : Nat → Nat} {K : XK} {E : XE} {a : Int32} (hd : 20 ≤ d) (hs : Sg h.1 y) (H : (∀ h1 : XH, h1 = (x_setI h 77 11 0) → (a ≤ 0 → b_X7_finiteOne_16 d 77 (some (.int a)) h1 K E) ∧ (¬ (a ≤ 0) → (Ca d m_X7_adds [.ref 77, .int 0, .long ((a : Int32).toInt64)] h1 (fun rv h2 => rv = none ∧ Sg h2.1 y ∧ b_X7_finiteOne_16 d 77 (some (.int a)) h2 K E) E)))) : Ca (d + 1) m_X7_finiteOne [.ref 77, .int a] h K E := by
  refine Ca.of ⟨by show 2 ≤ 2; omega, rfl⟩ ?_
  show Ex d [] tb_X7_finiteOne (0, [some (.ref 77), some (.int a)], []) h _
  refine Ex.pure 2 (fr2 := (2, [some (.ref 77), some (.int a)], [.int 0, .ref 77])) rfl ?_
  refine Ex.putI rfl (sg_77 hs) ?_
  obtain ⟨h1, e1⟩ : ∃ z : XH, z = (x_setI h 77 11 0) := ⟨_, rfl⟩
  rw [← e1]
  replace H := H h1 e1
  replace hs : Sg h1.1 y := by rw [e1]; exact hs
  refine Ex.pure 1 (fr2 := (6, [some (.ref 77), some (.int a)], [.int a])) rfl ?_
  refine Ex.br (x := (16, [some (.ref 77), some (.int a)], [])) (y := (9, [some (.ref 77), some (.int a)], [])) (b := a ≤ 0) rfl (fun hb => ?_) (fun hb => ?_)
  · replace H := H.1 (hb)
    exact H
  · replace H := H.2 (hb)
    refine Ex.pure 4 (fr2 := (13, [some (.ref 77), some (.int a)], [.long ((a : Int32).toInt64), .int 0, .ref 77])) rfl ?_
    refine Ex.cal (rest := []) (j := m_X7_adds) (as := [.ref 77, .int 0, .long ((a : Int32).toInt64)]) (vst (a := 121) (b := 3) (c := 6) (rest := []) (vs := [.int 0, .long ((a : Int32).toInt64)]) rfl ⟨Nat.le_of_ble_eq_true rfl, Nat.le_of_ble_eq_true rfl⟩ rfl rfl (sg_77 hs)) (H.imp ?_)
    intro rv h2 H
    obtain ⟨rfl, H⟩ := H
    obtain ⟨hs, H⟩ := H
    show Ex d [] tb_X7_finiteOne (16, [some (.ref 77), some (.int a)], []) h2 _
    exact H
theorem w_X7_finiteOne_16 {d : Nat} {h : XH} {y : Nat → Nat} {K : XK} {E : XE} {u1 : Option Value} (hd : 20 ≤ d) (hs : Sg h.1 y) (H : (Ca d m_X7_makes [.ref 77] h (fun rv h1 => ∃ x2, rv = some (.int x2) ∧ Sg h1.1 y ∧ K (some (.int x2)) h1) E)) : b_X7_finiteOne_16 d 77 u1 h K E := by
  show Ex d [] tb_X7_finiteOne (16, [some (.ref 77), u1], []) h _
  refine Ex.pure 1 (fr2 := (17, [some (.ref 77), u1], [.ref 77])) rfl ?_
  refine Ex.cal (rest := []) (j := m_X7_makes) (as := [.ref 77]) (vst (a := 123) (b := 1) (c := 6) (rest := []) (vs := []) rfl ⟨Nat.le_of_ble_eq_true rfl, Nat.le_of_ble_eq_true rfl⟩ rfl rfl (sg_77 hs)) (H.imp ?_)
  intro rv h1 H
  obtain ⟨x2, rfl, H⟩ := H
  obtain ⟨hs, H⟩ := H
  show Ex d [] tb_X7_finiteOne (20, [some (.ref 77), u1], [.int x2]) h1 _
  exact Ex.iret rfl (Or.inl rfl) H
theorem w_X7_begin {d : Nat} {h : XH} {y : Nat → Nat} {K : XK} {E : XE} (hd : 20 ≤ d) (hs : Sg h.1 y) (H : (∀ h1 : XH, h1 = (x_setI h 77 15 0) → (Ca d m_X7_gathers [.ref 77] h1 (fun rv h2 => rv = none ∧ Sg h2.1 y ∧ K none h2) E))) : Ca (d + 1) m_X7_begin [.ref 77] h K E := by
  refine Ca.of ⟨by show 1 ≤ 1; omega, rfl⟩ ?_
  show Ex d [] tb_X7_begin (0, [some (.ref 77)], []) h _
  refine Ex.pure 2 (fr2 := (2, [some (.ref 77)], [.int 0, .ref 77])) rfl ?_
  refine Ex.putI rfl (sg_77 hs) ?_
  obtain ⟨h1, e1⟩ : ∃ z : XH, z = (x_setI h 77 15 0) := ⟨_, rfl⟩
  rw [← e1]
  replace H := H h1 e1
  replace hs : Sg h1.1 y := by rw [e1]; exact hs
  refine Ex.pure 1 (fr2 := (6, [some (.ref 77)], [.ref 77])) rfl ?_
  refine Ex.cal (rest := []) (j := m_X7_gathers) (as := [.ref 77]) (vst (a := 124) (b := 1) (c := 6) (rest := []) (vs := []) rfl ⟨Nat.le_of_ble_eq_true rfl, Nat.le_of_ble_eq_true rfl⟩ rfl rfl (sg_77 hs)) (H.imp ?_)
  intro rv h2 H
  obtain ⟨rfl, H⟩ := H
  obtain ⟨hs, H⟩ := H
  show Ex d [] tb_X7_begin (9, [some (.ref 77)], []) h2 _
  exact Ex.vret rfl H
def b_X7_finite_29 (d : Nat) (r_0 : Nat) (l1 : Int32) (l2 : Int32) (s0 : Int32) (r_4 : Nat) (h : XH) (K : XK) (E : XE) : Prop := Ex d [] tb_X7_finite (29, [some (.ref r_0), some (.int l1), some (.int l2)], [.int s0, .ref r_4]) h (Po K E)
theorem w_X7_finite {d : Nat} {h : XH} {y : Nat → Nat} {K : XK} {E : XE} {a : Int32} {b : Int32} (hd : 20 ≤ d) (hs : Sg h.1 y) (H : ((isp a) → ((0 ≤ ((b : Int32).toInt64) ∧ ((b : Int32).toInt64) ≤ 1000000) → b_X7_finite_29 d 77 a b 0 77 h K E) ∧ (¬ (0 ≤ ((b : Int32).toInt64) ∧ ((b : Int32).toInt64) ≤ 1000000) → b_X7_finite_29 d 77 a b 2 77 h K E)) ∧ (¬ (isp a) → b_X7_finite_29 d 77 a b 1 77 h K E)) : Ca (d + 1) m_X7_finite [.ref 77, .int a, .int b] h K E := by
  refine Ca.of ⟨by show 3 ≤ 3; omega, rfl⟩ ?_
  show Ex d [] tb_X7_finite (0, [some (.ref 77), some (.int a), some (.int b)], []) h _
  refine Ex.pure 2 (fr2 := (2, [some (.ref 77), some (.int a), some (.int b)], [.int a, .ref 77])) rfl ?_
  refine Ex.ask (rest := [.ref 77]) (j := m_X7_isPlace) (as := [.int a]) (fun c => rfl) ((t_X7_isPlace hs).mono (by omega) (fun _ _ z => z)) ?_
  rintro _ h0 ⟨rfl, e0⟩
  rw [e0]
  show Ex d [] tb_X7_finite (5, [some (.ref 77), some (.int a), some (.int b)], [.int (bi (isp a)), .ref 77]) h _
  refine Ex.br (x := (12, [some (.ref 77), some (.int a), some (.int b)], [.ref 77])) (y := (8, [some (.ref 77), some (.int a), some (.int b)], [.ref 77])) (b := ¬ (bi (isp a)) = 0) rfl (fun hb => ?_) (fun hb => ?_)
  · replace H := H.1 (bi_ne.mp hb)
    refine Ex.pure 4 (fr2 := (18, [some (.ref 77), some (.int a), some (.int b)], [.long 1000000, .long 0, .long ((b : Int32).toInt64), .ref 77])) rfl ?_
    refine Ex.ask (rest := [.ref 77]) (j := m_X7_isIn) (as := [.long ((b : Int32).toInt64), .long 0, .long 1000000]) (fun c => rfl) ((t_X7_isIn hs).mono (by omega) (fun _ _ z => z)) ?_
    rintro _ h0 ⟨rfl, e0⟩
    rw [e0]
    show Ex d [] tb_X7_finite (21, [some (.ref 77), some (.int a), some (.int b)], [.int (bi (0 ≤ ((b : Int32).toInt64) ∧ ((b : Int32).toInt64) ≤ 1000000)), .ref 77]) h _
    refine Ex.br (x := (28, [some (.ref 77), some (.int a), some (.int b)], [.ref 77])) (y := (24, [some (.ref 77), some (.int a), some (.int b)], [.ref 77])) (b := ¬ (bi (0 ≤ ((b : Int32).toInt64) ∧ ((b : Int32).toInt64) ≤ 1000000)) = 0) rfl (fun hb => ?_) (fun hb => ?_)
    · replace H := H.1 (bi_ne.mp hb)
      refine Ex.pure 1 (fr2 := (29, [some (.ref 77), some (.int a), some (.int b)], [.int 0, .ref 77])) rfl ?_
      exact H
    · replace H := H.2 (bi_nne.mp hb)
      refine Ex.pure 2 (fr2 := (29, [some (.ref 77), some (.int a), some (.int b)], [.int 2, .ref 77])) rfl ?_
      exact H
  · replace H := H.2 (bi_nne.mp hb)
    refine Ex.pure 2 (fr2 := (29, [some (.ref 77), some (.int a), some (.int b)], [.int 1, .ref 77])) rfl ?_
    exact H
theorem w_X7_finite_29 {d : Nat} {h : XH} {y : Nat → Nat} {K : XK} {E : XE} {l1 : Int32} {l2 : Int32} {s0 : Int32} (hd : 20 ≤ d) (hs : Sg h.1 y) (H : (∀ h1 : XH, h1 = (x_setI h 77 0 s0) → ((s0 = 0) → (Ca d m_X7_begin [.ref 77] h1 (fun rv h2 => rv = none ∧ Sg h2.1 y ∧ (Ca d m_X7_finiteOne [.ref 77, .int l2] h2 (fun rv h4 => ∃ x5, rv = some (.int x5) ∧ Sg h4.1 y ∧ (Ca d m_X7_lays [.ref 77, .int l1, .int 1, .int x5] h4 (fun rv h6 => rv = none ∧ Sg h6.1 y ∧ K none h6) E)) E)) E)) ∧ (¬ (s0 = 0) → K none h1))) : b_X7_finite_29 d 77 l1 l2 s0 77 h K E := by
  show Ex d [] tb_X7_finite (29, [some (.ref 77), some (.int l1), some (.int l2)], [.int s0, .ref 77]) h _
  refine Ex.ask (rest := []) (j := m_X7_holds) (as := [.ref 77, .int s0]) (vst (a := 114) (b := 2) (c := 6) (rest := []) (vs := [.int s0]) rfl ⟨Nat.le_of_ble_eq_true rfl, Nat.le_of_ble_eq_true rfl⟩ rfl rfl (sg_77 hs)) ((t_X7_holds hs).mono (by omega) (fun _ _ z => z)) ?_
  rintro _ h1 ⟨rfl, e1⟩
  replace H := H h1 e1
  replace hs : Sg h1.1 y := by rw [e1]; exact hs
  show Ex d [] tb_X7_finite (32, [some (.ref 77), some (.int l1), some (.int l2)], [.int (bi (s0 = 0))]) h1 _
  refine Ex.br (x := (50, [some (.ref 77), some (.int l1), some (.int l2)], [])) (y := (35, [some (.ref 77), some (.int l1), some (.int l2)], [])) (b := (bi (s0 = 0)) = 0) rfl (fun hb => ?_) (fun hb => ?_)
  · replace H := H.2 (bi_eq.mp hb)
    exact Ex.vret rfl H
  · replace H := H.1 (bi_neq.mp hb)
    refine Ex.pure 1 (fr2 := (36, [some (.ref 77), some (.int l1), some (.int l2)], [.ref 77])) rfl ?_
    refine Ex.cal (rest := []) (j := m_X7_begin) (as := [.ref 77]) (vst (a := 150) (b := 1) (c := 6) (rest := []) (vs := []) rfl ⟨Nat.le_of_ble_eq_true rfl, Nat.le_of_ble_eq_true rfl⟩ rfl rfl (sg_77 hs)) (H.imp ?_)
    intro rv h2 H
    obtain ⟨rfl, H⟩ := H
    obtain ⟨hs, H⟩ := H
    show Ex d [] tb_X7_finite (39, [some (.ref 77), some (.int l1), some (.int l2)], []) h2 _
    refine Ex.pure 5 (fr2 := (44, [some (.ref 77), some (.int l1), some (.int l2)], [.int l2, .ref 77, .int 1, .int l1, .ref 77])) rfl ?_
    refine Ex.cal (rest := [.int 1, .int l1, .ref 77]) (j := m_X7_finiteOne) (as := [.ref 77, .int l2]) (vst (a := 149) (b := 2) (c := 6) (rest := [.int 1, .int l1, .ref 77]) (vs := [.int l2]) rfl ⟨Nat.le_of_ble_eq_true rfl, Nat.le_of_ble_eq_true rfl⟩ rfl rfl (sg_77 hs)) (H.imp ?_)
    intro rv h4 H
    obtain ⟨x5, rfl, H⟩ := H
    obtain ⟨hs, H⟩ := H
    show Ex d [] tb_X7_finite (47, [some (.ref 77), some (.int l1), some (.int l2)], [.int x5, .int 1, .int l1, .ref 77]) h4 _
    refine Ex.cal (rest := []) (j := m_X7_lays) (as := [.ref 77, .int l1, .int 1, .int x5]) (vst (a := 118) (b := 4) (c := 6) (rest := []) (vs := [.int l1, .int 1, .int x5]) rfl ⟨Nat.le_of_ble_eq_true rfl, Nat.le_of_ble_eq_true rfl⟩ rfl rfl (sg_77 hs)) (H.imp ?_)
    intro rv h6 H
    obtain ⟨rfl, H⟩ := H
    obtain ⟨hs, H⟩ := H
    show Ex d [] tb_X7_finite (50, [some (.ref 77), some (.int l1), some (.int l2)], []) h6 _
    exact Ex.vret rfl H
theorem w_X7_powerOf {d : Nat} {h : XH} {y : Nat → Nat} {K : XK} {E : XE} {a : Int32} (hd : 20 ≤ d) (hs : Sg h.1 y) (H : (Ca d m_X7_begin [.ref 77] h (fun rv h1 => rv = none ∧ Sg h1.1 y ∧ (∀ h3 : XH, h3 = (x_setI h1 77 11 0) → (Ix a 16 ∧ (Ca d m_X7_adds [.ref 77, .int (h3.2.1 79 (ix a)), .long 1] h3 (fun rv h4 => rv = none ∧ Sg h4.1 y ∧ (Ca d m_X7_makes [.ref 77] h4 (fun rv h6 => ∃ x7, rv = some (.int x7) ∧ Sg h6.1 y ∧ K (some (.int x7)) h6) E)) E)))) E)) : Ca (d + 1) m_X7_powerOf [.ref 77, .int a] h K E := by
  refine Ca.of ⟨by show 2 ≤ 2; omega, rfl⟩ ?_
  show Ex d [] tb_X7_powerOf (0, [some (.ref 77), some (.int a)], []) h _
  refine Ex.pure 1 (fr2 := (1, [some (.ref 77), some (.int a)], [.ref 77])) rfl ?_
  refine Ex.cal (rest := []) (j := m_X7_begin) (as := [.ref 77]) (vst (a := 150) (b := 1) (c := 6) (rest := []) (vs := []) rfl ⟨Nat.le_of_ble_eq_true rfl, Nat.le_of_ble_eq_true rfl⟩ rfl rfl (sg_77 hs)) (H.imp ?_)
  intro rv h1 H
  obtain ⟨rfl, H⟩ := H
  obtain ⟨hs, H⟩ := H
  show Ex d [] tb_X7_powerOf (4, [some (.ref 77), some (.int a)], []) h1 _
  refine Ex.pure 2 (fr2 := (6, [some (.ref 77), some (.int a)], [.int 0, .ref 77])) rfl ?_
  refine Ex.putI rfl (sg_77 hs) ?_
  obtain ⟨h3, e3⟩ : ∃ z : XH, z = (x_setI h1 77 11 0) := ⟨_, rfl⟩
  rw [← e3]
  replace H := H h3 e3
  replace hs : Sg h3.1 y := by rw [e3]; exact hs
  refine Ex.pure 2 (fr2 := (11, [some (.ref 77), some (.int a)], [.ref 77, .ref 77])) rfl ?_
  refine Ex.getQ rfl (sg_77 hs) rfl ?_
  refine Ex.pure 1 (fr2 := (15, [some (.ref 77), some (.int a)], [.int a, .ref 79, .ref 77])) rfl ?_
  refine Ex.iald rfl (Or.inl rfl) (sg_79 hs) H.1 ?_
  replace H := H.2
  refine Ex.pure 1 (fr2 := (17, [some (.ref 77), some (.int a)], [.long 1, .int (h3.2.1 79 (ix a)), .ref 77])) rfl ?_
  refine Ex.cal (rest := []) (j := m_X7_adds) (as := [.ref 77, .int (h3.2.1 79 (ix a)), .long 1]) (vst (a := 121) (b := 3) (c := 6) (rest := []) (vs := [.int (h3.2.1 79 (ix a)), .long 1]) rfl ⟨Nat.le_of_ble_eq_true rfl, Nat.le_of_ble_eq_true rfl⟩ rfl rfl (sg_77 hs)) (H.imp ?_)
  intro rv h4 H
  obtain ⟨rfl, H⟩ := H
  obtain ⟨hs, H⟩ := H
  show Ex d [] tb_X7_powerOf (20, [some (.ref 77), some (.int a)], []) h4 _
  refine Ex.pure 1 (fr2 := (21, [some (.ref 77), some (.int a)], [.ref 77])) rfl ?_
  refine Ex.cal (rest := []) (j := m_X7_makes) (as := [.ref 77]) (vst (a := 123) (b := 1) (c := 6) (rest := []) (vs := []) rfl ⟨Nat.le_of_ble_eq_true rfl, Nat.le_of_ble_eq_true rfl⟩ rfl rfl (sg_77 hs)) (H.imp ?_)
  intro rv h6 H
  obtain ⟨x7, rfl, H⟩ := H
  obtain ⟨hs, H⟩ := H
  show Ex d [] tb_X7_powerOf (24, [some (.ref 77), some (.int a)], [.int x7]) h6 _
  exact Ex.iret rfl (Or.inl rfl) H
theorem w_X7_isKind {d : Nat} {h : XH} {y : Nat → Nat} {K : XK} {E : XE} {a : Int32} {b : Int32} (hd : 20 ≤ d) (hs : Sg h.1 y) (H : (Ix a 16 ∧ (¬ (h.2.1 78 (ix a)) = b → K (some (.int 0)) h) ∧ (¬ (¬ (h.2.1 78 (ix a)) = b) → K (some (.int 1)) h))) : Ca (d + 1) m_X7_isKind [.ref 77, .int a, .int b] h K E := by
  refine Ca.of ⟨by show 3 ≤ 3; omega, rfl⟩ ?_
  show Ex d [] tb_X7_isKind (0, [some (.ref 77), some (.int a), some (.int b)], []) h _
  refine Ex.pure 1 (fr2 := (1, [some (.ref 77), some (.int a), some (.int b)], [.ref 77])) rfl ?_
  refine Ex.getQ rfl (sg_77 hs) rfl ?_
  refine Ex.pure 1 (fr2 := (5, [some (.ref 77), some (.int a), some (.int b)], [.int a, .ref 78])) rfl ?_
  refine Ex.iald rfl (Or.inl rfl) (sg_78 hs) H.1 ?_
  replace H := H.2
  refine Ex.pure 1 (fr2 := (7, [some (.ref 77), some (.int a), some (.int b)], [.int b, .int (h.2.1 78 (ix a))])) rfl ?_
  refine Ex.br (x := (14, [some (.ref 77), some (.int a), some (.int b)], [])) (y := (10, [some (.ref 77), some (.int a), some (.int b)], [])) (b := ¬ (h.2.1 78 (ix a)) = b) rfl (fun hb => ?_) (fun hb => ?_)
  · replace H := H.1 (hb)
    refine Ex.pure 1 (fr2 := (15, [some (.ref 77), some (.int a), some (.int b)], [.int 0])) rfl ?_
    exact Ex.iret rfl (Or.inr ⟨rfl, by decide⟩) H
  · replace H := H.2 (hb)
    refine Ex.pure 2 (fr2 := (15, [some (.ref 77), some (.int a), some (.int b)], [.int 1])) rfl ?_
    exact Ex.iret rfl (Or.inr ⟨rfl, by decide⟩) H
def b_X7_omega_18 (d : Nat) (r_0 : Nat) (l1 : Int32) (l2 : Int32) (u3 : Option Value) (u4 : Option Value) (h : XH) (K : XK) (E : XE) : Prop := Ex d [] tb_X7_omega (18, [some (.ref r_0), some (.int l1), some (.int l2), u3, u4], []) h (Po K E)
def b_X7_omega_19 (d : Nat) (r_0 : Nat) (l1 : Int32) (l2 : Int32) (u3 : Option Value) (u4 : Option Value) (s0 : Int32) (h : XH) (K : XK) (E : XE) : Prop := Ex d [] tb_X7_omega (19, [some (.ref r_0), some (.int l1), some (.int l2), u3, u4], [.int s0]) h (Po K E)
def b_X7_omega_41 (d : Nat) (r_0 : Nat) (l1 : Int32) (u2 : Option Value) (l3 : Int32) (u4 : Option Value) (h : XH) (K : XK) (E : XE) : Prop := Ex d [] tb_X7_omega (41, [some (.ref r_0), some (.int l1), u2, some (.int l3), u4], []) h (Po K E)
def b_X7_omega_42 (d : Nat) (r_0 : Nat) (l1 : Int32) (u2 : Option Value) (l3 : Int32) (u4 : Option Value) (s0 : Int32) (h : XH) (K : XK) (E : XE) : Prop := Ex d [] tb_X7_omega (42, [some (.ref r_0), some (.int l1), u2, some (.int l3), u4], [.int s0]) h (Po K E)
def b_X7_omega_64 (d : Nat) (r_0 : Nat) (l1 : Int32) (u2 : Option Value) (u3 : Option Value) (l4 : Int32) (s0 : Int32) (r_6 : Nat) (h : XH) (K : XK) (E : XE) : Prop := Ex d [] tb_X7_omega (64, [some (.ref r_0), some (.int l1), u2, u3, some (.int l4)], [.int s0, .ref r_6]) h (Po K E)
theorem w_X7_omega {d : Nat} {h : XH} {y : Nat → Nat} {K : XK} {E : XE} {a : Int32} {b : Int32} (hd : 20 ≤ d) (hs : Sg h.1 y) (H : ((isp a) → ((isp b) → b_X7_omega_19 d 77 a b none none 1 h K E) ∧ (¬ (isp b) → b_X7_omega_18 d 77 a b none none h K E)) ∧ (¬ (isp a) → b_X7_omega_18 d 77 a b none none h K E)) : Ca (d + 1) m_X7_omega [.ref 77, .int a, .int b] h K E := by
  refine Ca.of ⟨by show 3 ≤ 5; omega, rfl⟩ ?_
  show Ex d [] tb_X7_omega (0, [some (.ref 77), some (.int a), some (.int b), none, none], []) h _
  refine Ex.pure 1 (fr2 := (1, [some (.ref 77), some (.int a), some (.int b), none, none], [.int a])) rfl ?_
  refine Ex.ask (rest := []) (j := m_X7_isPlace) (as := [.int a]) (fun c => rfl) ((t_X7_isPlace hs).mono (by omega) (fun _ _ z => z)) ?_
  rintro _ h0 ⟨rfl, e0⟩
  rw [e0]
  show Ex d [] tb_X7_omega (4, [some (.ref 77), some (.int a), some (.int b), none, none], [.int (bi (isp a))]) h _
  refine Ex.br (x := (18, [some (.ref 77), some (.int a), some (.int b), none, none], [])) (y := (7, [some (.ref 77), some (.int a), some (.int b), none, none], [])) (b := (bi (isp a)) = 0) rfl (fun hb => ?_) (fun hb => ?_)
  · replace H := H.2 (bi_eq.mp hb)
    exact H
  · replace H := H.1 (bi_neq.mp hb)
    refine Ex.pure 1 (fr2 := (8, [some (.ref 77), some (.int a), some (.int b), none, none], [.int b])) rfl ?_
    refine Ex.ask (rest := []) (j := m_X7_isPlace) (as := [.int b]) (fun c => rfl) ((t_X7_isPlace hs).mono (by omega) (fun _ _ z => z)) ?_
    rintro _ h0 ⟨rfl, e0⟩
    rw [e0]
    show Ex d [] tb_X7_omega (11, [some (.ref 77), some (.int a), some (.int b), none, none], [.int (bi (isp b))]) h _
    refine Ex.br (x := (18, [some (.ref 77), some (.int a), some (.int b), none, none], [])) (y := (14, [some (.ref 77), some (.int a), some (.int b), none, none], [])) (b := (bi (isp b)) = 0) rfl (fun hb => ?_) (fun hb => ?_)
    · replace H := H.2 (bi_eq.mp hb)
      exact H
    · replace H := H.1 (bi_neq.mp hb)
      refine Ex.pure 2 (fr2 := (19, [some (.ref 77), some (.int a), some (.int b), none, none], [.int 1])) rfl ?_
      exact H
theorem w_X7_omega_18 {d : Nat} {h : XH} {y : Nat → Nat} {K : XK} {E : XE} {l1 : Int32} {l2 : Int32} {u3 : Option Value} {u4 : Option Value} (hd : 20 ≤ d) (hs : Sg h.1 y) (H : b_X7_omega_19 d 77 l1 l2 (u3) (u4) 0 h K E) : b_X7_omega_18 d 77 l1 l2 u3 u4 h K E := by
  show Ex d [] tb_X7_omega (18, [some (.ref 77), some (.int l1), some (.int l2), u3, u4], []) h _
  refine Ex.pure 1 (fr2 := (19, [some (.ref 77), some (.int l1), some (.int l2), u3, u4], [.int 0])) rfl ?_
  exact H
theorem w_X7_omega_19 {d : Nat} {h : XH} {y : Nat → Nat} {K : XK} {E : XE} {l1 : Int32} {l2 : Int32} {u3 : Option Value} {u4 : Option Value} {s0 : Int32} (hd : 20 ≤ d) (hs : Sg h.1 y) (H : (s0 = 0 → b_X7_omega_41 d 77 l1 (some (.int l2)) s0 (u4) h K E) ∧ (¬ (s0 = 0) → (Ca d m_X7_isKind [.ref 77, .int l2, .int 1] h (fun rv h1 => ∃ x2, rv = some (.int x2) ∧ Sg h1.1 y ∧ (x2 = 0 → b_X7_omega_41 d 77 l1 (some (.int l2)) s0 (u4) h1 K E) ∧ (¬ (x2 = 0) → (Ca d m_X7_powerOf [.ref 77, .int l2] h1 (fun rv h3 => ∃ x4, rv = some (.int x4) ∧ Sg h3.1 y ∧ b_X7_omega_42 d 77 l1 (some (.int l2)) s0 (u4) x4 h3 K E) E))) E))) : b_X7_omega_19 d 77 l1 l2 u3 u4 s0 h K E := by
  show Ex d [] tb_X7_omega (19, [some (.ref 77), some (.int l1), some (.int l2), u3, u4], [.int s0]) h _
  refine Ex.pure 2 (fr2 := (21, [some (.ref 77), some (.int l1), some (.int l2), some (.int s0), u4], [.int s0])) rfl ?_
  refine Ex.br (x := (41, [some (.ref 77), some (.int l1), some (.int l2), some (.int s0), u4], [])) (y := (24, [some (.ref 77), some (.int l1), some (.int l2), some (.int s0), u4], [])) (b := s0 = 0) rfl (fun hb => ?_) (fun hb => ?_)
  · replace H := H.1 (hb)
    exact H
  · replace H := H.2 (hb)
    refine Ex.pure 3 (fr2 := (27, [some (.ref 77), some (.int l1), some (.int l2), some (.int s0), u4], [.int 1, .int l2, .ref 77])) rfl ?_
    refine Ex.cal (rest := []) (j := m_X7_isKind) (as := [.ref 77, .int l2, .int 1]) (vst (a := 153) (b := 3) (c := 6) (rest := []) (vs := [.int l2, .int 1]) rfl ⟨Nat.le_of_ble_eq_true rfl, Nat.le_of_ble_eq_true rfl⟩ rfl rfl (sg_77 hs)) (H.imp ?_)
    intro rv h1 H
    obtain ⟨x2, rfl, H⟩ := H
    obtain ⟨hs, H⟩ := H
    show Ex d [] tb_X7_omega (30, [some (.ref 77), some (.int l1), some (.int l2), some (.int s0), u4], [.int x2]) h1 _
    refine Ex.br (x := (41, [some (.ref 77), some (.int l1), some (.int l2), some (.int s0), u4], [])) (y := (33, [some (.ref 77), some (.int l1), some (.int l2), some (.int s0), u4], [])) (b := x2 = 0) rfl (fun hb => ?_) (fun hb => ?_)
    · replace H := H.1 (hb)
      exact H
    · replace H := H.2 (hb)
      refine Ex.pure 2 (fr2 := (35, [some (.ref 77), some (.int l1), some (.int l2), some (.int s0), u4], [.int l2, .ref 77])) rfl ?_
      refine Ex.cal (rest := []) (j := m_X7_powerOf) (as := [.ref 77, .int l2]) (vst (a := 152) (b := 2) (c := 6) (rest := []) (vs := [.int l2]) rfl ⟨Nat.le_of_ble_eq_true rfl, Nat.le_of_ble_eq_true rfl⟩ rfl rfl (sg_77 hs)) (H.imp ?_)
      intro rv h3 H
      obtain ⟨x4, rfl, H⟩ := H
      obtain ⟨hs, H⟩ := H
      show Ex d [] tb_X7_omega (38, [some (.ref 77), some (.int l1), some (.int l2), some (.int s0), u4], [.int x4]) h3 _
      refine Ex.pure 1 (fr2 := (42, [some (.ref 77), some (.int l1), some (.int l2), some (.int s0), u4], [.int x4])) rfl ?_
      exact H
theorem w_X7_omega_41 {d : Nat} {h : XH} {y : Nat → Nat} {K : XK} {E : XE} {l1 : Int32} {u2 : Option Value} {l3 : Int32} {u4 : Option Value} (hd : 20 ≤ d) (hs : Sg h.1 y) (H : b_X7_omega_42 d 77 l1 (u2) l3 (u4) (-1) h K E) : b_X7_omega_41 d 77 l1 u2 l3 u4 h K E := by
  show Ex d [] tb_X7_omega (41, [some (.ref 77), some (.int l1), u2, some (.int l3), u4], []) h _
  refine Ex.pure 1 (fr2 := (42, [some (.ref 77), some (.int l1), u2, some (.int l3), u4], [.int (-1)])) rfl ?_
  exact H
theorem w_X7_omega_42 {d : Nat} {h : XH} {y : Nat → Nat} {K : XK} {E : XE} {l1 : Int32} {u2 : Option Value} {l3 : Int32} {u4 : Option Value} {s0 : Int32} (hd : 20 ≤ d) (hs : Sg h.1 y) (H : (¬ l3 = 0 → (¬ s0 = (-1) → b_X7_omega_64 d 77 l1 (u2) (some (.int l3)) s0 0 77 h K E) ∧ (¬ (¬ s0 = (-1)) → b_X7_omega_64 d 77 l1 (u2) (some (.int l3)) s0 2 77 h K E)) ∧ (¬ (¬ l3 = 0) → b_X7_omega_64 d 77 l1 (u2) (some (.int l3)) s0 1 77 h K E)) : b_X7_omega_42 d 77 l1 u2 l3 u4 s0 h K E := by
  show Ex d [] tb_X7_omega (42, [some (.ref 77), some (.int l1), u2, some (.int l3), u4], [.int s0]) h _
  refine Ex.pure 3 (fr2 := (46, [some (.ref 77), some (.int l1), u2, some (.int l3), some (.int s0)], [.int l3, .ref 77])) rfl ?_
  refine Ex.br (x := (53, [some (.ref 77), some (.int l1), u2, some (.int l3), some (.int s0)], [.ref 77])) (y := (49, [some (.ref 77), some (.int l1), u2, some (.int l3), some (.int s0)], [.ref 77])) (b := ¬ l3 = 0) rfl (fun hb => ?_) (fun hb => ?_)
  · replace H := H.1 (hb)
    refine Ex.pure 2 (fr2 := (56, [some (.ref 77), some (.int l1), u2, some (.int l3), some (.int s0)], [.int (-1), .int s0, .ref 77])) rfl ?_
    refine Ex.br (x := (63, [some (.ref 77), some (.int l1), u2, some (.int l3), some (.int s0)], [.ref 77])) (y := (59, [some (.ref 77), some (.int l1), u2, some (.int l3), some (.int s0)], [.ref 77])) (b := ¬ s0 = (-1)) rfl (fun hb => ?_) (fun hb => ?_)
    · replace H := H.1 (hb)
      refine Ex.pure 1 (fr2 := (64, [some (.ref 77), some (.int l1), u2, some (.int l3), some (.int s0)], [.int 0, .ref 77])) rfl ?_
      exact H
    · replace H := H.2 (hb)
      refine Ex.pure 2 (fr2 := (64, [some (.ref 77), some (.int l1), u2, some (.int l3), some (.int s0)], [.int 2, .ref 77])) rfl ?_
      exact H
  · replace H := H.2 (hb)
    refine Ex.pure 2 (fr2 := (64, [some (.ref 77), some (.int l1), u2, some (.int l3), some (.int s0)], [.int 1, .ref 77])) rfl ?_
    exact H
theorem w_X7_omega_64 {d : Nat} {h : XH} {y : Nat → Nat} {K : XK} {E : XE} {l1 : Int32} {u2 : Option Value} {u3 : Option Value} {l4 : Int32} {s0 : Int32} (hd : 20 ≤ d) (hs : Sg h.1 y) (H : (∀ h1 : XH, h1 = (x_setI h 77 0 s0) → ((s0 = 0) → (Ca d m_X7_lays [.ref 77, .int l1, .int 1, .int l4] h1 (fun rv h2 => rv = none ∧ Sg h2.1 y ∧ K none h2) E)) ∧ (¬ (s0 = 0) → K none h1))) : b_X7_omega_64 d 77 l1 u2 u3 l4 s0 77 h K E := by
  show Ex d [] tb_X7_omega (64, [some (.ref 77), some (.int l1), u2, u3, some (.int l4)], [.int s0, .ref 77]) h _
  refine Ex.ask (rest := []) (j := m_X7_holds) (as := [.ref 77, .int s0]) (vst (a := 114) (b := 2) (c := 6) (rest := []) (vs := [.int s0]) rfl ⟨Nat.le_of_ble_eq_true rfl, Nat.le_of_ble_eq_true rfl⟩ rfl rfl (sg_77 hs)) ((t_X7_holds hs).mono (by omega) (fun _ _ z => z)) ?_
  rintro _ h1 ⟨rfl, e1⟩
  replace H := H h1 e1
  replace hs : Sg h1.1 y := by rw [e1]; exact hs
  show Ex d [] tb_X7_omega (67, [some (.ref 77), some (.int l1), u2, u3, some (.int l4)], [.int (bi (s0 = 0))]) h1 _
  refine Ex.br (x := (78, [some (.ref 77), some (.int l1), u2, u3, some (.int l4)], [])) (y := (70, [some (.ref 77), some (.int l1), u2, u3, some (.int l4)], [])) (b := (bi (s0 = 0)) = 0) rfl (fun hb => ?_) (fun hb => ?_)
  · replace H := H.2 (bi_eq.mp hb)
    exact Ex.vret rfl H
  · replace H := H.1 (bi_neq.mp hb)
    refine Ex.pure 4 (fr2 := (75, [some (.ref 77), some (.int l1), u2, u3, some (.int l4)], [.int l4, .int 1, .int l1, .ref 77])) rfl ?_
    refine Ex.cal (rest := []) (j := m_X7_lays) (as := [.ref 77, .int l1, .int 1, .int l4]) (vst (a := 118) (b := 4) (c := 6) (rest := []) (vs := [.int l1, .int 1, .int l4]) rfl ⟨Nat.le_of_ble_eq_true rfl, Nat.le_of_ble_eq_true rfl⟩ rfl rfl (sg_77 hs)) (H.imp ?_)
    intro rv h2 H
    obtain ⟨rfl, H⟩ := H
    obtain ⟨hs, H⟩ := H
    show Ex d [] tb_X7_omega (78, [some (.ref 77), some (.int l1), u2, u3, some (.int l4)], []) h2 _
    exact Ex.vret rfl H
def b_X7_number_26 (d : Nat) (r_0 : Nat) (l1 : Int32) (u2 : Option Value) (u3 : Option Value) (l4 : Int32) (l5 : Int64) (u7 : Option Value) (s0 : Int32) (h : XH) (K : XK) (E : XE) : Prop := Ex d [] tb_X7_number (26, [some (.ref r_0), some (.int l1), u2, u3, some (.int l4), some (.long l5), none, u7], [.int s0]) h (Po K E)
def b_X7_number_28 (d : Nat) (r_0 : Nat) (l1 : Int32) (u2 : Option Value) (u3 : Option Value) (l4 : Int32) (l5 : Int64) (l7 : Int32) (h : XH) (K : XK) (E : XE) : Prop := Ex d [] tb_X7_number (28, [some (.ref r_0), some (.int l1), u2, u3, some (.int l4), some (.long l5), none, some (.int l7)], []) h (Po K E)
def b_X7_number_74 (d : Nat) (r_0 : Nat) (l1 : Int32) (u2 : Option Value) (u3 : Option Value) (u4 : Option Value) (l5 : Int64) (u7 : Option Value) (r_7 : Nat) (h : XH) (K : XK) (E : XE) : Prop := Ex d [] tb_X7_number (74, [some (.ref r_0), some (.int l1), u2, u3, u4, some (.long l5), none, u7], [.ref r_7]) h (Po K E)
def b_X7_number_79 (d : Nat) (r_0 : Nat) (l1 : Int32) (u2 : Option Value) (u3 : Option Value) (u4 : Option Value) (l5 : Int64) (u7 : Option Value) (s0 : Int32) (r_8 : Nat) (h : XH) (K : XK) (E : XE) : Prop := Ex d [] tb_X7_number (79, [some (.ref r_0), some (.int l1), u2, u3, u4, some (.long l5), none, u7], [.int s0, .ref r_8]) h (Po K E)
theorem w_X7_number {d : Nat} {h : XH} {y : Nat → Nat} {K : XK} {E : XE} {a : Int32} {b : Int32} {c : Int32} (hd : 20 ≤ d) (hs : Sg h.1 y) (H : ((0 ≤ ((c : Int32).toInt64) ∧ ((c : Int32).toInt64) ≤ 20) → b_X7_number_26 d 77 a (some (.int b)) (some (.int c)) (bi (0 ≤ ((c : Int32).toInt64) ∧ ((c : Int32).toInt64) ≤ 20)) ((b : Int32).toInt64) none c h K E) ∧ (¬ (0 ≤ ((c : Int32).toInt64) ∧ ((c : Int32).toInt64) ≤ 20) → b_X7_number_26 d 77 a (some (.int b)) (some (.int c)) (bi (0 ≤ ((c : Int32).toInt64) ∧ ((c : Int32).toInt64) ≤ 20)) ((b : Int32).toInt64) none 20 h K E)) : Ca (d + 1) m_X7_number [.ref 77, .int a, .int b, .int c] h K E := by
  refine Ca.of ⟨by show 4 ≤ 8; omega, rfl⟩ ?_
  show Ex d [] tb_X7_number (0, [some (.ref 77), some (.int a), some (.int b), some (.int c), none, none, none, none], []) h _
  refine Ex.pure 4 (fr2 := (6, [some (.ref 77), some (.int a), some (.int b), some (.int c), none, none, none, none], [.long 20, .long 0, .long ((c : Int32).toInt64)])) rfl ?_
  refine Ex.ask (rest := []) (j := m_X7_isIn) (as := [.long ((c : Int32).toInt64), .long 0, .long 20]) (fun c => rfl) ((t_X7_isIn hs).mono (by omega) (fun _ _ z => z)) ?_
  rintro _ h0 ⟨rfl, e0⟩
  rw [e0]
  show Ex d [] tb_X7_number (9, [some (.ref 77), some (.int a), some (.int b), some (.int c), none, none, none, none], [.int (bi (0 ≤ ((c : Int32).toInt64) ∧ ((c : Int32).toInt64) ≤ 20))]) h _
  refine Ex.pure 5 (fr2 := (17, [some (.ref 77), some (.int a), some (.int b), some (.int c), some (.int (bi (0 ≤ ((c : Int32).toInt64) ∧ ((c : Int32).toInt64) ≤ 20))), some (.long ((b : Int32).toInt64)), none, none], [.int (bi (0 ≤ ((c : Int32).toInt64) ∧ ((c : Int32).toInt64) ≤ 20))])) rfl ?_
  refine Ex.br (x := (24, [some (.ref 77), some (.int a), some (.int b), some (.int c), some (.int (bi (0 ≤ ((c : Int32).toInt64) ∧ ((c : Int32).toInt64) ≤ 20))), some (.long ((b : Int32).toInt64)), none, none], [])) (y := (20, [some (.ref 77), some (.int a), some (.int b), some (.int c), some (.int (bi (0 ≤ ((c : Int32).toInt64) ∧ ((c : Int32).toInt64) ≤ 20))), some (.long ((b : Int32).toInt64)), none, none], [])) (b := (bi (0 ≤ ((c : Int32).toInt64) ∧ ((c : Int32).toInt64) ≤ 20)) = 0) rfl (fun hb => ?_) (fun hb => ?_)
  · replace H := H.2 (bi_eq.mp hb)
    refine Ex.pure 1 (fr2 := (26, [some (.ref 77), some (.int a), some (.int b), some (.int c), some (.int (bi (0 ≤ ((c : Int32).toInt64) ∧ ((c : Int32).toInt64) ≤ 20))), some (.long ((b : Int32).toInt64)), none, none], [.int 20])) rfl ?_
    exact H
  · replace H := H.1 (bi_neq.mp hb)
    refine Ex.pure 2 (fr2 := (26, [some (.ref 77), some (.int a), some (.int b), some (.int c), some (.int (bi (0 ≤ ((c : Int32).toInt64) ∧ ((c : Int32).toInt64) ≤ 20))), some (.long ((b : Int32).toInt64)), none, none], [.int c])) rfl ?_
    exact H
theorem w_X7_number_26 {d : Nat} {h : XH} {y : Nat → Nat} {K : XK} {E : XE} {l1 : Int32} {u2 : Option Value} {u3 : Option Value} {l4 : Int32} {l5 : Int64} {u7 : Option Value} {s0 : Int32} (hd : 20 ≤ d) (hs : Sg h.1 y) (H : b_X7_number_28 d 77 l1 (u2) (u3) l4 l5 s0 h K E) : b_X7_number_26 d 77 l1 u2 u3 l4 l5 u7 s0 h K E := by
  show Ex d [] tb_X7_number (26, [some (.ref 77), some (.int l1), u2, u3, some (.int l4), some (.long l5), none, u7], [.int s0]) h _
  refine Ex.pure 1 (fr2 := (28, [some (.ref 77), some (.int l1), u2, u3, some (.int l4), some (.long l5), none, some (.int s0)], [])) rfl ?_
  exact H
theorem w_X7_number_28 {d : Nat} {h : XH} {y : Nat → Nat} {K : XK} {E : XE} {l1 : Int32} {u2 : Option Value} {u3 : Option Value} {l4 : Int32} {l5 : Int64} {l7 : Int32} (hd : 20 ≤ d) (hs : Sg h.1 y) (H : (20 ≤ l7 → ((isp l1) → (l4 = 0 → b_X7_number_74 d 77 l1 (u2) (u3) (some (.int l4)) l5 (some (.int l7)) 77 h K E) ∧ (¬ (l4 = 0) → ((-268435456 ≤ l5 ∧ l5 ≤ 268435456) → b_X7_number_79 d 77 l1 (u2) (u3) (some (.int l4)) l5 (some (.int l7)) 0 77 h K E) ∧ (¬ (-268435456 ≤ l5 ∧ l5 ≤ 268435456) → b_X7_number_74 d 77 l1 (u2) (u3) (some (.int l4)) l5 (some (.int l7)) 77 h K E))) ∧ (¬ (isp l1) → b_X7_number_79 d 77 l1 (u2) (u3) (some (.int l4)) l5 (some (.int l7)) 1 77 h K E)) ∧ (¬ (20 ≤ l7) → b_X7_number_28 d 77 l1 (u2) (u3) l4 (l5 * 2) (l7 + 1) h K E)) : b_X7_number_28 d 77 l1 u2 u3 l4 l5 l7 h K E := by
  show Ex d [] tb_X7_number (28, [some (.ref 77), some (.int l1), u2, u3, some (.int l4), some (.long l5), none, some (.int l7)], []) h _
  refine Ex.pure 2 (fr2 := (32, [some (.ref 77), some (.int l1), u2, u3, some (.int l4), some (.long l5), none, some (.int l7)], [.int 20, .int l7])) rfl ?_
  refine Ex.br (x := (49, [some (.ref 77), some (.int l1), u2, u3, some (.int l4), some (.long l5), none, some (.int l7)], [])) (y := (35, [some (.ref 77), some (.int l1), u2, u3, some (.int l4), some (.long l5), none, some (.int l7)], [])) (b := 20 ≤ l7) rfl (fun hb => ?_) (fun hb => ?_)
  · replace H := H.1 (hb)
    refine Ex.pure 2 (fr2 := (51, [some (.ref 77), some (.int l1), u2, u3, some (.int l4), some (.long l5), none, some (.int l7)], [.int l1, .ref 77])) rfl ?_
    refine Ex.ask (rest := [.ref 77]) (j := m_X7_isPlace) (as := [.int l1]) (fun c => rfl) ((t_X7_isPlace hs).mono (by omega) (fun _ _ z => z)) ?_
    rintro _ h0 ⟨rfl, e0⟩
    rw [e0]
    show Ex d [] tb_X7_number (54, [some (.ref 77), some (.int l1), u2, u3, some (.int l4), some (.long l5), none, some (.int l7)], [.int (bi (isp l1)), .ref 77]) h _
    refine Ex.br (x := (61, [some (.ref 77), some (.int l1), u2, u3, some (.int l4), some (.long l5), none, some (.int l7)], [.ref 77])) (y := (57, [some (.ref 77), some (.int l1), u2, u3, some (.int l4), some (.long l5), none, some (.int l7)], [.ref 77])) (b := ¬ (bi (isp l1)) = 0) rfl (fun hb => ?_) (fun hb => ?_)
    · replace H := H.1 (bi_ne.mp hb)
      refine Ex.pure 1 (fr2 := (63, [some (.ref 77), some (.int l1), u2, u3, some (.int l4), some (.long l5), none, some (.int l7)], [.int l4, .ref 77])) rfl ?_
      refine Ex.br (x := (74, [some (.ref 77), some (.int l1), u2, u3, some (.int l4), some (.long l5), none, some (.int l7)], [.ref 77])) (y := (66, [some (.ref 77), some (.int l1), u2, u3, some (.int l4), some (.long l5), none, some (.int l7)], [.ref 77])) (b := l4 = 0) rfl (fun hb => ?_) (fun hb => ?_)
      · replace H := H.1 (hb)
        exact H
      · replace H := H.2 (hb)
        refine Ex.pure 1 (fr2 := (68, [some (.ref 77), some (.int l1), u2, u3, some (.int l4), some (.long l5), none, some (.int l7)], [.long l5, .ref 77])) rfl ?_
        refine Ex.ask (rest := [.ref 77]) (j := m_X7_isNumber) (as := [.long l5]) (fun c => rfl) ((t_X7_isNumber hs).mono (by omega) (fun _ _ z => z)) ?_
        rintro _ h0 ⟨rfl, e0⟩
        rw [e0]
        show Ex d [] tb_X7_number (71, [some (.ref 77), some (.int l1), u2, u3, some (.int l4), some (.long l5), none, some (.int l7)], [.int (bi (-268435456 ≤ l5 ∧ l5 ≤ 268435456)), .ref 77]) h _
        refine Ex.br (x := (78, [some (.ref 77), some (.int l1), u2, u3, some (.int l4), some (.long l5), none, some (.int l7)], [.ref 77])) (y := (74, [some (.ref 77), some (.int l1), u2, u3, some (.int l4), some (.long l5), none, some (.int l7)], [.ref 77])) (b := ¬ (bi (-268435456 ≤ l5 ∧ l5 ≤ 268435456)) = 0) rfl (fun hb => ?_) (fun hb => ?_)
        · replace H := H.1 (bi_ne.mp hb)
          refine Ex.pure 1 (fr2 := (79, [some (.ref 77), some (.int l1), u2, u3, some (.int l4), some (.long l5), none, some (.int l7)], [.int 0, .ref 77])) rfl ?_
          exact H
        · replace H := H.2 (bi_nne.mp hb)
          exact H
    · replace H := H.2 (bi_nne.mp hb)
      refine Ex.pure 2 (fr2 := (79, [some (.ref 77), some (.int l1), u2, u3, some (.int l4), some (.long l5), none, some (.int l7)], [.int 1, .ref 77])) rfl ?_
      exact H
  · replace H := H.2 (hb)
    refine Ex.pure 6 (fr2 := (28, [some (.ref 77), some (.int l1), u2, u3, some (.int l4), some (.long (l5 * 2)), none, some (.int (l7 + 1))], [])) rfl ?_
    exact H
theorem w_X7_number_74 {d : Nat} {h : XH} {y : Nat → Nat} {K : XK} {E : XE} {l1 : Int32} {u2 : Option Value} {u3 : Option Value} {u4 : Option Value} {l5 : Int64} {u7 : Option Value} (hd : 20 ≤ d) (hs : Sg h.1 y) (H : b_X7_number_79 d 77 l1 (u2) (u3) (u4) l5 (u7) 2 77 h K E) : b_X7_number_74 d 77 l1 u2 u3 u4 l5 u7 77 h K E := by
  show Ex d [] tb_X7_number (74, [some (.ref 77), some (.int l1), u2, u3, u4, some (.long l5), none, u7], [.ref 77]) h _
  refine Ex.pure 2 (fr2 := (79, [some (.ref 77), some (.int l1), u2, u3, u4, some (.long l5), none, u7], [.int 2, .ref 77])) rfl ?_
  exact H
theorem w_X7_number_79 {d : Nat} {h : XH} {y : Nat → Nat} {K : XK} {E : XE} {l1 : Int32} {u2 : Option Value} {u3 : Option Value} {u4 : Option Value} {l5 : Int64} {u7 : Option Value} {s0 : Int32} (hd : 20 ≤ d) (hs : Sg h.1 y) (H : (∀ h1 : XH, h1 = (x_setI h 77 0 s0) → ((s0 = 0) → (Ca d m_X7_lays [.ref 77, .int l1, .int 2, .int ((l5 : Int64).toInt32)] h1 (fun rv h2 => rv = none ∧ Sg h2.1 y ∧ K none h2) E)) ∧ (¬ (s0 = 0) → K none h1))) : b_X7_number_79 d 77 l1 u2 u3 u4 l5 u7 s0 77 h K E := by
  show Ex d [] tb_X7_number (79, [some (.ref 77), some (.int l1), u2, u3, u4, some (.long l5), none, u7], [.int s0, .ref 77]) h _
  refine Ex.ask (rest := []) (j := m_X7_holds) (as := [.ref 77, .int s0]) (vst (a := 114) (b := 2) (c := 6) (rest := []) (vs := [.int s0]) rfl ⟨Nat.le_of_ble_eq_true rfl, Nat.le_of_ble_eq_true rfl⟩ rfl rfl (sg_77 hs)) ((t_X7_holds hs).mono (by omega) (fun _ _ z => z)) ?_
  rintro _ h1 ⟨rfl, e1⟩
  replace H := H h1 e1
  replace hs : Sg h1.1 y := by rw [e1]; exact hs
  show Ex d [] tb_X7_number (82, [some (.ref 77), some (.int l1), u2, u3, u4, some (.long l5), none, u7], [.int (bi (s0 = 0))]) h1 _
  refine Ex.br (x := (94, [some (.ref 77), some (.int l1), u2, u3, u4, some (.long l5), none, u7], [])) (y := (85, [some (.ref 77), some (.int l1), u2, u3, u4, some (.long l5), none, u7], [])) (b := (bi (s0 = 0)) = 0) rfl (fun hb => ?_) (fun hb => ?_)
  · replace H := H.2 (bi_eq.mp hb)
    exact Ex.vret rfl H
  · replace H := H.1 (bi_neq.mp hb)
    refine Ex.pure 5 (fr2 := (91, [some (.ref 77), some (.int l1), u2, u3, u4, some (.long l5), none, u7], [.int ((l5 : Int64).toInt32), .int 2, .int l1, .ref 77])) rfl ?_
    refine Ex.cal (rest := []) (j := m_X7_lays) (as := [.ref 77, .int l1, .int 2, .int ((l5 : Int64).toInt32)]) (vst (a := 118) (b := 4) (c := 6) (rest := []) (vs := [.int l1, .int 2, .int ((l5 : Int64).toInt32)]) rfl ⟨Nat.le_of_ble_eq_true rfl, Nat.le_of_ble_eq_true rfl⟩ rfl rfl (sg_77 hs)) (H.imp ?_)
    intro rv h2 H
    obtain ⟨rfl, H⟩ := H
    obtain ⟨hs, H⟩ := H
    show Ex d [] tb_X7_number (94, [some (.ref 77), some (.int l1), u2, u3, u4, some (.long l5), none, u7], []) h2 _
    exact Ex.vret rfl H
def b_X7_signs_26 (d : Nat) (r_0 : Nat) (l1 : Int32) (l2 : Int32) (l3 : Int32) (u4 : Option Int32) (u5 : Option Value) (u6 : Option Value) (h : XH) (K : XK) (E : XE) : Prop := Ex d [] tb_X7_signs (26, [some (.ref r_0), some (.int l1), some (.int l2), some (.int l3), (xoi u4), u5, u6], []) h (Po K E)
def b_X7_signs_27 (d : Nat) (r_0 : Nat) (l1 : Int32) (l2 : Int32) (l3 : Int32) (u4 : Option Int32) (u5 : Option Value) (u6 : Option Value) (s0 : Int32) (h : XH) (K : XK) (E : XE) : Prop := Ex d [] tb_X7_signs (27, [some (.ref r_0), some (.int l1), some (.int l2), some (.int l3), (xoi u4), u5, u6], [.int s0]) h (Po K E)
def b_X7_signs_51 (d : Nat) (r_0 : Nat) (l1 : Int32) (l2 : Int32) (l3 : Int32) (u4 : Option Int32) (u5 : Option Value) (u6 : Option Value) (s0 : Int32) (r_8 : Nat) (h : XH) (K : XK) (E : XE) : Prop := Ex d [] tb_X7_signs (51, [some (.ref r_0), some (.int l1), some (.int l2), some (.int l3), (xoi u4), u5, u6], [.int s0, .ref r_8]) h (Po K E)
def b_X7_signs_65 (d : Nat) (r_0 : Nat) (l1 : Int32) (l2 : Int32) (l3 : Int32) (u4 : Option Int32) (l5 : Int32) (u6 : Option Value) (h : XH) (K : XK) (E : XE) : Prop := Ex d [] tb_X7_signs (65, [some (.ref r_0), some (.int l1), some (.int l2), some (.int l3), (xoi u4), some (.int l5), u6], []) h (Po K E)
def b_X7_signs_87 (d : Nat) (r_0 : Nat) (l1 : Int32) (l2 : Int32) (l3 : Int32) (u4 : Option Int32) (l5 : Int32) (u6 : Option Value) (s0 : Int32) (r_8 : Nat) (h : XH) (K : XK) (E : XE) : Prop := Ex d [] tb_X7_signs (87, [some (.ref r_0), some (.int l1), some (.int l2), some (.int l3), (xoi u4), some (.int l5), u6], [.int s0, .ref r_8]) h (Po K E)
theorem w_X7_signs {d : Nat} {h : XH} {y : Nat → Nat} {K : XK} {E : XE} {a : Int32} {b : Int32} {c : Int32} (hd : 20 ≤ d) (hs : Sg h.1 y) (H : ((0 ≤ ((c : Int32).toInt64) ∧ ((c : Int32).toInt64) ≤ 20) → (b < 0 → b_X7_signs_26 d 77 a b c none none none h K E) ∧ (¬ (b < 0) → (¬ (b >>> (c &&& 31)) = 0 → b_X7_signs_26 d 77 a b c none none none h K E) ∧ (¬ (¬ (b >>> (c &&& 31)) = 0) → b_X7_signs_27 d 77 a b c none none none 1 h K E))) ∧ (¬ (0 ≤ ((c : Int32).toInt64) ∧ ((c : Int32).toInt64) ≤ 20) → b_X7_signs_26 d 77 a b c none none none h K E)) : Ca (d + 1) m_X7_signs [.ref 77, .int a, .int b, .int c] h K E := by
  refine Ca.of ⟨by show 4 ≤ 7; omega, rfl⟩ ?_
  show Ex d [] tb_X7_signs (0, [some (.ref 77), some (.int a), some (.int b), some (.int c), none, none, none], []) h _
  refine Ex.pure 4 (fr2 := (6, [some (.ref 77), some (.int a), some (.int b), some (.int c), none, none, none], [.long 20, .long 0, .long ((c : Int32).toInt64)])) rfl ?_
  refine Ex.ask (rest := []) (j := m_X7_isIn) (as := [.long ((c : Int32).toInt64), .long 0, .long 20]) (fun c => rfl) ((t_X7_isIn hs).mono (by omega) (fun _ _ z => z)) ?_
  rintro _ h0 ⟨rfl, e0⟩
  rw [e0]
  show Ex d [] tb_X7_signs (9, [some (.ref 77), some (.int a), some (.int b), some (.int c), none, none, none], [.int (bi (0 ≤ ((c : Int32).toInt64) ∧ ((c : Int32).toInt64) ≤ 20))]) h _
  refine Ex.br (x := (26, [some (.ref 77), some (.int a), some (.int b), some (.int c), none, none, none], [])) (y := (12, [some (.ref 77), some (.int a), some (.int b), some (.int c), none, none, none], [])) (b := (bi (0 ≤ ((c : Int32).toInt64) ∧ ((c : Int32).toInt64) ≤ 20)) = 0) rfl (fun hb => ?_) (fun hb => ?_)
  · replace H := H.2 (bi_eq.mp hb)
    exact H
  · replace H := H.1 (bi_neq.mp hb)
    refine Ex.pure 1 (fr2 := (13, [some (.ref 77), some (.int a), some (.int b), some (.int c), none, none, none], [.int b])) rfl ?_
    refine Ex.br (x := (26, [some (.ref 77), some (.int a), some (.int b), some (.int c), none, none, none], [])) (y := (16, [some (.ref 77), some (.int a), some (.int b), some (.int c), none, none, none], [])) (b := b < 0) rfl (fun hb => ?_) (fun hb => ?_)
    · replace H := H.1 (hb)
      exact H
    · replace H := H.2 (hb)
      refine Ex.pure 3 (fr2 := (19, [some (.ref 77), some (.int a), some (.int b), some (.int c), none, none, none], [.int (b >>> (c &&& 31))])) rfl ?_
      refine Ex.br (x := (26, [some (.ref 77), some (.int a), some (.int b), some (.int c), none, none, none], [])) (y := (22, [some (.ref 77), some (.int a), some (.int b), some (.int c), none, none, none], [])) (b := ¬ (b >>> (c &&& 31)) = 0) rfl (fun hb => ?_) (fun hb => ?_)
      · replace H := H.1 (hb)
        exact H
      · replace H := H.2 (hb)
        refine Ex.pure 2 (fr2 := (27, [some (.ref 77), some (.int a), some (.int b), some (.int c), none, none, none], [.int 1])) rfl ?_
        exact H
theorem w_X7_signs_26 {d : Nat} {h : XH} {y : Nat → Nat} {K : XK} {E : XE} {l1 : Int32} {l2 : Int32} {l3 : Int32} {u4 : Option Int32} {u5 : Option Value} {u6 : Option Value} (hd : 20 ≤ d) (hs : Sg h.1 y) (H : b_X7_signs_27 d 77 l1 l2 l3 u4 (u5) (u6) 0 h K E) : b_X7_signs_26 d 77 l1 l2 l3 u4 u5 u6 h K E := by
  cases u4 with
  | none =>
    show Ex d [] tb_X7_signs (26, [some (.ref 77), some (.int l1), some (.int l2), some (.int l3), (xoi none), u5, u6], []) h _
    refine Ex.pure 1 (fr2 := (27, [some (.ref 77), some (.int l1), some (.int l2), some (.int l3), (xoi none), u5, u6], [.int 0])) rfl ?_
    exact H
  | some v4 =>
    show Ex d [] tb_X7_signs (26, [some (.ref 77), some (.int l1), some (.int l2), some (.int l3), (xoi (some v4)), u5, u6], []) h _
    refine Ex.pure 1 (fr2 := (27, [some (.ref 77), some (.int l1), some (.int l2), some (.int l3), (xoi (some v4)), u5, u6], [.int 0])) rfl ?_
    exact H
theorem w_X7_signs_27 {d : Nat} {h : XH} {y : Nat → Nat} {K : XK} {E : XE} {l1 : Int32} {l2 : Int32} {l3 : Int32} {u4 : Option Int32} {u5 : Option Value} {u6 : Option Value} {s0 : Int32} (hd : 20 ≤ d) (hs : Sg h.1 y) (H : ((isp l1) → (¬ s0 = 0 → b_X7_signs_51 d 77 l1 l2 l3 (some s0) (u5) (u6) 0 77 h K E) ∧ (¬ (¬ s0 = 0) → b_X7_signs_51 d 77 l1 l2 l3 (some s0) (u5) (u6) 2 77 h K E)) ∧ (¬ (isp l1) → b_X7_signs_51 d 77 l1 l2 l3 (some s0) (u5) (u6) 1 77 h K E)) : b_X7_signs_27 d 77 l1 l2 l3 u4 u5 u6 s0 h K E := by
  cases u4 with
  | none =>
    show Ex d [] tb_X7_signs (27, [some (.ref 77), some (.int l1), some (.int l2), some (.int l3), (xoi none), u5, u6], [.int s0]) h _
    refine Ex.pure 3 (fr2 := (31, [some (.ref 77), some (.int l1), some (.int l2), some (.int l3), some (.int s0), u5, u6], [.int l1, .ref 77])) rfl ?_
    refine Ex.ask (rest := [.ref 77]) (j := m_X7_isPlace) (as := [.int l1]) (fun c => rfl) ((t_X7_isPlace hs).mono (by omega) (fun _ _ z => z)) ?_
    rintro _ h0 ⟨rfl, e0⟩
    rw [e0]
    show Ex d [] tb_X7_signs (34, [some (.ref 77), some (.int l1), some (.int l2), some (.int l3), some (.int s0), u5, u6], [.int (bi (isp l1)), .ref 77]) h _
    refine Ex.br (x := (41, [some (.ref 77), some (.int l1), some (.int l2), some (.int l3), some (.int s0), u5, u6], [.ref 77])) (y := (37, [some (.ref 77), some (.int l1), some (.int l2), some (.int l3), some (.int s0), u5, u6], [.ref 77])) (b := ¬ (bi (isp l1)) = 0) rfl (fun hb => ?_) (fun hb => ?_)
    · replace H := H.1 (bi_ne.mp hb)
      refine Ex.pure 1 (fr2 := (43, [some (.ref 77), some (.int l1), some (.int l2), some (.int l3), some (.int s0), u5, u6], [.int s0, .ref 77])) rfl ?_
      refine Ex.br (x := (50, [some (.ref 77), some (.int l1), some (.int l2), some (.int l3), some (.int s0), u5, u6], [.ref 77])) (y := (46, [some (.ref 77), some (.int l1), some (.int l2), some (.int l3), some (.int s0), u5, u6], [.ref 77])) (b := ¬ s0 = 0) rfl (fun hb => ?_) (fun hb => ?_)
      · replace H := H.1 (hb)
        refine Ex.pure 1 (fr2 := (51, [some (.ref 77), some (.int l1), some (.int l2), some (.int l3), some (.int s0), u5, u6], [.int 0, .ref 77])) rfl ?_
        exact H
      · replace H := H.2 (hb)
        refine Ex.pure 2 (fr2 := (51, [some (.ref 77), some (.int l1), some (.int l2), some (.int l3), some (.int s0), u5, u6], [.int 2, .ref 77])) rfl ?_
        exact H
    · replace H := H.2 (bi_nne.mp hb)
      refine Ex.pure 2 (fr2 := (51, [some (.ref 77), some (.int l1), some (.int l2), some (.int l3), some (.int s0), u5, u6], [.int 1, .ref 77])) rfl ?_
      exact H
  | some v4 =>
    show Ex d [] tb_X7_signs (27, [some (.ref 77), some (.int l1), some (.int l2), some (.int l3), (xoi (some v4)), u5, u6], [.int s0]) h _
    refine Ex.pure 3 (fr2 := (31, [some (.ref 77), some (.int l1), some (.int l2), some (.int l3), some (.int s0), u5, u6], [.int l1, .ref 77])) rfl ?_
    refine Ex.ask (rest := [.ref 77]) (j := m_X7_isPlace) (as := [.int l1]) (fun c => rfl) ((t_X7_isPlace hs).mono (by omega) (fun _ _ z => z)) ?_
    rintro _ h0 ⟨rfl, e0⟩
    rw [e0]
    show Ex d [] tb_X7_signs (34, [some (.ref 77), some (.int l1), some (.int l2), some (.int l3), some (.int s0), u5, u6], [.int (bi (isp l1)), .ref 77]) h _
    refine Ex.br (x := (41, [some (.ref 77), some (.int l1), some (.int l2), some (.int l3), some (.int s0), u5, u6], [.ref 77])) (y := (37, [some (.ref 77), some (.int l1), some (.int l2), some (.int l3), some (.int s0), u5, u6], [.ref 77])) (b := ¬ (bi (isp l1)) = 0) rfl (fun hb => ?_) (fun hb => ?_)
    · replace H := H.1 (bi_ne.mp hb)
      refine Ex.pure 1 (fr2 := (43, [some (.ref 77), some (.int l1), some (.int l2), some (.int l3), some (.int s0), u5, u6], [.int s0, .ref 77])) rfl ?_
      refine Ex.br (x := (50, [some (.ref 77), some (.int l1), some (.int l2), some (.int l3), some (.int s0), u5, u6], [.ref 77])) (y := (46, [some (.ref 77), some (.int l1), some (.int l2), some (.int l3), some (.int s0), u5, u6], [.ref 77])) (b := ¬ s0 = 0) rfl (fun hb => ?_) (fun hb => ?_)
      · replace H := H.1 (hb)
        refine Ex.pure 1 (fr2 := (51, [some (.ref 77), some (.int l1), some (.int l2), some (.int l3), some (.int s0), u5, u6], [.int 0, .ref 77])) rfl ?_
        exact H
      · replace H := H.2 (hb)
        refine Ex.pure 2 (fr2 := (51, [some (.ref 77), some (.int l1), some (.int l2), some (.int l3), some (.int s0), u5, u6], [.int 2, .ref 77])) rfl ?_
        exact H
    · replace H := H.2 (bi_nne.mp hb)
      refine Ex.pure 2 (fr2 := (51, [some (.ref 77), some (.int l1), some (.int l2), some (.int l3), some (.int s0), u5, u6], [.int 1, .ref 77])) rfl ?_
      exact H
theorem w_X7_signs_51 {d : Nat} {h : XH} {y : Nat → Nat} {K : XK} {E : XE} {l1 : Int32} {l2 : Int32} {l3 : Int32} {u4 : Option Int32} {u5 : Option Value} {u6 : Option Value} {s0 : Int32} (hd : 20 ≤ d) (hs : Sg h.1 y) (H : (∀ h1 : XH, h1 = (x_setI h 77 0 s0) → ((s0 = 0) → (Ca d m_X7_begins [.ref 77] h1 (fun rv h2 => rv = none ∧ Sg h2.1 y ∧ b_X7_signs_65 d 77 l1 l2 l3 u4 0 (u6) h2 K E) E)) ∧ (¬ (s0 = 0) → K none h1))) : b_X7_signs_51 d 77 l1 l2 l3 u4 u5 u6 s0 77 h K E := by
  cases u4 with
  | none =>
    show Ex d [] tb_X7_signs (51, [some (.ref 77), some (.int l1), some (.int l2), some (.int l3), (xoi none), u5, u6], [.int s0, .ref 77]) h _
    refine Ex.ask (rest := []) (j := m_X7_holds) (as := [.ref 77, .int s0]) (vst (a := 114) (b := 2) (c := 6) (rest := []) (vs := [.int s0]) rfl ⟨Nat.le_of_ble_eq_true rfl, Nat.le_of_ble_eq_true rfl⟩ rfl rfl (sg_77 hs)) ((t_X7_holds hs).mono (by omega) (fun _ _ z => z)) ?_
    rintro _ h1 ⟨rfl, e1⟩
    replace H := H h1 e1
    replace hs : Sg h1.1 y := by rw [e1]; exact hs
    show Ex d [] tb_X7_signs (54, [some (.ref 77), some (.int l1), some (.int l2), some (.int l3), (xoi none), u5, u6], [.int (bi (s0 = 0))]) h1 _
    refine Ex.br (x := (58, [some (.ref 77), some (.int l1), some (.int l2), some (.int l3), (xoi none), u5, u6], [])) (y := (57, [some (.ref 77), some (.int l1), some (.int l2), some (.int l3), (xoi none), u5, u6], [])) (b := ¬ (bi (s0 = 0)) = 0) rfl (fun hb => ?_) (fun hb => ?_)
    · replace H := H.1 (bi_ne.mp hb)
      refine Ex.pure 1 (fr2 := (59, [some (.ref 77), some (.int l1), some (.int l2), some (.int l3), (xoi none), u5, u6], [.ref 77])) rfl ?_
      refine Ex.cal (rest := []) (j := m_X7_begins) (as := [.ref 77]) (vst (a := 143) (b := 1) (c := 6) (rest := []) (vs := []) rfl ⟨Nat.le_of_ble_eq_true rfl, Nat.le_of_ble_eq_true rfl⟩ rfl rfl (sg_77 hs)) (H.imp ?_)
      intro rv h2 H
      obtain ⟨rfl, H⟩ := H
      obtain ⟨hs, H⟩ := H
      show Ex d [] tb_X7_signs (62, [some (.ref 77), some (.int l1), some (.int l2), some (.int l3), (xoi none), u5, u6], []) h2 _
      refine Ex.pure 2 (fr2 := (65, [some (.ref 77), some (.int l1), some (.int l2), some (.int l3), (xoi none), some (.int 0), u6], [])) rfl ?_
      exact H
    · replace H := H.2 (bi_nne.mp hb)
      exact Ex.vret rfl H
  | some v4 =>
    show Ex d [] tb_X7_signs (51, [some (.ref 77), some (.int l1), some (.int l2), some (.int l3), (xoi (some v4)), u5, u6], [.int s0, .ref 77]) h _
    refine Ex.ask (rest := []) (j := m_X7_holds) (as := [.ref 77, .int s0]) (vst (a := 114) (b := 2) (c := 6) (rest := []) (vs := [.int s0]) rfl ⟨Nat.le_of_ble_eq_true rfl, Nat.le_of_ble_eq_true rfl⟩ rfl rfl (sg_77 hs)) ((t_X7_holds hs).mono (by omega) (fun _ _ z => z)) ?_
    rintro _ h1 ⟨rfl, e1⟩
    replace H := H h1 e1
    replace hs : Sg h1.1 y := by rw [e1]; exact hs
    show Ex d [] tb_X7_signs (54, [some (.ref 77), some (.int l1), some (.int l2), some (.int l3), (xoi (some v4)), u5, u6], [.int (bi (s0 = 0))]) h1 _
    refine Ex.br (x := (58, [some (.ref 77), some (.int l1), some (.int l2), some (.int l3), (xoi (some v4)), u5, u6], [])) (y := (57, [some (.ref 77), some (.int l1), some (.int l2), some (.int l3), (xoi (some v4)), u5, u6], [])) (b := ¬ (bi (s0 = 0)) = 0) rfl (fun hb => ?_) (fun hb => ?_)
    · replace H := H.1 (bi_ne.mp hb)
      refine Ex.pure 1 (fr2 := (59, [some (.ref 77), some (.int l1), some (.int l2), some (.int l3), (xoi (some v4)), u5, u6], [.ref 77])) rfl ?_
      refine Ex.cal (rest := []) (j := m_X7_begins) (as := [.ref 77]) (vst (a := 143) (b := 1) (c := 6) (rest := []) (vs := []) rfl ⟨Nat.le_of_ble_eq_true rfl, Nat.le_of_ble_eq_true rfl⟩ rfl rfl (sg_77 hs)) (H.imp ?_)
      intro rv h2 H
      obtain ⟨rfl, H⟩ := H
      obtain ⟨hs, H⟩ := H
      show Ex d [] tb_X7_signs (62, [some (.ref 77), some (.int l1), some (.int l2), some (.int l3), (xoi (some v4)), u5, u6], []) h2 _
      refine Ex.pure 2 (fr2 := (65, [some (.ref 77), some (.int l1), some (.int l2), some (.int l3), (xoi (some v4)), some (.int 0), u6], [])) rfl ?_
      exact H
    · replace H := H.2 (bi_nne.mp hb)
      exact Ex.vret rfl H
theorem w_X7_signs_65 {d : Nat} {h : XH} {y : Nat → Nat} {K : XK} {E : XE} {l1 : Int32} {l2 : Int32} {l3 : Int32} {u4 : Option Int32} {l5 : Int32} {u6 : Option Value} (hd : 20 ≤ d) (hs : Sg h.1 y) (H : (l3 ≤ l5 → (Ca d m_X7_lays [.ref 77, .int l1, .int 2, .int (((h.2.2.1 77 25) : Int64).toInt32)] h (fun rv h1 => rv = none ∧ Sg h1.1 y ∧ K none h1) E)) ∧ (¬ (l3 ≤ l5) → (¬ ((l2 >>> (l5 &&& 31)) &&& 1) = 1 → b_X7_signs_87 d 77 l1 l2 l3 u4 l5 (u6) 0 77 h K E) ∧ (¬ (¬ ((l2 >>> (l5 &&& 31)) &&& 1) = 1) → b_X7_signs_87 d 77 l1 l2 l3 u4 l5 (u6) 1 77 h K E))) : b_X7_signs_65 d 77 l1 l2 l3 u4 l5 u6 h K E := by
  cases u4 with
  | none =>
    show Ex d [] tb_X7_signs (65, [some (.ref 77), some (.int l1), some (.int l2), some (.int l3), (xoi none), some (.int l5), u6], []) h _
    refine Ex.pure 2 (fr2 := (68, [some (.ref 77), some (.int l1), some (.int l2), some (.int l3), (xoi none), some (.int l5), u6], [.int l3, .int l5])) rfl ?_
    refine Ex.br (x := (98, [some (.ref 77), some (.int l1), some (.int l2), some (.int l3), (xoi none), some (.int l5), u6], [])) (y := (71, [some (.ref 77), some (.int l1), some (.int l2), some (.int l3), (xoi none), some (.int l5), u6], [])) (b := l3 ≤ l5) rfl (fun hb => ?_) (fun hb => ?_)
    · replace H := H.1 (hb)
      refine Ex.pure 4 (fr2 := (102, [some (.ref 77), some (.int l1), some (.int l2), some (.int l3), (xoi none), some (.int l5), u6], [.ref 77, .int 2, .int l1, .ref 77])) rfl ?_
      refine Ex.getJ rfl (sg_77 hs) ?_
      refine Ex.pure 1 (fr2 := (106, [some (.ref 77), some (.int l1), some (.int l2), some (.int l3), (xoi none), some (.int l5), u6], [.int (((h.2.2.1 77 25) : Int64).toInt32), .int 2, .int l1, .ref 77])) rfl ?_
      refine Ex.cal (rest := []) (j := m_X7_lays) (as := [.ref 77, .int l1, .int 2, .int (((h.2.2.1 77 25) : Int64).toInt32)]) (vst (a := 118) (b := 4) (c := 6) (rest := []) (vs := [.int l1, .int 2, .int (((h.2.2.1 77 25) : Int64).toInt32)]) rfl ⟨Nat.le_of_ble_eq_true rfl, Nat.le_of_ble_eq_true rfl⟩ rfl rfl (sg_77 hs)) (H.imp ?_)
      intro rv h1 H
      obtain ⟨rfl, H⟩ := H
      obtain ⟨hs, H⟩ := H
      show Ex d [] tb_X7_signs (109, [some (.ref 77), some (.int l1), some (.int l2), some (.int l3), (xoi none), some (.int l5), u6], []) h1 _
      exact Ex.vret rfl H
    · replace H := H.2 (hb)
      refine Ex.pure 7 (fr2 := (79, [some (.ref 77), some (.int l1), some (.int l2), some (.int l3), (xoi none), some (.int l5), u6], [.int 1, .int ((l2 >>> (l5 &&& 31)) &&& 1), .ref 77])) rfl ?_
      refine Ex.br (x := (86, [some (.ref 77), some (.int l1), some (.int l2), some (.int l3), (xoi none), some (.int l5), u6], [.ref 77])) (y := (82, [some (.ref 77), some (.int l1), some (.int l2), some (.int l3), (xoi none), some (.int l5), u6], [.ref 77])) (b := ¬ ((l2 >>> (l5 &&& 31)) &&& 1) = 1) rfl (fun hb => ?_) (fun hb => ?_)
      · replace H := H.1 (hb)
        refine Ex.pure 1 (fr2 := (87, [some (.ref 77), some (.int l1), some (.int l2), some (.int l3), (xoi none), some (.int l5), u6], [.int 0, .ref 77])) rfl ?_
        exact H
      · replace H := H.2 (hb)
        refine Ex.pure 2 (fr2 := (87, [some (.ref 77), some (.int l1), some (.int l2), some (.int l3), (xoi none), some (.int l5), u6], [.int 1, .ref 77])) rfl ?_
        exact H
  | some v4 =>
    show Ex d [] tb_X7_signs (65, [some (.ref 77), some (.int l1), some (.int l2), some (.int l3), (xoi (some v4)), some (.int l5), u6], []) h _
    refine Ex.pure 2 (fr2 := (68, [some (.ref 77), some (.int l1), some (.int l2), some (.int l3), (xoi (some v4)), some (.int l5), u6], [.int l3, .int l5])) rfl ?_
    refine Ex.br (x := (98, [some (.ref 77), some (.int l1), some (.int l2), some (.int l3), (xoi (some v4)), some (.int l5), u6], [])) (y := (71, [some (.ref 77), some (.int l1), some (.int l2), some (.int l3), (xoi (some v4)), some (.int l5), u6], [])) (b := l3 ≤ l5) rfl (fun hb => ?_) (fun hb => ?_)
    · replace H := H.1 (hb)
      refine Ex.pure 4 (fr2 := (102, [some (.ref 77), some (.int l1), some (.int l2), some (.int l3), (xoi (some v4)), some (.int l5), u6], [.ref 77, .int 2, .int l1, .ref 77])) rfl ?_
      refine Ex.getJ rfl (sg_77 hs) ?_
      refine Ex.pure 1 (fr2 := (106, [some (.ref 77), some (.int l1), some (.int l2), some (.int l3), (xoi (some v4)), some (.int l5), u6], [.int (((h.2.2.1 77 25) : Int64).toInt32), .int 2, .int l1, .ref 77])) rfl ?_
      refine Ex.cal (rest := []) (j := m_X7_lays) (as := [.ref 77, .int l1, .int 2, .int (((h.2.2.1 77 25) : Int64).toInt32)]) (vst (a := 118) (b := 4) (c := 6) (rest := []) (vs := [.int l1, .int 2, .int (((h.2.2.1 77 25) : Int64).toInt32)]) rfl ⟨Nat.le_of_ble_eq_true rfl, Nat.le_of_ble_eq_true rfl⟩ rfl rfl (sg_77 hs)) (H.imp ?_)
      intro rv h1 H
      obtain ⟨rfl, H⟩ := H
      obtain ⟨hs, H⟩ := H
      show Ex d [] tb_X7_signs (109, [some (.ref 77), some (.int l1), some (.int l2), some (.int l3), (xoi (some v4)), some (.int l5), u6], []) h1 _
      exact Ex.vret rfl H
    · replace H := H.2 (hb)
      refine Ex.pure 7 (fr2 := (79, [some (.ref 77), some (.int l1), some (.int l2), some (.int l3), (xoi (some v4)), some (.int l5), u6], [.int 1, .int ((l2 >>> (l5 &&& 31)) &&& 1), .ref 77])) rfl ?_
      refine Ex.br (x := (86, [some (.ref 77), some (.int l1), some (.int l2), some (.int l3), (xoi (some v4)), some (.int l5), u6], [.ref 77])) (y := (82, [some (.ref 77), some (.int l1), some (.int l2), some (.int l3), (xoi (some v4)), some (.int l5), u6], [.ref 77])) (b := ¬ ((l2 >>> (l5 &&& 31)) &&& 1) = 1) rfl (fun hb => ?_) (fun hb => ?_)
      · replace H := H.1 (hb)
        refine Ex.pure 1 (fr2 := (87, [some (.ref 77), some (.int l1), some (.int l2), some (.int l3), (xoi (some v4)), some (.int l5), u6], [.int 0, .ref 77])) rfl ?_
        exact H
      · replace H := H.2 (hb)
        refine Ex.pure 2 (fr2 := (87, [some (.ref 77), some (.int l1), some (.int l2), some (.int l3), (xoi (some v4)), some (.int l5), u6], [.int 1, .ref 77])) rfl ?_
        exact H
theorem w_X7_signs_87 {d : Nat} {h : XH} {y : Nat → Nat} {K : XK} {E : XE} {l1 : Int32} {l2 : Int32} {l3 : Int32} {u4 : Option Int32} {l5 : Int32} {u6 : Option Value} {s0 : Int32} (hd : 20 ≤ d) (hs : Sg h.1 y) (H : (Ca d m_X7_goes [.ref 77, .int s0] h (fun rv h1 => ∃ x2, rv = some (.int x2) ∧ Sg h1.1 y ∧ b_X7_signs_65 d 77 l1 l2 l3 u4 (l5 + 1) (some (.int x2)) h1 K E) E)) : b_X7_signs_87 d 77 l1 l2 l3 u4 l5 u6 s0 77 h K E := by
  cases u4 with
  | none =>
    show Ex d [] tb_X7_signs (87, [some (.ref 77), some (.int l1), some (.int l2), some (.int l3), (xoi none), some (.int l5), u6], [.int s0, .ref 77]) h _
    refine Ex.cal (rest := []) (j := m_X7_goes) (as := [.ref 77, .int s0]) (vst (a := 144) (b := 2) (c := 6) (rest := []) (vs := [.int s0]) rfl ⟨Nat.le_of_ble_eq_true rfl, Nat.le_of_ble_eq_true rfl⟩ rfl rfl (sg_77 hs)) (H.imp ?_)
    intro rv h1 H
    obtain ⟨x2, rfl, H⟩ := H
    obtain ⟨hs, H⟩ := H
    show Ex d [] tb_X7_signs (90, [some (.ref 77), some (.int l1), some (.int l2), some (.int l3), (xoi none), some (.int l5), u6], [.int x2]) h1 _
    refine Ex.pure 3 (fr2 := (65, [some (.ref 77), some (.int l1), some (.int l2), some (.int l3), (xoi none), some (.int (l5 + 1)), some (.int x2)], [])) rfl ?_
    exact H
  | some v4 =>
    show Ex d [] tb_X7_signs (87, [some (.ref 77), some (.int l1), some (.int l2), some (.int l3), (xoi (some v4)), some (.int l5), u6], [.int s0, .ref 77]) h _
    refine Ex.cal (rest := []) (j := m_X7_goes) (as := [.ref 77, .int s0]) (vst (a := 144) (b := 2) (c := 6) (rest := []) (vs := [.int s0]) rfl ⟨Nat.le_of_ble_eq_true rfl, Nat.le_of_ble_eq_true rfl⟩ rfl rfl (sg_77 hs)) (H.imp ?_)
    intro rv h1 H
    obtain ⟨x2, rfl, H⟩ := H
    obtain ⟨hs, H⟩ := H
    show Ex d [] tb_X7_signs (90, [some (.ref 77), some (.int l1), some (.int l2), some (.int l3), (xoi (some v4)), some (.int l5), u6], [.int x2]) h1 _
    refine Ex.pure 3 (fr2 := (65, [some (.ref 77), some (.int l1), some (.int l2), some (.int l3), (xoi (some v4)), some (.int (l5 + 1)), some (.int x2)], [])) rfl ?_
    exact H
def b_X7_term_77 (d : Nat) (r_0 : Nat) (l1 : Int32) (l2 : Int32) (l3 : Int32) (l4 : Int32) (l5 : Int32) (l6 : Int32) (u7 : Option Int32) (u8 : Option Value) (h : XH) (K : XK) (E : XE) : Prop := Ex d [] tb_X7_term (77, [some (.ref r_0), some (.int l1), some (.int l2), some (.int l3), some (.int l4), some (.int l5), some (.int l6), (xoi u7), u8], []) h (Po K E)
def b_X7_term_78 (d : Nat) (r_0 : Nat) (l1 : Int32) (l2 : Int32) (l3 : Int32) (l4 : Int32) (l5 : Int32) (l6 : Int32) (u7 : Option Int32) (u8 : Option Value) (s0 : Int32) (h : XH) (K : XK) (E : XE) : Prop := Ex d [] tb_X7_term (78, [some (.ref r_0), some (.int l1), some (.int l2), some (.int l3), some (.int l4), some (.int l5), some (.int l6), (xoi u7), u8], [.int s0]) h (Po K E)
def b_X7_term_102 (d : Nat) (r_0 : Nat) (l1 : Int32) (l2 : Int32) (l3 : Int32) (l4 : Int32) (l5 : Int32) (l6 : Int32) (u7 : Option Int32) (u8 : Option Value) (s0 : Int32) (r_10 : Nat) (h : XH) (K : XK) (E : XE) : Prop := Ex d [] tb_X7_term (102, [some (.ref r_0), some (.int l1), some (.int l2), some (.int l3), some (.int l4), some (.int l5), some (.int l6), (xoi u7), u8], [.int s0, .ref r_10]) h (Po K E)
theorem w_X7_term {d : Nat} {h : XH} {y : Nat → Nat} {K : XK} {E : XE} {a : Int32} {b : Int32} {c : Int32} {e : Int32} {f : Int32} {g : Int32} (hd : 20 ≤ d) (hs : Sg h.1 y) (H : (((-1000000) ≤ ((b : Int32).toInt64) ∧ ((b : Int32).toInt64) ≤ 1000000) → (((-20) ≤ ((c : Int32).toInt64) ∧ ((c : Int32).toInt64) ≤ 20) → (((-20) ≤ ((e : Int32).toInt64) ∧ ((e : Int32).toInt64) ≤ 20) → (((-20) ≤ ((f : Int32).toInt64) ∧ ((f : Int32).toInt64) ≤ 20) → (((-20) ≤ ((g : Int32).toInt64) ∧ ((g : Int32).toInt64) ≤ 20) → b_X7_term_78 d 77 a b c e f g none none 1 h K E) ∧ (¬ ((-20) ≤ ((g : Int32).toInt64) ∧ ((g : Int32).toInt64) ≤ 20) → b_X7_term_77 d 77 a b c e f g none none h K E)) ∧ (¬ ((-20) ≤ ((f : Int32).toInt64) ∧ ((f : Int32).toInt64) ≤ 20) → b_X7_term_77 d 77 a b c e f g none none h K E)) ∧ (¬ ((-20) ≤ ((e : Int32).toInt64) ∧ ((e : Int32).toInt64) ≤ 20) → b_X7_term_77 d 77 a b c e f g none none h K E)) ∧ (¬ ((-20) ≤ ((c : Int32).toInt64) ∧ ((c : Int32).toInt64) ≤ 20) → b_X7_term_77 d 77 a b c e f g none none h K E)) ∧ (¬ ((-1000000) ≤ ((b : Int32).toInt64) ∧ ((b : Int32).toInt64) ≤ 1000000) → b_X7_term_77 d 77 a b c e f g none none h K E)) : Ca (d + 1) m_X7_term [.ref 77, .int a, .int b, .int c, .int e, .int f, .int g] h K E := by
  refine Ca.of ⟨by show 7 ≤ 9; omega, rfl⟩ ?_
  show Ex d [] tb_X7_term (0, [some (.ref 77), some (.int a), some (.int b), some (.int c), some (.int e), some (.int f), some (.int g), none, none], []) h _
  refine Ex.pure 4 (fr2 := (8, [some (.ref 77), some (.int a), some (.int b), some (.int c), some (.int e), some (.int f), some (.int g), none, none], [.long 1000000, .long (-1000000), .long ((b : Int32).toInt64)])) rfl ?_
  refine Ex.ask (rest := []) (j := m_X7_isIn) (as := [.long ((b : Int32).toInt64), .long (-1000000), .long 1000000]) (fun c => rfl) ((t_X7_isIn hs).mono (by omega) (fun _ _ z => z)) ?_
  rintro _ h0 ⟨rfl, e0⟩
  rw [e0]
  show Ex d [] tb_X7_term (11, [some (.ref 77), some (.int a), some (.int b), some (.int c), some (.int e), some (.int f), some (.int g), none, none], [.int (bi ((-1000000) ≤ ((b : Int32).toInt64) ∧ ((b : Int32).toInt64) ≤ 1000000))]) h _
  refine Ex.br (x := (77, [some (.ref 77), some (.int a), some (.int b), some (.int c), some (.int e), some (.int f), some (.int g), none, none], [])) (y := (14, [some (.ref 77), some (.int a), some (.int b), some (.int c), some (.int e), some (.int f), some (.int g), none, none], [])) (b := (bi ((-1000000) ≤ ((b : Int32).toInt64) ∧ ((b : Int32).toInt64) ≤ 1000000)) = 0) rfl (fun hb => ?_) (fun hb => ?_)
  · replace H := H.2 (bi_eq.mp hb)
    exact H
  · replace H := H.1 (bi_neq.mp hb)
    refine Ex.pure 4 (fr2 := (22, [some (.ref 77), some (.int a), some (.int b), some (.int c), some (.int e), some (.int f), some (.int g), none, none], [.long 20, .long (-20), .long ((c : Int32).toInt64)])) rfl ?_
    refine Ex.ask (rest := []) (j := m_X7_isIn) (as := [.long ((c : Int32).toInt64), .long (-20), .long 20]) (fun c => rfl) ((t_X7_isIn hs).mono (by omega) (fun _ _ z => z)) ?_
    rintro _ h0 ⟨rfl, e0⟩
    rw [e0]
    show Ex d [] tb_X7_term (25, [some (.ref 77), some (.int a), some (.int b), some (.int c), some (.int e), some (.int f), some (.int g), none, none], [.int (bi ((-20) ≤ ((c : Int32).toInt64) ∧ ((c : Int32).toInt64) ≤ 20))]) h _
    refine Ex.br (x := (77, [some (.ref 77), some (.int a), some (.int b), some (.int c), some (.int e), some (.int f), some (.int g), none, none], [])) (y := (28, [some (.ref 77), some (.int a), some (.int b), some (.int c), some (.int e), some (.int f), some (.int g), none, none], [])) (b := (bi ((-20) ≤ ((c : Int32).toInt64) ∧ ((c : Int32).toInt64) ≤ 20)) = 0) rfl (fun hb => ?_) (fun hb => ?_)
    · replace H := H.2 (bi_eq.mp hb)
      exact H
    · replace H := H.1 (bi_neq.mp hb)
      refine Ex.pure 4 (fr2 := (37, [some (.ref 77), some (.int a), some (.int b), some (.int c), some (.int e), some (.int f), some (.int g), none, none], [.long 20, .long (-20), .long ((e : Int32).toInt64)])) rfl ?_
      refine Ex.ask (rest := []) (j := m_X7_isIn) (as := [.long ((e : Int32).toInt64), .long (-20), .long 20]) (fun c => rfl) ((t_X7_isIn hs).mono (by omega) (fun _ _ z => z)) ?_
      rintro _ h0 ⟨rfl, e0⟩
      rw [e0]
      show Ex d [] tb_X7_term (40, [some (.ref 77), some (.int a), some (.int b), some (.int c), some (.int e), some (.int f), some (.int g), none, none], [.int (bi ((-20) ≤ ((e : Int32).toInt64) ∧ ((e : Int32).toInt64) ≤ 20))]) h _
      refine Ex.br (x := (77, [some (.ref 77), some (.int a), some (.int b), some (.int c), some (.int e), some (.int f), some (.int g), none, none], [])) (y := (43, [some (.ref 77), some (.int a), some (.int b), some (.int c), some (.int e), some (.int f), some (.int g), none, none], [])) (b := (bi ((-20) ≤ ((e : Int32).toInt64) ∧ ((e : Int32).toInt64) ≤ 20)) = 0) rfl (fun hb => ?_) (fun hb => ?_)
      · replace H := H.2 (bi_eq.mp hb)
        exact H
      · replace H := H.1 (bi_neq.mp hb)
        refine Ex.pure 4 (fr2 := (52, [some (.ref 77), some (.int a), some (.int b), some (.int c), some (.int e), some (.int f), some (.int g), none, none], [.long 20, .long (-20), .long ((f : Int32).toInt64)])) rfl ?_
        refine Ex.ask (rest := []) (j := m_X7_isIn) (as := [.long ((f : Int32).toInt64), .long (-20), .long 20]) (fun c => rfl) ((t_X7_isIn hs).mono (by omega) (fun _ _ z => z)) ?_
        rintro _ h0 ⟨rfl, e0⟩
        rw [e0]
        show Ex d [] tb_X7_term (55, [some (.ref 77), some (.int a), some (.int b), some (.int c), some (.int e), some (.int f), some (.int g), none, none], [.int (bi ((-20) ≤ ((f : Int32).toInt64) ∧ ((f : Int32).toInt64) ≤ 20))]) h _
        refine Ex.br (x := (77, [some (.ref 77), some (.int a), some (.int b), some (.int c), some (.int e), some (.int f), some (.int g), none, none], [])) (y := (58, [some (.ref 77), some (.int a), some (.int b), some (.int c), some (.int e), some (.int f), some (.int g), none, none], [])) (b := (bi ((-20) ≤ ((f : Int32).toInt64) ∧ ((f : Int32).toInt64) ≤ 20)) = 0) rfl (fun hb => ?_) (fun hb => ?_)
        · replace H := H.2 (bi_eq.mp hb)
          exact H
        · replace H := H.1 (bi_neq.mp hb)
          refine Ex.pure 4 (fr2 := (67, [some (.ref 77), some (.int a), some (.int b), some (.int c), some (.int e), some (.int f), some (.int g), none, none], [.long 20, .long (-20), .long ((g : Int32).toInt64)])) rfl ?_
          refine Ex.ask (rest := []) (j := m_X7_isIn) (as := [.long ((g : Int32).toInt64), .long (-20), .long 20]) (fun c => rfl) ((t_X7_isIn hs).mono (by omega) (fun _ _ z => z)) ?_
          rintro _ h0 ⟨rfl, e0⟩
          rw [e0]
          show Ex d [] tb_X7_term (70, [some (.ref 77), some (.int a), some (.int b), some (.int c), some (.int e), some (.int f), some (.int g), none, none], [.int (bi ((-20) ≤ ((g : Int32).toInt64) ∧ ((g : Int32).toInt64) ≤ 20))]) h _
          refine Ex.br (x := (77, [some (.ref 77), some (.int a), some (.int b), some (.int c), some (.int e), some (.int f), some (.int g), none, none], [])) (y := (73, [some (.ref 77), some (.int a), some (.int b), some (.int c), some (.int e), some (.int f), some (.int g), none, none], [])) (b := (bi ((-20) ≤ ((g : Int32).toInt64) ∧ ((g : Int32).toInt64) ≤ 20)) = 0) rfl (fun hb => ?_) (fun hb => ?_)
          · replace H := H.2 (bi_eq.mp hb)
            exact H
          · replace H := H.1 (bi_neq.mp hb)
            refine Ex.pure 2 (fr2 := (78, [some (.ref 77), some (.int a), some (.int b), some (.int c), some (.int e), some (.int f), some (.int g), none, none], [.int 1])) rfl ?_
            exact H
theorem w_X7_term_77 {d : Nat} {h : XH} {y : Nat → Nat} {K : XK} {E : XE} {l1 : Int32} {l2 : Int32} {l3 : Int32} {l4 : Int32} {l5 : Int32} {l6 : Int32} {u7 : Option Int32} {u8 : Option Value} (hd : 20 ≤ d) (hs : Sg h.1 y) (H : b_X7_term_78 d 77 l1 l2 l3 l4 l5 l6 u7 (u8) 0 h K E) : b_X7_term_77 d 77 l1 l2 l3 l4 l5 l6 u7 u8 h K E := by
  cases u7 with
  | none =>
    show Ex d [] tb_X7_term (77, [some (.ref 77), some (.int l1), some (.int l2), some (.int l3), some (.int l4), some (.int l5), some (.int l6), (xoi none), u8], []) h _
    refine Ex.pure 1 (fr2 := (78, [some (.ref 77), some (.int l1), some (.int l2), some (.int l3), some (.int l4), some (.int l5), some (.int l6), (xoi none), u8], [.int 0])) rfl ?_
    exact H
  | some v7 =>
    show Ex d [] tb_X7_term (77, [some (.ref 77), some (.int l1), some (.int l2), some (.int l3), some (.int l4), some (.int l5), some (.int l6), (xoi (some v7)), u8], []) h _
    refine Ex.pure 1 (fr2 := (78, [some (.ref 77), some (.int l1), some (.int l2), some (.int l3), some (.int l4), some (.int l5), some (.int l6), (xoi (some v7)), u8], [.int 0])) rfl ?_
    exact H
theorem w_X7_term_78 {d : Nat} {h : XH} {y : Nat → Nat} {K : XK} {E : XE} {l1 : Int32} {l2 : Int32} {l3 : Int32} {l4 : Int32} {l5 : Int32} {l6 : Int32} {u7 : Option Int32} {u8 : Option Value} {s0 : Int32} (hd : 20 ≤ d) (hs : Sg h.1 y) (H : ((isp l1) → (¬ s0 = 0 → b_X7_term_102 d 77 l1 l2 l3 l4 l5 l6 (some s0) (u8) 0 77 h K E) ∧ (¬ (¬ s0 = 0) → b_X7_term_102 d 77 l1 l2 l3 l4 l5 l6 (some s0) (u8) 2 77 h K E)) ∧ (¬ (isp l1) → b_X7_term_102 d 77 l1 l2 l3 l4 l5 l6 (some s0) (u8) 1 77 h K E)) : b_X7_term_78 d 77 l1 l2 l3 l4 l5 l6 u7 u8 s0 h K E := by
  cases u7 with
  | none =>
    show Ex d [] tb_X7_term (78, [some (.ref 77), some (.int l1), some (.int l2), some (.int l3), some (.int l4), some (.int l5), some (.int l6), (xoi none), u8], [.int s0]) h _
    refine Ex.pure 3 (fr2 := (82, [some (.ref 77), some (.int l1), some (.int l2), some (.int l3), some (.int l4), some (.int l5), some (.int l6), some (.int s0), u8], [.int l1, .ref 77])) rfl ?_
    refine Ex.ask (rest := [.ref 77]) (j := m_X7_isPlace) (as := [.int l1]) (fun c => rfl) ((t_X7_isPlace hs).mono (by omega) (fun _ _ z => z)) ?_
    rintro _ h0 ⟨rfl, e0⟩
    rw [e0]
    show Ex d [] tb_X7_term (85, [some (.ref 77), some (.int l1), some (.int l2), some (.int l3), some (.int l4), some (.int l5), some (.int l6), some (.int s0), u8], [.int (bi (isp l1)), .ref 77]) h _
    refine Ex.br (x := (92, [some (.ref 77), some (.int l1), some (.int l2), some (.int l3), some (.int l4), some (.int l5), some (.int l6), some (.int s0), u8], [.ref 77])) (y := (88, [some (.ref 77), some (.int l1), some (.int l2), some (.int l3), some (.int l4), some (.int l5), some (.int l6), some (.int s0), u8], [.ref 77])) (b := ¬ (bi (isp l1)) = 0) rfl (fun hb => ?_) (fun hb => ?_)
    · replace H := H.1 (bi_ne.mp hb)
      refine Ex.pure 1 (fr2 := (94, [some (.ref 77), some (.int l1), some (.int l2), some (.int l3), some (.int l4), some (.int l5), some (.int l6), some (.int s0), u8], [.int s0, .ref 77])) rfl ?_
      refine Ex.br (x := (101, [some (.ref 77), some (.int l1), some (.int l2), some (.int l3), some (.int l4), some (.int l5), some (.int l6), some (.int s0), u8], [.ref 77])) (y := (97, [some (.ref 77), some (.int l1), some (.int l2), some (.int l3), some (.int l4), some (.int l5), some (.int l6), some (.int s0), u8], [.ref 77])) (b := ¬ s0 = 0) rfl (fun hb => ?_) (fun hb => ?_)
      · replace H := H.1 (hb)
        refine Ex.pure 1 (fr2 := (102, [some (.ref 77), some (.int l1), some (.int l2), some (.int l3), some (.int l4), some (.int l5), some (.int l6), some (.int s0), u8], [.int 0, .ref 77])) rfl ?_
        exact H
      · replace H := H.2 (hb)
        refine Ex.pure 2 (fr2 := (102, [some (.ref 77), some (.int l1), some (.int l2), some (.int l3), some (.int l4), some (.int l5), some (.int l6), some (.int s0), u8], [.int 2, .ref 77])) rfl ?_
        exact H
    · replace H := H.2 (bi_nne.mp hb)
      refine Ex.pure 2 (fr2 := (102, [some (.ref 77), some (.int l1), some (.int l2), some (.int l3), some (.int l4), some (.int l5), some (.int l6), some (.int s0), u8], [.int 1, .ref 77])) rfl ?_
      exact H
  | some v7 =>
    show Ex d [] tb_X7_term (78, [some (.ref 77), some (.int l1), some (.int l2), some (.int l3), some (.int l4), some (.int l5), some (.int l6), (xoi (some v7)), u8], [.int s0]) h _
    refine Ex.pure 3 (fr2 := (82, [some (.ref 77), some (.int l1), some (.int l2), some (.int l3), some (.int l4), some (.int l5), some (.int l6), some (.int s0), u8], [.int l1, .ref 77])) rfl ?_
    refine Ex.ask (rest := [.ref 77]) (j := m_X7_isPlace) (as := [.int l1]) (fun c => rfl) ((t_X7_isPlace hs).mono (by omega) (fun _ _ z => z)) ?_
    rintro _ h0 ⟨rfl, e0⟩
    rw [e0]
    show Ex d [] tb_X7_term (85, [some (.ref 77), some (.int l1), some (.int l2), some (.int l3), some (.int l4), some (.int l5), some (.int l6), some (.int s0), u8], [.int (bi (isp l1)), .ref 77]) h _
    refine Ex.br (x := (92, [some (.ref 77), some (.int l1), some (.int l2), some (.int l3), some (.int l4), some (.int l5), some (.int l6), some (.int s0), u8], [.ref 77])) (y := (88, [some (.ref 77), some (.int l1), some (.int l2), some (.int l3), some (.int l4), some (.int l5), some (.int l6), some (.int s0), u8], [.ref 77])) (b := ¬ (bi (isp l1)) = 0) rfl (fun hb => ?_) (fun hb => ?_)
    · replace H := H.1 (bi_ne.mp hb)
      refine Ex.pure 1 (fr2 := (94, [some (.ref 77), some (.int l1), some (.int l2), some (.int l3), some (.int l4), some (.int l5), some (.int l6), some (.int s0), u8], [.int s0, .ref 77])) rfl ?_
      refine Ex.br (x := (101, [some (.ref 77), some (.int l1), some (.int l2), some (.int l3), some (.int l4), some (.int l5), some (.int l6), some (.int s0), u8], [.ref 77])) (y := (97, [some (.ref 77), some (.int l1), some (.int l2), some (.int l3), some (.int l4), some (.int l5), some (.int l6), some (.int s0), u8], [.ref 77])) (b := ¬ s0 = 0) rfl (fun hb => ?_) (fun hb => ?_)
      · replace H := H.1 (hb)
        refine Ex.pure 1 (fr2 := (102, [some (.ref 77), some (.int l1), some (.int l2), some (.int l3), some (.int l4), some (.int l5), some (.int l6), some (.int s0), u8], [.int 0, .ref 77])) rfl ?_
        exact H
      · replace H := H.2 (hb)
        refine Ex.pure 2 (fr2 := (102, [some (.ref 77), some (.int l1), some (.int l2), some (.int l3), some (.int l4), some (.int l5), some (.int l6), some (.int s0), u8], [.int 2, .ref 77])) rfl ?_
        exact H
    · replace H := H.2 (bi_nne.mp hb)
      refine Ex.pure 2 (fr2 := (102, [some (.ref 77), some (.int l1), some (.int l2), some (.int l3), some (.int l4), some (.int l5), some (.int l6), some (.int s0), u8], [.int 1, .ref 77])) rfl ?_
      exact H
theorem w_X7_term_102 {d : Nat} {h : XH} {y : Nat → Nat} {K : XK} {E : XE} {l1 : Int32} {l2 : Int32} {l3 : Int32} {l4 : Int32} {l5 : Int32} {l6 : Int32} {u7 : Option Int32} {u8 : Option Value} {s0 : Int32} (hd : 20 ≤ d) (hs : Sg h.1 y) (H : (∀ h1 : XH, h1 = (x_setI h 77 0 s0) → ((s0 = 0) → (∀ h2 : XH, h2 = (x_setI h1 77 20 0) → (Ca d m_X7_joins [.ref 77, .long ((((lvl + ((l3 : Int32).toInt64 * (unt 1))) + ((l4 : Int32).toInt64 * (unt 2))) + ((l5 : Int32).toInt64 * (unt 3))) + (l6 : Int32).toInt64), .long ((l2 : Int32).toInt64)] h2 (fun rv h7 => rv = none ∧ Sg h7.1 y ∧ (Ca d m_X7_fits [.ref 77] h7 (fun rv h9 => ∃ x10, rv = some (.int x10) ∧ Sg h9.1 y ∧ (Ca d m_X7_laysGrowth [.ref 77, .int l1] h9 (fun rv h11 => rv = none ∧ Sg h11.1 y ∧ K none h11) E)) E)) E))) ∧ (¬ (s0 = 0) → K none h1))) : b_X7_term_102 d 77 l1 l2 l3 l4 l5 l6 u7 u8 s0 77 h K E := by
  cases u7 with
  | none =>
    show Ex d [] tb_X7_term (102, [some (.ref 77), some (.int l1), some (.int l2), some (.int l3), some (.int l4), some (.int l5), some (.int l6), (xoi none), u8], [.int s0, .ref 77]) h _
    refine Ex.ask (rest := []) (j := m_X7_holds) (as := [.ref 77, .int s0]) (vst (a := 114) (b := 2) (c := 6) (rest := []) (vs := [.int s0]) rfl ⟨Nat.le_of_ble_eq_true rfl, Nat.le_of_ble_eq_true rfl⟩ rfl rfl (sg_77 hs)) ((t_X7_holds hs).mono (by omega) (fun _ _ z => z)) ?_
    rintro _ h1 ⟨rfl, e1⟩
    replace H := H h1 e1
    replace hs : Sg h1.1 y := by rw [e1]; exact hs
    show Ex d [] tb_X7_term (105, [some (.ref 77), some (.int l1), some (.int l2), some (.int l3), some (.int l4), some (.int l5), some (.int l6), (xoi none), u8], [.int (bi (s0 = 0))]) h1 _
    refine Ex.br (x := (163, [some (.ref 77), some (.int l1), some (.int l2), some (.int l3), some (.int l4), some (.int l5), some (.int l6), (xoi none), u8], [])) (y := (108, [some (.ref 77), some (.int l1), some (.int l2), some (.int l3), some (.int l4), some (.int l5), some (.int l6), (xoi none), u8], [])) (b := (bi (s0 = 0)) = 0) rfl (fun hb => ?_) (fun hb => ?_)
    · replace H := H.2 (bi_eq.mp hb)
      exact Ex.vret rfl H
    · replace H := H.1 (bi_neq.mp hb)
      refine Ex.pure 2 (fr2 := (110, [some (.ref 77), some (.int l1), some (.int l2), some (.int l3), some (.int l4), some (.int l5), some (.int l6), (xoi none), u8], [.int 0, .ref 77])) rfl ?_
      refine Ex.putI rfl (sg_77 hs) ?_
      obtain ⟨h2, e2⟩ : ∃ z : XH, z = (x_setI h1 77 20 0) := ⟨_, rfl⟩
      rw [← e2]
      replace H := H h2 e2
      replace hs : Sg h2.1 y := by rw [e2]; exact hs
      refine Ex.pure 1 (fr2 := (114, [some (.ref 77), some (.int l1), some (.int l2), some (.int l3), some (.int l4), some (.int l5), some (.int l6), (xoi none), u8], [.ref 77])) rfl ?_
      refine Ex.ask (rest := [.ref 77]) (j := m_X7_level) (as := []) (fun c => rfl) ((t_X7_level hs).mono (by omega) (fun _ _ z => z)) ?_
      rintro _ h0 ⟨rfl, e0⟩
      rw [e0]
      show Ex d [] tb_X7_term (117, [some (.ref 77), some (.int l1), some (.int l2), some (.int l3), some (.int l4), some (.int l5), some (.int l6), (xoi none), u8], [.long lvl, .ref 77]) h2 _
      refine Ex.pure 3 (fr2 := (120, [some (.ref 77), some (.int l1), some (.int l2), some (.int l3), some (.int l4), some (.int l5), some (.int l6), (xoi none), u8], [.int 1, .long ((l3 : Int32).toInt64), .long lvl, .ref 77])) rfl ?_
      refine Ex.ask (rest := [.long ((l3 : Int32).toInt64), .long lvl, .ref 77]) (j := m_X7_unit) (as := [.int 1]) (fun c => rfl) ((t_X7_unit hs).mono (by omega) (fun _ _ z => z)) ?_
      rintro _ h0 ⟨rfl, e0⟩
      rw [e0]
      show Ex d [] tb_X7_term (123, [some (.ref 77), some (.int l1), some (.int l2), some (.int l3), some (.int l4), some (.int l5), some (.int l6), (xoi none), u8], [.long (unt 1), .long ((l3 : Int32).toInt64), .long lvl, .ref 77]) h2 _
      refine Ex.pure 5 (fr2 := (129, [some (.ref 77), some (.int l1), some (.int l2), some (.int l3), some (.int l4), some (.int l5), some (.int l6), (xoi none), u8], [.int 2, .long ((l4 : Int32).toInt64), .long (lvl + ((l3 : Int32).toInt64 * (unt 1))), .ref 77])) rfl ?_
      refine Ex.ask (rest := [.long ((l4 : Int32).toInt64), .long (lvl + ((l3 : Int32).toInt64 * (unt 1))), .ref 77]) (j := m_X7_unit) (as := [.int 2]) (fun c => rfl) ((t_X7_unit hs).mono (by omega) (fun _ _ z => z)) ?_
      rintro _ h0 ⟨rfl, e0⟩
      rw [e0]
      show Ex d [] tb_X7_term (132, [some (.ref 77), some (.int l1), some (.int l2), some (.int l3), some (.int l4), some (.int l5), some (.int l6), (xoi none), u8], [.long (unt 2), .long ((l4 : Int32).toInt64), .long (lvl + ((l3 : Int32).toInt64 * (unt 1))), .ref 77]) h2 _
      refine Ex.pure 5 (fr2 := (138, [some (.ref 77), some (.int l1), some (.int l2), some (.int l3), some (.int l4), some (.int l5), some (.int l6), (xoi none), u8], [.int 3, .long ((l5 : Int32).toInt64), .long ((lvl + ((l3 : Int32).toInt64 * (unt 1))) + ((l4 : Int32).toInt64 * (unt 2))), .ref 77])) rfl ?_
      refine Ex.ask (rest := [.long ((l5 : Int32).toInt64), .long ((lvl + ((l3 : Int32).toInt64 * (unt 1))) + ((l4 : Int32).toInt64 * (unt 2))), .ref 77]) (j := m_X7_unit) (as := [.int 3]) (fun c => rfl) ((t_X7_unit hs).mono (by omega) (fun _ _ z => z)) ?_
      rintro _ h0 ⟨rfl, e0⟩
      rw [e0]
      show Ex d [] tb_X7_term (141, [some (.ref 77), some (.int l1), some (.int l2), some (.int l3), some (.int l4), some (.int l5), some (.int l6), (xoi none), u8], [.long (unt 3), .long ((l5 : Int32).toInt64), .long ((lvl + ((l3 : Int32).toInt64 * (unt 1))) + ((l4 : Int32).toInt64 * (unt 2))), .ref 77]) h2 _
      refine Ex.pure 7 (fr2 := (149, [some (.ref 77), some (.int l1), some (.int l2), some (.int l3), some (.int l4), some (.int l5), some (.int l6), (xoi none), u8], [.long ((l2 : Int32).toInt64), .long ((((lvl + ((l3 : Int32).toInt64 * (unt 1))) + ((l4 : Int32).toInt64 * (unt 2))) + ((l5 : Int32).toInt64 * (unt 3))) + (l6 : Int32).toInt64), .ref 77])) rfl ?_
      refine Ex.cal (rest := []) (j := m_X7_joins) (as := [.ref 77, .long ((((lvl + ((l3 : Int32).toInt64 * (unt 1))) + ((l4 : Int32).toInt64 * (unt 2))) + ((l5 : Int32).toInt64 * (unt 3))) + (l6 : Int32).toInt64), .long ((l2 : Int32).toInt64)]) (vst (a := 135) (b := 3) (c := 6) (rest := []) (vs := [.long ((((lvl + ((l3 : Int32).toInt64 * (unt 1))) + ((l4 : Int32).toInt64 * (unt 2))) + ((l5 : Int32).toInt64 * (unt 3))) + (l6 : Int32).toInt64), .long ((l2 : Int32).toInt64)]) rfl ⟨Nat.le_of_ble_eq_true rfl, Nat.le_of_ble_eq_true rfl⟩ rfl rfl (sg_77 hs)) (H.imp ?_)
      intro rv h7 H
      obtain ⟨rfl, H⟩ := H
      obtain ⟨hs, H⟩ := H
      show Ex d [] tb_X7_term (152, [some (.ref 77), some (.int l1), some (.int l2), some (.int l3), some (.int l4), some (.int l5), some (.int l6), (xoi none), u8], []) h7 _
      refine Ex.pure 1 (fr2 := (153, [some (.ref 77), some (.int l1), some (.int l2), some (.int l3), some (.int l4), some (.int l5), some (.int l6), (xoi none), u8], [.ref 77])) rfl ?_
      refine Ex.cal (rest := []) (j := m_X7_fits) (as := [.ref 77]) (vst (a := 136) (b := 1) (c := 6) (rest := []) (vs := []) rfl ⟨Nat.le_of_ble_eq_true rfl, Nat.le_of_ble_eq_true rfl⟩ rfl rfl (sg_77 hs)) (H.imp ?_)
      intro rv h9 H
      obtain ⟨x10, rfl, H⟩ := H
      obtain ⟨hs, H⟩ := H
      show Ex d [] tb_X7_term (156, [some (.ref 77), some (.int l1), some (.int l2), some (.int l3), some (.int l4), some (.int l5), some (.int l6), (xoi none), u8], [.int x10]) h9 _
      refine Ex.pure 3 (fr2 := (160, [some (.ref 77), some (.int l1), some (.int l2), some (.int l3), some (.int l4), some (.int l5), some (.int l6), (xoi none), some (.int x10)], [.int l1, .ref 77])) rfl ?_
      refine Ex.cal (rest := []) (j := m_X7_laysGrowth) (as := [.ref 77, .int l1]) (vst (a := 137) (b := 2) (c := 6) (rest := []) (vs := [.int l1]) rfl ⟨Nat.le_of_ble_eq_true rfl, Nat.le_of_ble_eq_true rfl⟩ rfl rfl (sg_77 hs)) (H.imp ?_)
      intro rv h11 H
      obtain ⟨rfl, H⟩ := H
      obtain ⟨hs, H⟩ := H
      show Ex d [] tb_X7_term (163, [some (.ref 77), some (.int l1), some (.int l2), some (.int l3), some (.int l4), some (.int l5), some (.int l6), (xoi none), some (.int x10)], []) h11 _
      exact Ex.vret rfl H
  | some v7 =>
    show Ex d [] tb_X7_term (102, [some (.ref 77), some (.int l1), some (.int l2), some (.int l3), some (.int l4), some (.int l5), some (.int l6), (xoi (some v7)), u8], [.int s0, .ref 77]) h _
    refine Ex.ask (rest := []) (j := m_X7_holds) (as := [.ref 77, .int s0]) (vst (a := 114) (b := 2) (c := 6) (rest := []) (vs := [.int s0]) rfl ⟨Nat.le_of_ble_eq_true rfl, Nat.le_of_ble_eq_true rfl⟩ rfl rfl (sg_77 hs)) ((t_X7_holds hs).mono (by omega) (fun _ _ z => z)) ?_
    rintro _ h1 ⟨rfl, e1⟩
    replace H := H h1 e1
    replace hs : Sg h1.1 y := by rw [e1]; exact hs
    show Ex d [] tb_X7_term (105, [some (.ref 77), some (.int l1), some (.int l2), some (.int l3), some (.int l4), some (.int l5), some (.int l6), (xoi (some v7)), u8], [.int (bi (s0 = 0))]) h1 _
    refine Ex.br (x := (163, [some (.ref 77), some (.int l1), some (.int l2), some (.int l3), some (.int l4), some (.int l5), some (.int l6), (xoi (some v7)), u8], [])) (y := (108, [some (.ref 77), some (.int l1), some (.int l2), some (.int l3), some (.int l4), some (.int l5), some (.int l6), (xoi (some v7)), u8], [])) (b := (bi (s0 = 0)) = 0) rfl (fun hb => ?_) (fun hb => ?_)
    · replace H := H.2 (bi_eq.mp hb)
      exact Ex.vret rfl H
    · replace H := H.1 (bi_neq.mp hb)
      refine Ex.pure 2 (fr2 := (110, [some (.ref 77), some (.int l1), some (.int l2), some (.int l3), some (.int l4), some (.int l5), some (.int l6), (xoi (some v7)), u8], [.int 0, .ref 77])) rfl ?_
      refine Ex.putI rfl (sg_77 hs) ?_
      obtain ⟨h2, e2⟩ : ∃ z : XH, z = (x_setI h1 77 20 0) := ⟨_, rfl⟩
      rw [← e2]
      replace H := H h2 e2
      replace hs : Sg h2.1 y := by rw [e2]; exact hs
      refine Ex.pure 1 (fr2 := (114, [some (.ref 77), some (.int l1), some (.int l2), some (.int l3), some (.int l4), some (.int l5), some (.int l6), (xoi (some v7)), u8], [.ref 77])) rfl ?_
      refine Ex.ask (rest := [.ref 77]) (j := m_X7_level) (as := []) (fun c => rfl) ((t_X7_level hs).mono (by omega) (fun _ _ z => z)) ?_
      rintro _ h0 ⟨rfl, e0⟩
      rw [e0]
      show Ex d [] tb_X7_term (117, [some (.ref 77), some (.int l1), some (.int l2), some (.int l3), some (.int l4), some (.int l5), some (.int l6), (xoi (some v7)), u8], [.long lvl, .ref 77]) h2 _
      refine Ex.pure 3 (fr2 := (120, [some (.ref 77), some (.int l1), some (.int l2), some (.int l3), some (.int l4), some (.int l5), some (.int l6), (xoi (some v7)), u8], [.int 1, .long ((l3 : Int32).toInt64), .long lvl, .ref 77])) rfl ?_
      refine Ex.ask (rest := [.long ((l3 : Int32).toInt64), .long lvl, .ref 77]) (j := m_X7_unit) (as := [.int 1]) (fun c => rfl) ((t_X7_unit hs).mono (by omega) (fun _ _ z => z)) ?_
      rintro _ h0 ⟨rfl, e0⟩
      rw [e0]
      show Ex d [] tb_X7_term (123, [some (.ref 77), some (.int l1), some (.int l2), some (.int l3), some (.int l4), some (.int l5), some (.int l6), (xoi (some v7)), u8], [.long (unt 1), .long ((l3 : Int32).toInt64), .long lvl, .ref 77]) h2 _
      refine Ex.pure 5 (fr2 := (129, [some (.ref 77), some (.int l1), some (.int l2), some (.int l3), some (.int l4), some (.int l5), some (.int l6), (xoi (some v7)), u8], [.int 2, .long ((l4 : Int32).toInt64), .long (lvl + ((l3 : Int32).toInt64 * (unt 1))), .ref 77])) rfl ?_
      refine Ex.ask (rest := [.long ((l4 : Int32).toInt64), .long (lvl + ((l3 : Int32).toInt64 * (unt 1))), .ref 77]) (j := m_X7_unit) (as := [.int 2]) (fun c => rfl) ((t_X7_unit hs).mono (by omega) (fun _ _ z => z)) ?_
      rintro _ h0 ⟨rfl, e0⟩
      rw [e0]
      show Ex d [] tb_X7_term (132, [some (.ref 77), some (.int l1), some (.int l2), some (.int l3), some (.int l4), some (.int l5), some (.int l6), (xoi (some v7)), u8], [.long (unt 2), .long ((l4 : Int32).toInt64), .long (lvl + ((l3 : Int32).toInt64 * (unt 1))), .ref 77]) h2 _
      refine Ex.pure 5 (fr2 := (138, [some (.ref 77), some (.int l1), some (.int l2), some (.int l3), some (.int l4), some (.int l5), some (.int l6), (xoi (some v7)), u8], [.int 3, .long ((l5 : Int32).toInt64), .long ((lvl + ((l3 : Int32).toInt64 * (unt 1))) + ((l4 : Int32).toInt64 * (unt 2))), .ref 77])) rfl ?_
      refine Ex.ask (rest := [.long ((l5 : Int32).toInt64), .long ((lvl + ((l3 : Int32).toInt64 * (unt 1))) + ((l4 : Int32).toInt64 * (unt 2))), .ref 77]) (j := m_X7_unit) (as := [.int 3]) (fun c => rfl) ((t_X7_unit hs).mono (by omega) (fun _ _ z => z)) ?_
      rintro _ h0 ⟨rfl, e0⟩
      rw [e0]
      show Ex d [] tb_X7_term (141, [some (.ref 77), some (.int l1), some (.int l2), some (.int l3), some (.int l4), some (.int l5), some (.int l6), (xoi (some v7)), u8], [.long (unt 3), .long ((l5 : Int32).toInt64), .long ((lvl + ((l3 : Int32).toInt64 * (unt 1))) + ((l4 : Int32).toInt64 * (unt 2))), .ref 77]) h2 _
      refine Ex.pure 7 (fr2 := (149, [some (.ref 77), some (.int l1), some (.int l2), some (.int l3), some (.int l4), some (.int l5), some (.int l6), (xoi (some v7)), u8], [.long ((l2 : Int32).toInt64), .long ((((lvl + ((l3 : Int32).toInt64 * (unt 1))) + ((l4 : Int32).toInt64 * (unt 2))) + ((l5 : Int32).toInt64 * (unt 3))) + (l6 : Int32).toInt64), .ref 77])) rfl ?_
      refine Ex.cal (rest := []) (j := m_X7_joins) (as := [.ref 77, .long ((((lvl + ((l3 : Int32).toInt64 * (unt 1))) + ((l4 : Int32).toInt64 * (unt 2))) + ((l5 : Int32).toInt64 * (unt 3))) + (l6 : Int32).toInt64), .long ((l2 : Int32).toInt64)]) (vst (a := 135) (b := 3) (c := 6) (rest := []) (vs := [.long ((((lvl + ((l3 : Int32).toInt64 * (unt 1))) + ((l4 : Int32).toInt64 * (unt 2))) + ((l5 : Int32).toInt64 * (unt 3))) + (l6 : Int32).toInt64), .long ((l2 : Int32).toInt64)]) rfl ⟨Nat.le_of_ble_eq_true rfl, Nat.le_of_ble_eq_true rfl⟩ rfl rfl (sg_77 hs)) (H.imp ?_)
      intro rv h7 H
      obtain ⟨rfl, H⟩ := H
      obtain ⟨hs, H⟩ := H
      show Ex d [] tb_X7_term (152, [some (.ref 77), some (.int l1), some (.int l2), some (.int l3), some (.int l4), some (.int l5), some (.int l6), (xoi (some v7)), u8], []) h7 _
      refine Ex.pure 1 (fr2 := (153, [some (.ref 77), some (.int l1), some (.int l2), some (.int l3), some (.int l4), some (.int l5), some (.int l6), (xoi (some v7)), u8], [.ref 77])) rfl ?_
      refine Ex.cal (rest := []) (j := m_X7_fits) (as := [.ref 77]) (vst (a := 136) (b := 1) (c := 6) (rest := []) (vs := []) rfl ⟨Nat.le_of_ble_eq_true rfl, Nat.le_of_ble_eq_true rfl⟩ rfl rfl (sg_77 hs)) (H.imp ?_)
      intro rv h9 H
      obtain ⟨x10, rfl, H⟩ := H
      obtain ⟨hs, H⟩ := H
      show Ex d [] tb_X7_term (156, [some (.ref 77), some (.int l1), some (.int l2), some (.int l3), some (.int l4), some (.int l5), some (.int l6), (xoi (some v7)), u8], [.int x10]) h9 _
      refine Ex.pure 3 (fr2 := (160, [some (.ref 77), some (.int l1), some (.int l2), some (.int l3), some (.int l4), some (.int l5), some (.int l6), (xoi (some v7)), some (.int x10)], [.int l1, .ref 77])) rfl ?_
      refine Ex.cal (rest := []) (j := m_X7_laysGrowth) (as := [.ref 77, .int l1]) (vst (a := 137) (b := 2) (c := 6) (rest := []) (vs := [.int l1]) rfl ⟨Nat.le_of_ble_eq_true rfl, Nat.le_of_ble_eq_true rfl⟩ rfl rfl (sg_77 hs)) (H.imp ?_)
      intro rv h11 H
      obtain ⟨rfl, H⟩ := H
      obtain ⟨hs, H⟩ := H
      show Ex d [] tb_X7_term (163, [some (.ref 77), some (.int l1), some (.int l2), some (.int l3), some (.int l4), some (.int l5), some (.int l6), (xoi (some v7)), some (.int x10)], []) h11 _
      exact Ex.vret rfl H
theorem w_X7_areBoth {d : Nat} {h : XH} {y : Nat → Nat} {K : XK} {E : XE} {a : Int32} {b : Int32} {c : Int32} (hd : 20 ≤ d) (hs : Sg h.1 y) (H : (Ix a 16 ∧ (¬ (h.2.1 78 (ix a)) = c → K (some (.int 0)) h) ∧ (¬ (¬ (h.2.1 78 (ix a)) = c) → (Ix b 16 ∧ (¬ (h.2.1 78 (ix b)) = c → K (some (.int 0)) h) ∧ (¬ (¬ (h.2.1 78 (ix b)) = c) → K (some (.int 1)) h))))) : Ca (d + 1) m_X7_areBoth [.ref 77, .int a, .int b, .int c] h K E := by
  refine Ca.of ⟨by show 4 ≤ 4; omega, rfl⟩ ?_
  show Ex d [] tb_X7_areBoth (0, [some (.ref 77), some (.int a), some (.int b), some (.int c)], []) h _
  refine Ex.pure 1 (fr2 := (1, [some (.ref 77), some (.int a), some (.int b), some (.int c)], [.ref 77])) rfl ?_
  refine Ex.getQ rfl (sg_77 hs) rfl ?_
  refine Ex.pure 1 (fr2 := (5, [some (.ref 77), some (.int a), some (.int b), some (.int c)], [.int a, .ref 78])) rfl ?_
  refine Ex.iald rfl (Or.inl rfl) (sg_78 hs) H.1 ?_
  replace H := H.2
  refine Ex.pure 1 (fr2 := (7, [some (.ref 77), some (.int a), some (.int b), some (.int c)], [.int c, .int (h.2.1 78 (ix a))])) rfl ?_
  refine Ex.br (x := (24, [some (.ref 77), some (.int a), some (.int b), some (.int c)], [])) (y := (10, [some (.ref 77), some (.int a), some (.int b), some (.int c)], [])) (b := ¬ (h.2.1 78 (ix a)) = c) rfl (fun hb => ?_) (fun hb => ?_)
  · replace H := H.1 (hb)
    refine Ex.pure 1 (fr2 := (25, [some (.ref 77), some (.int a), some (.int b), some (.int c)], [.int 0])) rfl ?_
    exact Ex.iret rfl (Or.inr ⟨rfl, by decide⟩) H
  · replace H := H.2 (hb)
    refine Ex.pure 1 (fr2 := (11, [some (.ref 77), some (.int a), some (.int b), some (.int c)], [.ref 77])) rfl ?_
    refine Ex.getQ rfl (sg_77 hs) rfl ?_
    refine Ex.pure 1 (fr2 := (15, [some (.ref 77), some (.int a), some (.int b), some (.int c)], [.int b, .ref 78])) rfl ?_
    refine Ex.iald rfl (Or.inl rfl) (sg_78 hs) H.1 ?_
    replace H := H.2
    refine Ex.pure 1 (fr2 := (17, [some (.ref 77), some (.int a), some (.int b), some (.int c)], [.int c, .int (h.2.1 78 (ix b))])) rfl ?_
    refine Ex.br (x := (24, [some (.ref 77), some (.int a), some (.int b), some (.int c)], [])) (y := (20, [some (.ref 77), some (.int a), some (.int b), some (.int c)], [])) (b := ¬ (h.2.1 78 (ix b)) = c) rfl (fun hb => ?_) (fun hb => ?_)
    · replace H := H.1 (hb)
      refine Ex.pure 1 (fr2 := (25, [some (.ref 77), some (.int a), some (.int b), some (.int c)], [.int 0])) rfl ?_
      exact Ex.iret rfl (Or.inr ⟨rfl, by decide⟩) H
    · replace H := H.2 (hb)
      refine Ex.pure 2 (fr2 := (25, [some (.ref 77), some (.int a), some (.int b), some (.int c)], [.int 1])) rfl ?_
      exact Ex.iret rfl (Or.inr ⟨rfl, by decide⟩) H
def b_X7_setsOrdinal_12 (d : Nat) (u0 : Option Value) (u1 : Option Value) (l2 : Int32) (h : XH) (K : XK) (E : XE) : Prop := Ex d [] tb_X7_setsOrdinal (12, [u0, u1, some (.int l2)], []) h (Po K E)
theorem w_X7_setsOrdinal {d : Nat} {h : XH} {y : Nat → Nat} {K : XK} {E : XE} {a : Int32} {b : Int32} (hd : 20 ≤ d) (hs : Sg h.1 y) (H : (b = (-1) → b_X7_setsOrdinal_12 d (some (.ref 77)) (some (.int a)) b h K E) ∧ (¬ (b = (-1)) → (Ca d m_X7_lays [.ref 77, .int a, .int 1, .int b] h (fun rv h1 => rv = none ∧ Sg h1.1 y ∧ b_X7_setsOrdinal_12 d (some (.ref 77)) (some (.int a)) b h1 K E) E))) : Ca (d + 1) m_X7_setsOrdinal [.ref 77, .int a, .int b] h K E := by
  refine Ca.of ⟨by show 3 ≤ 3; omega, rfl⟩ ?_
  show Ex d [] tb_X7_setsOrdinal (0, [some (.ref 77), some (.int a), some (.int b)], []) h _
  refine Ex.pure 2 (fr2 := (2, [some (.ref 77), some (.int a), some (.int b)], [.int (-1), .int b])) rfl ?_
  refine Ex.br (x := (12, [some (.ref 77), some (.int a), some (.int b)], [])) (y := (5, [some (.ref 77), some (.int a), some (.int b)], [])) (b := b = (-1)) rfl (fun hb => ?_) (fun hb => ?_)
  · replace H := H.1 (hb)
    exact H
  · replace H := H.2 (hb)
    refine Ex.pure 4 (fr2 := (9, [some (.ref 77), some (.int a), some (.int b)], [.int b, .int 1, .int a, .ref 77])) rfl ?_
    refine Ex.cal (rest := []) (j := m_X7_lays) (as := [.ref 77, .int a, .int 1, .int b]) (vst (a := 118) (b := 4) (c := 6) (rest := []) (vs := [.int a, .int 1, .int b]) rfl ⟨Nat.le_of_ble_eq_true rfl, Nat.le_of_ble_eq_true rfl⟩ rfl rfl (sg_77 hs)) (H.imp ?_)
    intro rv h1 H
    obtain ⟨rfl, H⟩ := H
    obtain ⟨hs, H⟩ := H
    show Ex d [] tb_X7_setsOrdinal (12, [some (.ref 77), some (.int a), some (.int b)], []) h1 _
    exact H
theorem w_X7_setsOrdinal_12 {d : Nat} {h : XH} {y : Nat → Nat} {K : XK} {E : XE} {u0 : Option Value} {u1 : Option Value} {l2 : Int32} (hd : 20 ≤ d) (hs : Sg h.1 y) (H : (l2 = (-1) → K (some (.int 0)) h) ∧ (¬ (l2 = (-1)) → K (some (.int 1)) h)) : b_X7_setsOrdinal_12 d u0 u1 l2 h K E := by
  show Ex d [] tb_X7_setsOrdinal (12, [u0, u1, some (.int l2)], []) h _
  refine Ex.pure 2 (fr2 := (14, [u0, u1, some (.int l2)], [.int (-1), .int l2])) rfl ?_
  refine Ex.br (x := (21, [u0, u1, some (.int l2)], [])) (y := (17, [u0, u1, some (.int l2)], [])) (b := l2 = (-1)) rfl (fun hb => ?_) (fun hb => ?_)
  · replace H := H.1 (hb)
    refine Ex.pure 1 (fr2 := (22, [u0, u1, some (.int l2)], [.int 0])) rfl ?_
    exact Ex.iret rfl (Or.inr ⟨rfl, by decide⟩) H
  · replace H := H.2 (hb)
    refine Ex.pure 2 (fr2 := (22, [u0, u1, some (.int l2)], [.int 1])) rfl ?_
    exact Ex.iret rfl (Or.inr ⟨rfl, by decide⟩) H
def b_X7_setsNumber_15 (d : Nat) (u0 : Option Value) (u1 : Option Value) (l2 : Int64) (h : XH) (K : XK) (E : XE) : Prop := Ex d [] tb_X7_setsNumber (15, [u0, u1, some (.long l2), none], []) h (Po K E)
theorem w_X7_setsNumber {d : Nat} {h : XH} {y : Nat → Nat} {K : XK} {E : XE} {a : Int32} {b : Int64} (hd : 20 ≤ d) (hs : Sg h.1 y) (H : ((-268435456 ≤ b ∧ b ≤ 268435456) → (Ca d m_X7_lays [.ref 77, .int a, .int 2, .int ((b : Int64).toInt32)] h (fun rv h2 => rv = none ∧ Sg h2.1 y ∧ b_X7_setsNumber_15 d (some (.ref 77)) (some (.int a)) b h2 K E) E)) ∧ (¬ (-268435456 ≤ b ∧ b ≤ 268435456) → b_X7_setsNumber_15 d (some (.ref 77)) (some (.int a)) b h K E)) : Ca (d + 1) m_X7_setsNumber [.ref 77, .int a, .long b] h K E := by
  refine Ca.of ⟨by show 4 ≤ 4; omega, rfl⟩ ?_
  show Ex d [] tb_X7_setsNumber (0, [some (.ref 77), some (.int a), some (.long b), none], []) h _
  refine Ex.pure 1 (fr2 := (1, [some (.ref 77), some (.int a), some (.long b), none], [.long b])) rfl ?_
  refine Ex.ask (rest := []) (j := m_X7_isNumber) (as := [.long b]) (fun c => rfl) ((t_X7_isNumber hs).mono (by omega) (fun _ _ z => z)) ?_
  rintro _ h0 ⟨rfl, e0⟩
  rw [e0]
  show Ex d [] tb_X7_setsNumber (4, [some (.ref 77), some (.int a), some (.long b), none], [.int (bi (-268435456 ≤ b ∧ b ≤ 268435456))]) h _
  refine Ex.br (x := (15, [some (.ref 77), some (.int a), some (.long b), none], [])) (y := (7, [some (.ref 77), some (.int a), some (.long b), none], [])) (b := (bi (-268435456 ≤ b ∧ b ≤ 268435456)) = 0) rfl (fun hb => ?_) (fun hb => ?_)
  · replace H := H.2 (bi_eq.mp hb)
    exact H
  · replace H := H.1 (bi_neq.mp hb)
    refine Ex.pure 5 (fr2 := (12, [some (.ref 77), some (.int a), some (.long b), none], [.int ((b : Int64).toInt32), .int 2, .int a, .ref 77])) rfl ?_
    refine Ex.cal (rest := []) (j := m_X7_lays) (as := [.ref 77, .int a, .int 2, .int ((b : Int64).toInt32)]) (vst (a := 118) (b := 4) (c := 6) (rest := []) (vs := [.int a, .int 2, .int ((b : Int64).toInt32)]) rfl ⟨Nat.le_of_ble_eq_true rfl, Nat.le_of_ble_eq_true rfl⟩ rfl rfl (sg_77 hs)) (H.imp ?_)
    intro rv h2 H
    obtain ⟨rfl, H⟩ := H
    obtain ⟨hs, H⟩ := H
    show Ex d [] tb_X7_setsNumber (15, [some (.ref 77), some (.int a), some (.long b), none], []) h2 _
    exact H
theorem w_X7_setsNumber_15 {d : Nat} {h : XH} {y : Nat → Nat} {K : XK} {E : XE} {u0 : Option Value} {u1 : Option Value} {l2 : Int64} (hd : 20 ≤ d) (hs : Sg h.1 y) (H : K (some (.int (bi (-268435456 ≤ l2 ∧ l2 ≤ 268435456)))) h) : b_X7_setsNumber_15 d u0 u1 l2 h K E := by
  show Ex d [] tb_X7_setsNumber (15, [u0, u1, some (.long l2), none], []) h _
  refine Ex.pure 1 (fr2 := (16, [u0, u1, some (.long l2), none], [.long l2])) rfl ?_
  refine Ex.ask (rest := []) (j := m_X7_isNumber) (as := [.long l2]) (fun c => rfl) ((t_X7_isNumber hs).mono (by omega) (fun _ _ z => z)) ?_
  rintro _ h0 ⟨rfl, e0⟩
  rw [e0]
  show Ex d [] tb_X7_setsNumber (19, [u0, u1, some (.long l2), none], [.int (bi (-268435456 ≤ l2 ∧ l2 ≤ 268435456))]) h _
  exact Ex.iret rfl (Or.inr ⟨rfl, bi_01 _⟩) H
theorem w_X7_setsGrowth {d : Nat} {h : XH} {y : Nat → Nat} {K : XK} {E : XE} {a : Int32} {b : Int32} (hd : 20 ≤ d) (hs : Sg h.1 y) (H : (b = 0 → (b = 0 ∨ b = 1) ∧ K (some (.int b)) h) ∧ (¬ (b = 0) → (Ca d m_X7_laysGrowth [.ref 77, .int a] h (fun rv h1 => rv = none ∧ Sg h1.1 y ∧ (b = 0 ∨ b = 1) ∧ K (some (.int b)) h1) E))) : Ca (d + 1) m_X7_setsGrowth [.ref 77, .int a, .int b] h K E := by
  refine Ca.of ⟨by show 3 ≤ 3; omega, rfl⟩ ?_
  show Ex d [] tb_X7_setsGrowth (0, [some (.ref 77), some (.int a), some (.int b)], []) h _
  refine Ex.pure 1 (fr2 := (1, [some (.ref 77), some (.int a), some (.int b)], [.int b])) rfl ?_
  refine Ex.br (x := (9, [some (.ref 77), some (.int a), some (.int b)], [])) (y := (4, [some (.ref 77), some (.int a), some (.int b)], [])) (b := b = 0) rfl (fun hb => ?_) (fun hb => ?_)
  · replace H := H.1 (hb)
    refine Ex.pure 1 (fr2 := (10, [some (.ref 77), some (.int a), some (.int b)], [.int b])) rfl ?_
    exact Ex.iret rfl (Or.inr ⟨rfl, H.1⟩) H.2
  · replace H := H.2 (hb)
    refine Ex.pure 2 (fr2 := (6, [some (.ref 77), some (.int a), some (.int b)], [.int a, .ref 77])) rfl ?_
    refine Ex.cal (rest := []) (j := m_X7_laysGrowth) (as := [.ref 77, .int a]) (vst (a := 137) (b := 2) (c := 6) (rest := []) (vs := [.int a]) rfl ⟨Nat.le_of_ble_eq_true rfl, Nat.le_of_ble_eq_true rfl⟩ rfl rfl (sg_77 hs)) (H.imp ?_)
    intro rv h1 H
    obtain ⟨rfl, H⟩ := H
    obtain ⟨hs, H⟩ := H
    show Ex d [] tb_X7_setsGrowth (9, [some (.ref 77), some (.int a), some (.int b)], []) h1 _
    refine Ex.pure 1 (fr2 := (10, [some (.ref 77), some (.int a), some (.int b)], [.int b])) rfl ?_
    exact Ex.iret rfl (Or.inr ⟨rfl, H.1⟩) H.2
theorem w_X7_setsSum {d : Nat} {h : XH} {y : Nat → Nat} {K : XK} {E : XE} {a : Int32} {b : Int32} {c : Int32} (hd : 20 ≤ d) (hs : Sg h.1 y) (H : (Ca d m_X7_begin [.ref 77] h (fun rv h1 => rv = none ∧ Sg h1.1 y ∧ (Ca d m_X7_areBoth [.ref 77, .int b, .int c, .int 1] h1 (fun rv h3 => ∃ x4, rv = some (.int x4) ∧ Sg h3.1 y ∧ (x4 = 0 → (Ca d m_X7_areBoth [.ref 77, .int b, .int c, .int 2] h3 (fun rv h5 => ∃ x6, rv = some (.int x6) ∧ Sg h5.1 y ∧ (x6 = 0 → (Ca d m_X7_areBoth [.ref 77, .int b, .int c, .int 3] h5 (fun rv h7 => ∃ x8, rv = some (.int x8) ∧ Sg h7.1 y ∧ (x8 = 0 → K (some (.int 0)) h7) ∧ (¬ (x8 = 0) → (Ca d m_X7_joinsBoth [.ref 77, .int b, .int c, .int 1] h7 (fun rv h9 => ∃ x10, rv = some (.int x10) ∧ Sg h9.1 y ∧ (Ca d m_X7_setsGrowth [.ref 77, .int a, .int x10] h9 (fun rv h11 => ∃ x12, rv = some (.int x12) ∧ Sg h11.1 y ∧ (x12 = 0 → K (some (.int 0)) h11) ∧ (¬ (x12 = 0) → K (some (.int 1)) h11)) E)) E))) E)) ∧ (¬ (x6 = 0) → (Ix b 16 ∧ (Ix c 16 ∧ (Ca d m_X7_setsNumber [.ref 77, .int a, .long (((h5.2.1 79 (ix b)) : Int32).toInt64 + ((h5.2.1 79 (ix c)) : Int32).toInt64)] h5 (fun rv h13 => ∃ x14, rv = some (.int x14) ∧ Sg h13.1 y ∧ (x14 = 0 ∨ x14 = 1) ∧ K (some (.int x14)) h13) E))))) E)) ∧ (¬ (x4 = 0) → (Ix b 16 ∧ (Ix c 16 ∧ (Ca d m_X7_summed [.ref 77, .int (h3.2.1 79 (ix b)), .int (h3.2.1 79 (ix c))] h3 (fun rv h15 => ∃ x16, rv = some (.int x16) ∧ Sg h15.1 y ∧ (Ca d m_X7_setsOrdinal [.ref 77, .int a, .int x16] h15 (fun rv h17 => ∃ x18, rv = some (.int x18) ∧ Sg h17.1 y ∧ (x18 = 0 ∨ x18 = 1) ∧ K (some (.int x18)) h17) E)) E))))) E)) E)) : Ca (d + 1) m_X7_setsSum [.ref 77, .int a, .int b, .int c] h K E := by
  refine Ca.of ⟨by show 4 ≤ 4; omega, rfl⟩ ?_
  show Ex d [] tb_X7_setsSum (0, [some (.ref 77), some (.int a), some (.int b), some (.int c)], []) h _
  refine Ex.pure 1 (fr2 := (1, [some (.ref 77), some (.int a), some (.int b), some (.int c)], [.ref 77])) rfl ?_
  refine Ex.cal (rest := []) (j := m_X7_begin) (as := [.ref 77]) (vst (a := 150) (b := 1) (c := 6) (rest := []) (vs := []) rfl ⟨Nat.le_of_ble_eq_true rfl, Nat.le_of_ble_eq_true rfl⟩ rfl rfl (sg_77 hs)) (H.imp ?_)
  intro rv h1 H
  obtain ⟨rfl, H⟩ := H
  obtain ⟨hs, H⟩ := H
  show Ex d [] tb_X7_setsSum (4, [some (.ref 77), some (.int a), some (.int b), some (.int c)], []) h1 _
  refine Ex.pure 4 (fr2 := (8, [some (.ref 77), some (.int a), some (.int b), some (.int c)], [.int 1, .int c, .int b, .ref 77])) rfl ?_
  refine Ex.cal (rest := []) (j := m_X7_areBoth) (as := [.ref 77, .int b, .int c, .int 1]) (vst (a := 158) (b := 4) (c := 6) (rest := []) (vs := [.int b, .int c, .int 1]) rfl ⟨Nat.le_of_ble_eq_true rfl, Nat.le_of_ble_eq_true rfl⟩ rfl rfl (sg_77 hs)) (H.imp ?_)
  intro rv h3 H
  obtain ⟨x4, rfl, H⟩ := H
  obtain ⟨hs, H⟩ := H
  show Ex d [] tb_X7_setsSum (11, [some (.ref 77), some (.int a), some (.int b), some (.int c)], [.int x4]) h3 _
  refine Ex.br (x := (38, [some (.ref 77), some (.int a), some (.int b), some (.int c)], [])) (y := (14, [some (.ref 77), some (.int a), some (.int b), some (.int c)], [])) (b := x4 = 0) rfl (fun hb => ?_) (fun hb => ?_)
  · replace H := H.1 (hb)
    refine Ex.pure 4 (fr2 := (42, [some (.ref 77), some (.int a), some (.int b), some (.int c)], [.int 2, .int c, .int b, .ref 77])) rfl ?_
    refine Ex.cal (rest := []) (j := m_X7_areBoth) (as := [.ref 77, .int b, .int c, .int 2]) (vst (a := 158) (b := 4) (c := 6) (rest := []) (vs := [.int b, .int c, .int 2]) rfl ⟨Nat.le_of_ble_eq_true rfl, Nat.le_of_ble_eq_true rfl⟩ rfl rfl (sg_77 hs)) (H.imp ?_)
    intro rv h5 H
    obtain ⟨x6, rfl, H⟩ := H
    obtain ⟨hs, H⟩ := H
    show Ex d [] tb_X7_setsSum (45, [some (.ref 77), some (.int a), some (.int b), some (.int c)], [.int x6]) h5 _
    refine Ex.br (x := (71, [some (.ref 77), some (.int a), some (.int b), some (.int c)], [])) (y := (48, [some (.ref 77), some (.int a), some (.int b), some (.int c)], [])) (b := x6 = 0) rfl (fun hb => ?_) (fun hb => ?_)
    · replace H := H.1 (hb)
      refine Ex.pure 4 (fr2 := (75, [some (.ref 77), some (.int a), some (.int b), some (.int c)], [.int 3, .int c, .int b, .ref 77])) rfl ?_
      refine Ex.cal (rest := []) (j := m_X7_areBoth) (as := [.ref 77, .int b, .int c, .int 3]) (vst (a := 158) (b := 4) (c := 6) (rest := []) (vs := [.int b, .int c, .int 3]) rfl ⟨Nat.le_of_ble_eq_true rfl, Nat.le_of_ble_eq_true rfl⟩ rfl rfl (sg_77 hs)) (H.imp ?_)
      intro rv h7 H
      obtain ⟨x8, rfl, H⟩ := H
      obtain ⟨hs, H⟩ := H
      show Ex d [] tb_X7_setsSum (78, [some (.ref 77), some (.int a), some (.int b), some (.int c)], [.int x8]) h7 _
      refine Ex.br (x := (100, [some (.ref 77), some (.int a), some (.int b), some (.int c)], [])) (y := (81, [some (.ref 77), some (.int a), some (.int b), some (.int c)], [])) (b := x8 = 0) rfl (fun hb => ?_) (fun hb => ?_)
      · replace H := H.1 (hb)
        refine Ex.pure 1 (fr2 := (101, [some (.ref 77), some (.int a), some (.int b), some (.int c)], [.int 0])) rfl ?_
        exact Ex.iret rfl (Or.inr ⟨rfl, by decide⟩) H
      · replace H := H.2 (hb)
        refine Ex.pure 6 (fr2 := (87, [some (.ref 77), some (.int a), some (.int b), some (.int c)], [.int 1, .int c, .int b, .ref 77, .int a, .ref 77])) rfl ?_
        refine Ex.cal (rest := [.int a, .ref 77]) (j := m_X7_joinsBoth) (as := [.ref 77, .int b, .int c, .int 1]) (vst (a := 139) (b := 4) (c := 6) (rest := [.int a, .ref 77]) (vs := [.int b, .int c, .int 1]) rfl ⟨Nat.le_of_ble_eq_true rfl, Nat.le_of_ble_eq_true rfl⟩ rfl rfl (sg_77 hs)) (H.imp ?_)
        intro rv h9 H
        obtain ⟨x10, rfl, H⟩ := H
        obtain ⟨hs, H⟩ := H
        show Ex d [] tb_X7_setsSum (90, [some (.ref 77), some (.int a), some (.int b), some (.int c)], [.int x10, .int a, .ref 77]) h9 _
        refine Ex.cal (rest := []) (j := m_X7_setsGrowth) (as := [.ref 77, .int a, .int x10]) (vst (a := 161) (b := 3) (c := 6) (rest := []) (vs := [.int a, .int x10]) rfl ⟨Nat.le_of_ble_eq_true rfl, Nat.le_of_ble_eq_true rfl⟩ rfl rfl (sg_77 hs)) (H.imp ?_)
        intro rv h11 H
        obtain ⟨x12, rfl, H⟩ := H
        obtain ⟨hs, H⟩ := H
        show Ex d [] tb_X7_setsSum (93, [some (.ref 77), some (.int a), some (.int b), some (.int c)], [.int x12]) h11 _
        refine Ex.br (x := (100, [some (.ref 77), some (.int a), some (.int b), some (.int c)], [])) (y := (96, [some (.ref 77), some (.int a), some (.int b), some (.int c)], [])) (b := x12 = 0) rfl (fun hb => ?_) (fun hb => ?_)
        · replace H := H.1 (hb)
          refine Ex.pure 1 (fr2 := (101, [some (.ref 77), some (.int a), some (.int b), some (.int c)], [.int 0])) rfl ?_
          exact Ex.iret rfl (Or.inr ⟨rfl, by decide⟩) H
        · replace H := H.2 (hb)
          refine Ex.pure 2 (fr2 := (101, [some (.ref 77), some (.int a), some (.int b), some (.int c)], [.int 1])) rfl ?_
          exact Ex.iret rfl (Or.inr ⟨rfl, by decide⟩) H
    · replace H := H.2 (hb)
      refine Ex.pure 3 (fr2 := (51, [some (.ref 77), some (.int a), some (.int b), some (.int c)], [.ref 77, .int a, .ref 77])) rfl ?_
      refine Ex.getQ rfl (sg_77 hs) rfl ?_
      refine Ex.pure 1 (fr2 := (55, [some (.ref 77), some (.int a), some (.int b), some (.int c)], [.int b, .ref 79, .int a, .ref 77])) rfl ?_
      refine Ex.iald rfl (Or.inl rfl) (sg_79 hs) H.1 ?_
      replace H := H.2
      refine Ex.pure 2 (fr2 := (58, [some (.ref 77), some (.int a), some (.int b), some (.int c)], [.ref 77, .long (((h5.2.1 79 (ix b)) : Int32).toInt64), .int a, .ref 77])) rfl ?_
      refine Ex.getQ rfl (sg_77 hs) rfl ?_
      refine Ex.pure 1 (fr2 := (62, [some (.ref 77), some (.int a), some (.int b), some (.int c)], [.int c, .ref 79, .long (((h5.2.1 79 (ix b)) : Int32).toInt64), .int a, .ref 77])) rfl ?_
      refine Ex.iald rfl (Or.inl rfl) (sg_79 hs) H.1 ?_
      replace H := H.2
      refine Ex.pure 2 (fr2 := (65, [some (.ref 77), some (.int a), some (.int b), some (.int c)], [.long (((h5.2.1 79 (ix b)) : Int32).toInt64 + ((h5.2.1 79 (ix c)) : Int32).toInt64), .int a, .ref 77])) rfl ?_
      refine Ex.cal (rest := []) (j := m_X7_setsNumber) (as := [.ref 77, .int a, .long (((h5.2.1 79 (ix b)) : Int32).toInt64 + ((h5.2.1 79 (ix c)) : Int32).toInt64)]) (vst (a := 160) (b := 3) (c := 6) (rest := []) (vs := [.int a, .long (((h5.2.1 79 (ix b)) : Int32).toInt64 + ((h5.2.1 79 (ix c)) : Int32).toInt64)]) rfl ⟨Nat.le_of_ble_eq_true rfl, Nat.le_of_ble_eq_true rfl⟩ rfl rfl (sg_77 hs)) (H.imp ?_)
      intro rv h13 H
      obtain ⟨x14, rfl, H⟩ := H
      obtain ⟨hs, H⟩ := H
      show Ex d [] tb_X7_setsSum (68, [some (.ref 77), some (.int a), some (.int b), some (.int c)], [.int x14]) h13 _
      refine Ex.pure 1 (fr2 := (101, [some (.ref 77), some (.int a), some (.int b), some (.int c)], [.int x14])) rfl ?_
      exact Ex.iret rfl (Or.inr ⟨rfl, H.1⟩) H.2
  · replace H := H.2 (hb)
    refine Ex.pure 4 (fr2 := (18, [some (.ref 77), some (.int a), some (.int b), some (.int c)], [.ref 77, .ref 77, .int a, .ref 77])) rfl ?_
    refine Ex.getQ rfl (sg_77 hs) rfl ?_
    refine Ex.pure 1 (fr2 := (22, [some (.ref 77), some (.int a), some (.int b), some (.int c)], [.int b, .ref 79, .ref 77, .int a, .ref 77])) rfl ?_
    refine Ex.iald rfl (Or.inl rfl) (sg_79 hs) H.1 ?_
    replace H := H.2
    refine Ex.pure 1 (fr2 := (24, [some (.ref 77), some (.int a), some (.int b), some (.int c)], [.ref 77, .int (h3.2.1 79 (ix b)), .ref 77, .int a, .ref 77])) rfl ?_
    refine Ex.getQ rfl (sg_77 hs) rfl ?_
    refine Ex.pure 1 (fr2 := (28, [some (.ref 77), some (.int a), some (.int b), some (.int c)], [.int c, .ref 79, .int (h3.2.1 79 (ix b)), .ref 77, .int a, .ref 77])) rfl ?_
    refine Ex.iald rfl (Or.inl rfl) (sg_79 hs) H.1 ?_
    replace H := H.2
    refine Ex.cal (rest := [.int a, .ref 77]) (j := m_X7_summed) (as := [.ref 77, .int (h3.2.1 79 (ix b)), .int (h3.2.1 79 (ix c))]) (vst (a := 125) (b := 3) (c := 6) (rest := [.int a, .ref 77]) (vs := [.int (h3.2.1 79 (ix b)), .int (h3.2.1 79 (ix c))]) rfl ⟨Nat.le_of_ble_eq_true rfl, Nat.le_of_ble_eq_true rfl⟩ rfl rfl (sg_77 hs)) (H.imp ?_)
    intro rv h15 H
    obtain ⟨x16, rfl, H⟩ := H
    obtain ⟨hs, H⟩ := H
    show Ex d [] tb_X7_setsSum (32, [some (.ref 77), some (.int a), some (.int b), some (.int c)], [.int x16, .int a, .ref 77]) h15 _
    refine Ex.cal (rest := []) (j := m_X7_setsOrdinal) (as := [.ref 77, .int a, .int x16]) (vst (a := 159) (b := 3) (c := 6) (rest := []) (vs := [.int a, .int x16]) rfl ⟨Nat.le_of_ble_eq_true rfl, Nat.le_of_ble_eq_true rfl⟩ rfl rfl (sg_77 hs)) (H.imp ?_)
    intro rv h17 H
    obtain ⟨x18, rfl, H⟩ := H
    obtain ⟨hs, H⟩ := H
    show Ex d [] tb_X7_setsSum (35, [some (.ref 77), some (.int a), some (.int b), some (.int c)], [.int x18]) h17 _
    refine Ex.pure 1 (fr2 := (101, [some (.ref 77), some (.int a), some (.int b), some (.int c)], [.int x18])) rfl ?_
    exact Ex.iret rfl (Or.inr ⟨rfl, H.1⟩) H.2
def b_X7_told_18 (d : Nat) (r_0 : Nat) (l1 : Int32) (u2 : Option Value) (u3 : Option Value) (s0 : Int32) (r_5 : Nat) (h : XH) (K : XK) (E : XE) : Prop := Ex d [] tb_X7_told (18, [some (.ref r_0), some (.int l1), u2, u3], [.int s0, .ref r_5]) h (Po K E)
theorem w_X7_told {d : Nat} {h : XH} {y : Nat → Nat} {K : XK} {E : XE} {a : Int32} {b : Int32} {c : Int32} (hd : 20 ≤ d) (hs : Sg h.1 y) (H : (¬ b = 0 → (¬ c = 0 → b_X7_told_18 d 77 a (some (.int b)) (some (.int c)) 0 77 h K E) ∧ (¬ (¬ c = 0) → b_X7_told_18 d 77 a (some (.int b)) (some (.int c)) 2 77 h K E)) ∧ (¬ (¬ b = 0) → b_X7_told_18 d 77 a (some (.int b)) (some (.int c)) 1 77 h K E)) : Ca (d + 1) m_X7_told [.ref 77, .int a, .int b, .int c] h K E := by
  refine Ca.of ⟨by show 4 ≤ 4; omega, rfl⟩ ?_
  show Ex d [] tb_X7_told (0, [some (.ref 77), some (.int a), some (.int b), some (.int c)], []) h _
  refine Ex.pure 2 (fr2 := (2, [some (.ref 77), some (.int a), some (.int b), some (.int c)], [.int b, .ref 77])) rfl ?_
  refine Ex.br (x := (9, [some (.ref 77), some (.int a), some (.int b), some (.int c)], [.ref 77])) (y := (5, [some (.ref 77), some (.int a), some (.int b), some (.int c)], [.ref 77])) (b := ¬ b = 0) rfl (fun hb => ?_) (fun hb => ?_)
  · replace H := H.1 (hb)
    refine Ex.pure 1 (fr2 := (10, [some (.ref 77), some (.int a), some (.int b), some (.int c)], [.int c, .ref 77])) rfl ?_
    refine Ex.br (x := (17, [some (.ref 77), some (.int a), some (.int b), some (.int c)], [.ref 77])) (y := (13, [some (.ref 77), some (.int a), some (.int b), some (.int c)], [.ref 77])) (b := ¬ c = 0) rfl (fun hb => ?_) (fun hb => ?_)
    · replace H := H.1 (hb)
      refine Ex.pure 1 (fr2 := (18, [some (.ref 77), some (.int a), some (.int b), some (.int c)], [.int 0, .ref 77])) rfl ?_
      exact H
    · replace H := H.2 (hb)
      refine Ex.pure 2 (fr2 := (18, [some (.ref 77), some (.int a), some (.int b), some (.int c)], [.int 2, .ref 77])) rfl ?_
      exact H
  · replace H := H.2 (hb)
    refine Ex.pure 2 (fr2 := (18, [some (.ref 77), some (.int a), some (.int b), some (.int c)], [.int 1, .ref 77])) rfl ?_
    exact H
theorem w_X7_told_18 {d : Nat} {h : XH} {y : Nat → Nat} {K : XK} {E : XE} {l1 : Int32} {u2 : Option Value} {u3 : Option Value} {s0 : Int32} (hd : 20 ≤ d) (hs : Sg h.1 y) (H : (∀ h1 : XH, h1 = (x_setI h 77 0 s0) → ((s0 = 0) → (Ix l1 16 ∧ K (some (.int (h1.2.1 78 (ix l1)))) h1)) ∧ (¬ (s0 = 0) → K (some (.int 0)) h1))) : b_X7_told_18 d 77 l1 u2 u3 s0 77 h K E := by
  show Ex d [] tb_X7_told (18, [some (.ref 77), some (.int l1), u2, u3], [.int s0, .ref 77]) h _
  refine Ex.ask (rest := []) (j := m_X7_holds) (as := [.ref 77, .int s0]) (vst (a := 114) (b := 2) (c := 6) (rest := []) (vs := [.int s0]) rfl ⟨Nat.le_of_ble_eq_true rfl, Nat.le_of_ble_eq_true rfl⟩ rfl rfl (sg_77 hs)) ((t_X7_holds hs).mono (by omega) (fun _ _ z => z)) ?_
  rintro _ h1 ⟨rfl, e1⟩
  replace H := H h1 e1
  replace hs : Sg h1.1 y := by rw [e1]; exact hs
  show Ex d [] tb_X7_told (21, [some (.ref 77), some (.int l1), u2, u3], [.int (bi (s0 = 0))]) h1 _
  refine Ex.br (x := (33, [some (.ref 77), some (.int l1), u2, u3], [])) (y := (24, [some (.ref 77), some (.int l1), u2, u3], [])) (b := (bi (s0 = 0)) = 0) rfl (fun hb => ?_) (fun hb => ?_)
  · replace H := H.2 (bi_eq.mp hb)
    refine Ex.pure 1 (fr2 := (34, [some (.ref 77), some (.int l1), u2, u3], [.int 0])) rfl ?_
    exact Ex.iret rfl (Or.inl rfl) H
  · replace H := H.1 (bi_neq.mp hb)
    refine Ex.pure 1 (fr2 := (25, [some (.ref 77), some (.int l1), u2, u3], [.ref 77])) rfl ?_
    refine Ex.getQ rfl (sg_77 hs) rfl ?_
    refine Ex.pure 1 (fr2 := (29, [some (.ref 77), some (.int l1), u2, u3], [.int l1, .ref 78])) rfl ?_
    refine Ex.iald rfl (Or.inl rfl) (sg_78 hs) H.1 ?_
    replace H := H.2
    refine Ex.pure 1 (fr2 := (34, [some (.ref 77), some (.int l1), u2, u3], [.int (h1.2.1 78 (ix l1))])) rfl ?_
    exact Ex.iret rfl (Or.inl rfl) H
def b_X7_sum_31 (d : Nat) (u0 : Option Value) (u1 : Option Value) (u2 : Option Value) (u3 : Option Value) (u4 : Option Value) (s0 : Int32) (s1 : Int32) (r_7 : Nat) (h : XH) (K : XK) (E : XE) : Prop := Ex d [] tb_X7_sum (31, [u0, u1, u2, u3, u4], [.int s0, .int s1, .ref r_7]) h (Po K E)
def b_X7_sum_32 (d : Nat) (u0 : Option Value) (u1 : Option Value) (u2 : Option Value) (u3 : Option Value) (u4 : Option Value) (s0 : Int32) (s1 : Int32) (s2 : Int32) (r_8 : Nat) (h : XH) (K : XK) (E : XE) : Prop := Ex d [] tb_X7_sum (32, [u0, u1, u2, u3, u4], [.int s0, .int s1, .int s2, .ref r_8]) h (Po K E)
theorem w_X7_sum {d : Nat} {h : XH} {y : Nat → Nat} {K : XK} {E : XE} {a : Int32} {b : Int32} {c : Int32} (hd : 20 ≤ d) (hs : Sg h.1 y) (H : ((isp a ∧ isp b ∧ isp c) → (Ca d m_X7_setsSum [.ref 77, .int a, .int b, .int c] h (fun rv h2 => ∃ x3, rv = some (.int x3) ∧ Sg h2.1 y ∧ (x3 = 0 → b_X7_sum_31 d (some (.ref 77)) (some (.int a)) (some (.int b)) (some (.int c)) (some (.int (bi (isp a ∧ isp b ∧ isp c)))) (bi (isp a ∧ isp b ∧ isp c)) a 77 h2 K E) ∧ (¬ (x3 = 0) → b_X7_sum_32 d (some (.ref 77)) (some (.int a)) (some (.int b)) (some (.int c)) (some (.int (bi (isp a ∧ isp b ∧ isp c)))) 1 (bi (isp a ∧ isp b ∧ isp c)) a 77 h2 K E)) E)) ∧ (¬ (isp a ∧ isp b ∧ isp c) → b_X7_sum_31 d (some (.ref 77)) (some (.int a)) (some (.int b)) (some (.int c)) (some (.int (bi (isp a ∧ isp b ∧ isp c)))) (bi (isp a ∧ isp b ∧ isp c)) a 77 h K E)) : Ca (d + 1) m_X7_sum [.ref 77, .int a, .int b, .int c] h K E := by
  refine Ca.of ⟨by show 4 ≤ 5; omega, rfl⟩ ?_
  show Ex d [] tb_X7_sum (0, [some (.ref 77), some (.int a), some (.int b), some (.int c), none], []) h _
  refine Ex.pure 3 (fr2 := (3, [some (.ref 77), some (.int a), some (.int b), some (.int c), none], [.int c, .int b, .int a])) rfl ?_
  refine Ex.ask (rest := []) (j := m_X7_are) (as := [.int a, .int b, .int c]) (fun c => rfl) ((t_X7_are hs).mono (by omega) (fun _ _ z => z)) ?_
  rintro _ h0 ⟨rfl, e0⟩
  rw [e0]
  show Ex d [] tb_X7_sum (6, [some (.ref 77), some (.int a), some (.int b), some (.int c), none], [.int (bi (isp a ∧ isp b ∧ isp c))]) h _
  refine Ex.pure 5 (fr2 := (14, [some (.ref 77), some (.int a), some (.int b), some (.int c), some (.int (bi (isp a ∧ isp b ∧ isp c)))], [.int (bi (isp a ∧ isp b ∧ isp c)), .int (bi (isp a ∧ isp b ∧ isp c)), .int a, .ref 77])) rfl ?_
  refine Ex.br (x := (31, [some (.ref 77), some (.int a), some (.int b), some (.int c), some (.int (bi (isp a ∧ isp b ∧ isp c)))], [.int (bi (isp a ∧ isp b ∧ isp c)), .int a, .ref 77])) (y := (17, [some (.ref 77), some (.int a), some (.int b), some (.int c), some (.int (bi (isp a ∧ isp b ∧ isp c)))], [.int (bi (isp a ∧ isp b ∧ isp c)), .int a, .ref 77])) (b := (bi (isp a ∧ isp b ∧ isp c)) = 0) rfl (fun hb => ?_) (fun hb => ?_)
  · replace H := H.2 (bi_eq.mp hb)
    exact H
  · replace H := H.1 (bi_neq.mp hb)
    refine Ex.pure 4 (fr2 := (21, [some (.ref 77), some (.int a), some (.int b), some (.int c), some (.int (bi (isp a ∧ isp b ∧ isp c)))], [.int c, .int b, .int a, .ref 77, .int (bi (isp a ∧ isp b ∧ isp c)), .int a, .ref 77])) rfl ?_
    refine Ex.cal (rest := [.int (bi (isp a ∧ isp b ∧ isp c)), .int a, .ref 77]) (j := m_X7_setsSum) (as := [.ref 77, .int a, .int b, .int c]) (vst (a := 162) (b := 4) (c := 6) (rest := [.int (bi (isp a ∧ isp b ∧ isp c)), .int a, .ref 77]) (vs := [.int a, .int b, .int c]) rfl ⟨Nat.le_of_ble_eq_true rfl, Nat.le_of_ble_eq_true rfl⟩ rfl rfl (sg_77 hs)) (H.imp ?_)
    intro rv h2 H
    obtain ⟨x3, rfl, H⟩ := H
    obtain ⟨hs, H⟩ := H
    show Ex d [] tb_X7_sum (24, [some (.ref 77), some (.int a), some (.int b), some (.int c), some (.int (bi (isp a ∧ isp b ∧ isp c)))], [.int x3, .int (bi (isp a ∧ isp b ∧ isp c)), .int a, .ref 77]) h2 _
    refine Ex.br (x := (31, [some (.ref 77), some (.int a), some (.int b), some (.int c), some (.int (bi (isp a ∧ isp b ∧ isp c)))], [.int (bi (isp a ∧ isp b ∧ isp c)), .int a, .ref 77])) (y := (27, [some (.ref 77), some (.int a), some (.int b), some (.int c), some (.int (bi (isp a ∧ isp b ∧ isp c)))], [.int (bi (isp a ∧ isp b ∧ isp c)), .int a, .ref 77])) (b := x3 = 0) rfl (fun hb => ?_) (fun hb => ?_)
    · replace H := H.1 (hb)
      exact H
    · replace H := H.2 (hb)
      refine Ex.pure 2 (fr2 := (32, [some (.ref 77), some (.int a), some (.int b), some (.int c), some (.int (bi (isp a ∧ isp b ∧ isp c)))], [.int 1, .int (bi (isp a ∧ isp b ∧ isp c)), .int a, .ref 77])) rfl ?_
      exact H
theorem w_X7_sum_31 {d : Nat} {h : XH} {y : Nat → Nat} {K : XK} {E : XE} {u0 : Option Value} {u1 : Option Value} {u2 : Option Value} {u3 : Option Value} {u4 : Option Value} {s0 : Int32} {s1 : Int32} (hd : 20 ≤ d) (hs : Sg h.1 y) (H : b_X7_sum_32 d (u0) (u1) (u2) (u3) (u4) 0 s0 s1 77 h K E) : b_X7_sum_31 d u0 u1 u2 u3 u4 s0 s1 77 h K E := by
  show Ex d [] tb_X7_sum (31, [u0, u1, u2, u3, u4], [.int s0, .int s1, .ref 77]) h _
  refine Ex.pure 1 (fr2 := (32, [u0, u1, u2, u3, u4], [.int 0, .int s0, .int s1, .ref 77])) rfl ?_
  exact H
theorem w_X7_sum_32 {d : Nat} {h : XH} {y : Nat → Nat} {K : XK} {E : XE} {u0 : Option Value} {u1 : Option Value} {u2 : Option Value} {u3 : Option Value} {u4 : Option Value} {s0 : Int32} {s1 : Int32} {s2 : Int32} (hd : 20 ≤ d) (hs : Sg h.1 y) (H : (Ca d m_X7_told [.ref 77, .int s2, .int s1, .int s0] h (fun rv h1 => ∃ x2, rv = some (.int x2) ∧ Sg h1.1 y ∧ K (some (.int x2)) h1) E)) : b_X7_sum_32 d u0 u1 u2 u3 u4 s0 s1 s2 77 h K E := by
  show Ex d [] tb_X7_sum (32, [u0, u1, u2, u3, u4], [.int s0, .int s1, .int s2, .ref 77]) h _
  refine Ex.cal (rest := []) (j := m_X7_told) (as := [.ref 77, .int s2, .int s1, .int s0]) (vst (a := 163) (b := 4) (c := 6) (rest := []) (vs := [.int s2, .int s1, .int s0]) rfl ⟨Nat.le_of_ble_eq_true rfl, Nat.le_of_ble_eq_true rfl⟩ rfl rfl (sg_77 hs)) (H.imp ?_)
  intro rv h1 H
  obtain ⟨x2, rfl, H⟩ := H
  obtain ⟨hs, H⟩ := H
  show Ex d [] tb_X7_sum (35, [u0, u1, u2, u3, u4], [.int x2]) h1 _
  exact Ex.iret rfl (Or.inl rfl) H
def b_X7_setsProduct_33 (d : Nat) (r_0 : Nat) (l1 : Int32) (l2 : Int32) (l3 : Int32) (u4 : Option Value) (u5 : Option Value) (s0 : Int64) (h : XH) (K : XK) (E : XE) : Prop := Ex d [] tb_X7_setsProduct (33, [some (.ref r_0), some (.int l1), some (.int l2), some (.int l3), u4, u5], [.long s0]) h (Po K E)
theorem w_X7_setsProduct {d : Nat} {h : XH} {y : Nat → Nat} {K : XK} {E : XE} {a : Int32} {b : Int32} {c : Int32} (hd : 20 ≤ d) (hs : Sg h.1 y) (H : (Ca d m_X7_begin [.ref 77] h (fun rv h1 => rv = none ∧ Sg h1.1 y ∧ (Ca d m_X7_areBoth [.ref 77, .int b, .int c, .int 2] h1 (fun rv h3 => ∃ x4, rv = some (.int x4) ∧ Sg h3.1 y ∧ (x4 = 0 → b_X7_setsProduct_33 d 77 a b c none none 0 h3 K E) ∧ (¬ (x4 = 0) → (Ix b 16 ∧ (Ix c 16 ∧ b_X7_setsProduct_33 d 77 a b c none none (((h3.2.1 79 (ix b)) : Int32).toInt64 * ((h3.2.1 79 (ix c)) : Int32).toInt64) h3 K E)))) E)) E)) : Ca (d + 1) m_X7_setsProduct [.ref 77, .int a, .int b, .int c] h K E := by
  refine Ca.of ⟨by show 4 ≤ 6; omega, rfl⟩ ?_
  show Ex d [] tb_X7_setsProduct (0, [some (.ref 77), some (.int a), some (.int b), some (.int c), none, none], []) h _
  refine Ex.pure 1 (fr2 := (1, [some (.ref 77), some (.int a), some (.int b), some (.int c), none, none], [.ref 77])) rfl ?_
  refine Ex.cal (rest := []) (j := m_X7_begin) (as := [.ref 77]) (vst (a := 150) (b := 1) (c := 6) (rest := []) (vs := []) rfl ⟨Nat.le_of_ble_eq_true rfl, Nat.le_of_ble_eq_true rfl⟩ rfl rfl (sg_77 hs)) (H.imp ?_)
  intro rv h1 H
  obtain ⟨rfl, H⟩ := H
  obtain ⟨hs, H⟩ := H
  show Ex d [] tb_X7_setsProduct (4, [some (.ref 77), some (.int a), some (.int b), some (.int c), none, none], []) h1 _
  refine Ex.pure 4 (fr2 := (8, [some (.ref 77), some (.int a), some (.int b), some (.int c), none, none], [.int 2, .int c, .int b, .ref 77])) rfl ?_
  refine Ex.cal (rest := []) (j := m_X7_areBoth) (as := [.ref 77, .int b, .int c, .int 2]) (vst (a := 158) (b := 4) (c := 6) (rest := []) (vs := [.int b, .int c, .int 2]) rfl ⟨Nat.le_of_ble_eq_true rfl, Nat.le_of_ble_eq_true rfl⟩ rfl rfl (sg_77 hs)) (H.imp ?_)
  intro rv h3 H
  obtain ⟨x4, rfl, H⟩ := H
  obtain ⟨hs, H⟩ := H
  show Ex d [] tb_X7_setsProduct (11, [some (.ref 77), some (.int a), some (.int b), some (.int c), none, none], [.int x4]) h3 _
  refine Ex.br (x := (32, [some (.ref 77), some (.int a), some (.int b), some (.int c), none, none], [])) (y := (14, [some (.ref 77), some (.int a), some (.int b), some (.int c), none, none], [])) (b := x4 = 0) rfl (fun hb => ?_) (fun hb => ?_)
  · replace H := H.1 (hb)
    refine Ex.pure 1 (fr2 := (33, [some (.ref 77), some (.int a), some (.int b), some (.int c), none, none], [.long 0])) rfl ?_
    exact H
  · replace H := H.2 (hb)
    refine Ex.pure 1 (fr2 := (15, [some (.ref 77), some (.int a), some (.int b), some (.int c), none, none], [.ref 77])) rfl ?_
    refine Ex.getQ rfl (sg_77 hs) rfl ?_
    refine Ex.pure 1 (fr2 := (19, [some (.ref 77), some (.int a), some (.int b), some (.int c), none, none], [.int b, .ref 79])) rfl ?_
    refine Ex.iald rfl (Or.inl rfl) (sg_79 hs) H.1 ?_
    replace H := H.2
    refine Ex.pure 2 (fr2 := (22, [some (.ref 77), some (.int a), some (.int b), some (.int c), none, none], [.ref 77, .long (((h3.2.1 79 (ix b)) : Int32).toInt64)])) rfl ?_
    refine Ex.getQ rfl (sg_77 hs) rfl ?_
    refine Ex.pure 1 (fr2 := (26, [some (.ref 77), some (.int a), some (.int b), some (.int c), none, none], [.int c, .ref 79, .long (((h3.2.1 79 (ix b)) : Int32).toInt64)])) rfl ?_
    refine Ex.iald rfl (Or.inl rfl) (sg_79 hs) H.1 ?_
    replace H := H.2
    refine Ex.pure 3 (fr2 := (33, [some (.ref 77), some (.int a), some (.int b), some (.int c), none, none], [.long (((h3.2.1 79 (ix b)) : Int32).toInt64 * ((h3.2.1 79 (ix c)) : Int32).toInt64)])) rfl ?_
    exact H
theorem w_X7_setsProduct_33 {d : Nat} {h : XH} {y : Nat → Nat} {K : XK} {E : XE} {l1 : Int32} {l2 : Int32} {l3 : Int32} {u4 : Option Value} {u5 : Option Value} {s0 : Int64} (hd : 20 ≤ d) (hs : Sg h.1 y) (H : (Ca d m_X7_areBoth [.ref 77, .int l2, .int l3, .int 1] h (fun rv h1 => ∃ x2, rv = some (.int x2) ∧ Sg h1.1 y ∧ (x2 = 0 → (Ca d m_X7_areBoth [.ref 77, .int l2, .int l3, .int 2] h1 (fun rv h3 => ∃ x4, rv = some (.int x4) ∧ Sg h3.1 y ∧ (x4 = 0 → (Ca d m_X7_areBoth [.ref 77, .int l2, .int l3, .int 3] h3 (fun rv h5 => ∃ x6, rv = some (.int x6) ∧ Sg h5.1 y ∧ (x6 = 0 → K (some (.int 0)) h5) ∧ (¬ (x6 = 0) → (Ca d m_X7_multiplies [.ref 77, .int l2, .int l3] h5 (fun rv h7 => ∃ x8, rv = some (.int x8) ∧ Sg h7.1 y ∧ (Ca d m_X7_setsGrowth [.ref 77, .int l1, .int x8] h7 (fun rv h9 => ∃ x10, rv = some (.int x10) ∧ Sg h9.1 y ∧ (x10 = 0 → K (some (.int 0)) h9) ∧ (¬ (x10 = 0) → K (some (.int 1)) h9)) E)) E))) E)) ∧ (¬ (x4 = 0) → (¬ (s0 - s0 / 1048576 * 1048576) = 0 → K (some (.int 0)) h3) ∧ (¬ (¬ (s0 - s0 / 1048576 * 1048576) = 0) → (Ca d m_X7_setsNumber [.ref 77, .int l1, .long (s0 / 1048576)] h3 (fun rv h11 => ∃ x12, rv = some (.int x12) ∧ Sg h11.1 y ∧ (x12 = 0 → K (some (.int 0)) h11) ∧ (¬ (x12 = 0) → K (some (.int 1)) h11)) E)))) E)) ∧ (¬ (x2 = 0) → (Ix l2 16 ∧ (Ix l3 16 ∧ (Ca d m_X7_multiplied [.ref 77, .int (h1.2.1 79 (ix l2)), .int (h1.2.1 79 (ix l3))] h1 (fun rv h13 => ∃ x14, rv = some (.int x14) ∧ Sg h13.1 y ∧ (Ca d m_X7_setsOrdinal [.ref 77, .int l1, .int x14] h13 (fun rv h15 => ∃ x16, rv = some (.int x16) ∧ Sg h15.1 y ∧ (x16 = 0 ∨ x16 = 1) ∧ K (some (.int x16)) h15) E)) E))))) E)) : b_X7_setsProduct_33 d 77 l1 l2 l3 u4 u5 s0 h K E := by
  show Ex d [] tb_X7_setsProduct (33, [some (.ref 77), some (.int l1), some (.int l2), some (.int l3), u4, u5], [.long s0]) h _
  refine Ex.pure 5 (fr2 := (39, [some (.ref 77), some (.int l1), some (.int l2), some (.int l3), some (.long s0), none], [.int 1, .int l3, .int l2, .ref 77])) rfl ?_
  refine Ex.cal (rest := []) (j := m_X7_areBoth) (as := [.ref 77, .int l2, .int l3, .int 1]) (vst (a := 158) (b := 4) (c := 6) (rest := []) (vs := [.int l2, .int l3, .int 1]) rfl ⟨Nat.le_of_ble_eq_true rfl, Nat.le_of_ble_eq_true rfl⟩ rfl rfl (sg_77 hs)) (H.imp ?_)
  intro rv h1 H
  obtain ⟨x2, rfl, H⟩ := H
  obtain ⟨hs, H⟩ := H
  show Ex d [] tb_X7_setsProduct (42, [some (.ref 77), some (.int l1), some (.int l2), some (.int l3), some (.long s0), none], [.int x2]) h1 _
  refine Ex.br (x := (69, [some (.ref 77), some (.int l1), some (.int l2), some (.int l3), some (.long s0), none], [])) (y := (45, [some (.ref 77), some (.int l1), some (.int l2), some (.int l3), some (.long s0), none], [])) (b := x2 = 0) rfl (fun hb => ?_) (fun hb => ?_)
  · replace H := H.1 (hb)
    refine Ex.pure 4 (fr2 := (73, [some (.ref 77), some (.int l1), some (.int l2), some (.int l3), some (.long s0), none], [.int 2, .int l3, .int l2, .ref 77])) rfl ?_
    refine Ex.cal (rest := []) (j := m_X7_areBoth) (as := [.ref 77, .int l2, .int l3, .int 2]) (vst (a := 158) (b := 4) (c := 6) (rest := []) (vs := [.int l2, .int l3, .int 2]) rfl ⟨Nat.le_of_ble_eq_true rfl, Nat.le_of_ble_eq_true rfl⟩ rfl rfl (sg_77 hs)) (H.imp ?_)
    intro rv h3 H
    obtain ⟨x4, rfl, H⟩ := H
    obtain ⟨hs, H⟩ := H
    show Ex d [] tb_X7_setsProduct (76, [some (.ref 77), some (.int l1), some (.int l2), some (.int l3), some (.long s0), none], [.int x4]) h3 _
    refine Ex.br (x := (112, [some (.ref 77), some (.int l1), some (.int l2), some (.int l3), some (.long s0), none], [])) (y := (79, [some (.ref 77), some (.int l1), some (.int l2), some (.int l3), some (.long s0), none], [])) (b := x4 = 0) rfl (fun hb => ?_) (fun hb => ?_)
    · replace H := H.1 (hb)
      refine Ex.pure 4 (fr2 := (116, [some (.ref 77), some (.int l1), some (.int l2), some (.int l3), some (.long s0), none], [.int 3, .int l3, .int l2, .ref 77])) rfl ?_
      refine Ex.cal (rest := []) (j := m_X7_areBoth) (as := [.ref 77, .int l2, .int l3, .int 3]) (vst (a := 158) (b := 4) (c := 6) (rest := []) (vs := [.int l2, .int l3, .int 3]) rfl ⟨Nat.le_of_ble_eq_true rfl, Nat.le_of_ble_eq_true rfl⟩ rfl rfl (sg_77 hs)) (H.imp ?_)
      intro rv h5 H
      obtain ⟨x6, rfl, H⟩ := H
      obtain ⟨hs, H⟩ := H
      show Ex d [] tb_X7_setsProduct (119, [some (.ref 77), some (.int l1), some (.int l2), some (.int l3), some (.long s0), none], [.int x6]) h5 _
      refine Ex.br (x := (140, [some (.ref 77), some (.int l1), some (.int l2), some (.int l3), some (.long s0), none], [])) (y := (122, [some (.ref 77), some (.int l1), some (.int l2), some (.int l3), some (.long s0), none], [])) (b := x6 = 0) rfl (fun hb => ?_) (fun hb => ?_)
      · replace H := H.1 (hb)
        refine Ex.pure 1 (fr2 := (141, [some (.ref 77), some (.int l1), some (.int l2), some (.int l3), some (.long s0), none], [.int 0])) rfl ?_
        exact Ex.iret rfl (Or.inr ⟨rfl, by decide⟩) H
      · replace H := H.2 (hb)
        refine Ex.pure 5 (fr2 := (127, [some (.ref 77), some (.int l1), some (.int l2), some (.int l3), some (.long s0), none], [.int l3, .int l2, .ref 77, .int l1, .ref 77])) rfl ?_
        refine Ex.cal (rest := [.int l1, .ref 77]) (j := m_X7_multiplies) (as := [.ref 77, .int l2, .int l3]) (vst (a := 140) (b := 3) (c := 6) (rest := [.int l1, .ref 77]) (vs := [.int l2, .int l3]) rfl ⟨Nat.le_of_ble_eq_true rfl, Nat.le_of_ble_eq_true rfl⟩ rfl rfl (sg_77 hs)) (H.imp ?_)
        intro rv h7 H
        obtain ⟨x8, rfl, H⟩ := H
        obtain ⟨hs, H⟩ := H
        show Ex d [] tb_X7_setsProduct (130, [some (.ref 77), some (.int l1), some (.int l2), some (.int l3), some (.long s0), none], [.int x8, .int l1, .ref 77]) h7 _
        refine Ex.cal (rest := []) (j := m_X7_setsGrowth) (as := [.ref 77, .int l1, .int x8]) (vst (a := 161) (b := 3) (c := 6) (rest := []) (vs := [.int l1, .int x8]) rfl ⟨Nat.le_of_ble_eq_true rfl, Nat.le_of_ble_eq_true rfl⟩ rfl rfl (sg_77 hs)) (H.imp ?_)
        intro rv h9 H
        obtain ⟨x10, rfl, H⟩ := H
        obtain ⟨hs, H⟩ := H
        show Ex d [] tb_X7_setsProduct (133, [some (.ref 77), some (.int l1), some (.int l2), some (.int l3), some (.long s0), none], [.int x10]) h9 _
        refine Ex.br (x := (140, [some (.ref 77), some (.int l1), some (.int l2), some (.int l3), some (.long s0), none], [])) (y := (136, [some (.ref 77), some (.int l1), some (.int l2), some (.int l3), some (.long s0), none], [])) (b := x10 = 0) rfl (fun hb => ?_) (fun hb => ?_)
        · replace H := H.1 (hb)
          refine Ex.pure 1 (fr2 := (141, [some (.ref 77), some (.int l1), some (.int l2), some (.int l3), some (.long s0), none], [.int 0])) rfl ?_
          exact Ex.iret rfl (Or.inr ⟨rfl, by decide⟩) H
        · replace H := H.2 (hb)
          refine Ex.pure 2 (fr2 := (141, [some (.ref 77), some (.int l1), some (.int l2), some (.int l3), some (.long s0), none], [.int 1])) rfl ?_
          exact Ex.iret rfl (Or.inr ⟨rfl, by decide⟩) H
    · replace H := H.2 (hb)
      refine Ex.pure 2 (fr2 := (84, [some (.ref 77), some (.int l1), some (.int l2), some (.int l3), some (.long s0), none], [.long 1048576, .long s0])) rfl ?_
      refine Ex.lrem rfl (by decide) ?_
      refine Ex.pure 2 (fr2 := (87, [some (.ref 77), some (.int l1), some (.int l2), some (.int l3), some (.long s0), none], [.int (lg_cmp (s0 - s0 / 1048576 * 1048576) 0)])) rfl ?_
      refine Ex.br (x := (108, [some (.ref 77), some (.int l1), some (.int l2), some (.int l3), some (.long s0), none], [])) (y := (90, [some (.ref 77), some (.int l1), some (.int l2), some (.int l3), some (.long s0), none], [])) (b := ¬ (lg_cmp (s0 - s0 / 1048576 * 1048576) 0) = 0) rfl (fun hb => ?_) (fun hb => ?_)
      · replace H := H.1 (fun z => hb ((lg_cmp_eq _ _).mpr z))
        refine Ex.pure 2 (fr2 := (141, [some (.ref 77), some (.int l1), some (.int l2), some (.int l3), some (.long s0), none], [.int 0])) rfl ?_
        exact Ex.iret rfl (Or.inr ⟨rfl, by decide⟩) H
      · replace H := H.2 (fun z => hb (fun w => z ((lg_cmp_eq _ _).mp w)))
        refine Ex.pure 4 (fr2 := (97, [some (.ref 77), some (.int l1), some (.int l2), some (.int l3), some (.long s0), none], [.long 1048576, .long s0, .int l1, .ref 77])) rfl ?_
        refine Ex.ldiv rfl (by decide) ?_
        refine Ex.cal (rest := []) (j := m_X7_setsNumber) (as := [.ref 77, .int l1, .long (s0 / 1048576)]) (vst (a := 160) (b := 3) (c := 6) (rest := []) (vs := [.int l1, .long (s0 / 1048576)]) rfl ⟨Nat.le_of_ble_eq_true rfl, Nat.le_of_ble_eq_true rfl⟩ rfl rfl (sg_77 hs)) (H.imp ?_)
        intro rv h11 H
        obtain ⟨x12, rfl, H⟩ := H
        obtain ⟨hs, H⟩ := H
        show Ex d [] tb_X7_setsProduct (101, [some (.ref 77), some (.int l1), some (.int l2), some (.int l3), some (.long s0), none], [.int x12]) h11 _
        refine Ex.br (x := (108, [some (.ref 77), some (.int l1), some (.int l2), some (.int l3), some (.long s0), none], [])) (y := (104, [some (.ref 77), some (.int l1), some (.int l2), some (.int l3), some (.long s0), none], [])) (b := x12 = 0) rfl (fun hb => ?_) (fun hb => ?_)
        · replace H := H.1 (hb)
          refine Ex.pure 2 (fr2 := (141, [some (.ref 77), some (.int l1), some (.int l2), some (.int l3), some (.long s0), none], [.int 0])) rfl ?_
          exact Ex.iret rfl (Or.inr ⟨rfl, by decide⟩) H
        · replace H := H.2 (hb)
          refine Ex.pure 2 (fr2 := (141, [some (.ref 77), some (.int l1), some (.int l2), some (.int l3), some (.long s0), none], [.int 1])) rfl ?_
          exact Ex.iret rfl (Or.inr ⟨rfl, by decide⟩) H
  · replace H := H.2 (hb)
    refine Ex.pure 4 (fr2 := (49, [some (.ref 77), some (.int l1), some (.int l2), some (.int l3), some (.long s0), none], [.ref 77, .ref 77, .int l1, .ref 77])) rfl ?_
    refine Ex.getQ rfl (sg_77 hs) rfl ?_
    refine Ex.pure 1 (fr2 := (53, [some (.ref 77), some (.int l1), some (.int l2), some (.int l3), some (.long s0), none], [.int l2, .ref 79, .ref 77, .int l1, .ref 77])) rfl ?_
    refine Ex.iald rfl (Or.inl rfl) (sg_79 hs) H.1 ?_
    replace H := H.2
    refine Ex.pure 1 (fr2 := (55, [some (.ref 77), some (.int l1), some (.int l2), some (.int l3), some (.long s0), none], [.ref 77, .int (h1.2.1 79 (ix l2)), .ref 77, .int l1, .ref 77])) rfl ?_
    refine Ex.getQ rfl (sg_77 hs) rfl ?_
    refine Ex.pure 1 (fr2 := (59, [some (.ref 77), some (.int l1), some (.int l2), some (.int l3), some (.long s0), none], [.int l3, .ref 79, .int (h1.2.1 79 (ix l2)), .ref 77, .int l1, .ref 77])) rfl ?_
    refine Ex.iald rfl (Or.inl rfl) (sg_79 hs) H.1 ?_
    replace H := H.2
    refine Ex.cal (rest := [.int l1, .ref 77]) (j := m_X7_multiplied) (as := [.ref 77, .int (h1.2.1 79 (ix l2)), .int (h1.2.1 79 (ix l3))]) (vst (a := 127) (b := 3) (c := 6) (rest := [.int l1, .ref 77]) (vs := [.int (h1.2.1 79 (ix l2)), .int (h1.2.1 79 (ix l3))]) rfl ⟨Nat.le_of_ble_eq_true rfl, Nat.le_of_ble_eq_true rfl⟩ rfl rfl (sg_77 hs)) (H.imp ?_)
    intro rv h13 H
    obtain ⟨x14, rfl, H⟩ := H
    obtain ⟨hs, H⟩ := H
    show Ex d [] tb_X7_setsProduct (63, [some (.ref 77), some (.int l1), some (.int l2), some (.int l3), some (.long s0), none], [.int x14, .int l1, .ref 77]) h13 _
    refine Ex.cal (rest := []) (j := m_X7_setsOrdinal) (as := [.ref 77, .int l1, .int x14]) (vst (a := 159) (b := 3) (c := 6) (rest := []) (vs := [.int l1, .int x14]) rfl ⟨Nat.le_of_ble_eq_true rfl, Nat.le_of_ble_eq_true rfl⟩ rfl rfl (sg_77 hs)) (H.imp ?_)
    intro rv h15 H
    obtain ⟨x16, rfl, H⟩ := H
    obtain ⟨hs, H⟩ := H
    show Ex d [] tb_X7_setsProduct (66, [some (.ref 77), some (.int l1), some (.int l2), some (.int l3), some (.long s0), none], [.int x16]) h15 _
    refine Ex.pure 1 (fr2 := (141, [some (.ref 77), some (.int l1), some (.int l2), some (.int l3), some (.long s0), none], [.int x16])) rfl ?_
    exact Ex.iret rfl (Or.inr ⟨rfl, H.1⟩) H.2
def b_X7_product_31 (d : Nat) (u0 : Option Value) (u1 : Option Value) (u2 : Option Value) (u3 : Option Value) (u4 : Option Value) (s0 : Int32) (s1 : Int32) (r_7 : Nat) (h : XH) (K : XK) (E : XE) : Prop := Ex d [] tb_X7_product (31, [u0, u1, u2, u3, u4], [.int s0, .int s1, .ref r_7]) h (Po K E)
def b_X7_product_32 (d : Nat) (u0 : Option Value) (u1 : Option Value) (u2 : Option Value) (u3 : Option Value) (u4 : Option Value) (s0 : Int32) (s1 : Int32) (s2 : Int32) (r_8 : Nat) (h : XH) (K : XK) (E : XE) : Prop := Ex d [] tb_X7_product (32, [u0, u1, u2, u3, u4], [.int s0, .int s1, .int s2, .ref r_8]) h (Po K E)
theorem w_X7_product {d : Nat} {h : XH} {y : Nat → Nat} {K : XK} {E : XE} {a : Int32} {b : Int32} {c : Int32} (hd : 20 ≤ d) (hs : Sg h.1 y) (H : ((isp a ∧ isp b ∧ isp c) → (Ca d m_X7_setsProduct [.ref 77, .int a, .int b, .int c] h (fun rv h2 => ∃ x3, rv = some (.int x3) ∧ Sg h2.1 y ∧ (x3 = 0 → b_X7_product_31 d (some (.ref 77)) (some (.int a)) (some (.int b)) (some (.int c)) (some (.int (bi (isp a ∧ isp b ∧ isp c)))) (bi (isp a ∧ isp b ∧ isp c)) a 77 h2 K E) ∧ (¬ (x3 = 0) → b_X7_product_32 d (some (.ref 77)) (some (.int a)) (some (.int b)) (some (.int c)) (some (.int (bi (isp a ∧ isp b ∧ isp c)))) 1 (bi (isp a ∧ isp b ∧ isp c)) a 77 h2 K E)) E)) ∧ (¬ (isp a ∧ isp b ∧ isp c) → b_X7_product_31 d (some (.ref 77)) (some (.int a)) (some (.int b)) (some (.int c)) (some (.int (bi (isp a ∧ isp b ∧ isp c)))) (bi (isp a ∧ isp b ∧ isp c)) a 77 h K E)) : Ca (d + 1) m_X7_product [.ref 77, .int a, .int b, .int c] h K E := by
  refine Ca.of ⟨by show 4 ≤ 5; omega, rfl⟩ ?_
  show Ex d [] tb_X7_product (0, [some (.ref 77), some (.int a), some (.int b), some (.int c), none], []) h _
  refine Ex.pure 3 (fr2 := (3, [some (.ref 77), some (.int a), some (.int b), some (.int c), none], [.int c, .int b, .int a])) rfl ?_
  refine Ex.ask (rest := []) (j := m_X7_are) (as := [.int a, .int b, .int c]) (fun c => rfl) ((t_X7_are hs).mono (by omega) (fun _ _ z => z)) ?_
  rintro _ h0 ⟨rfl, e0⟩
  rw [e0]
  show Ex d [] tb_X7_product (6, [some (.ref 77), some (.int a), some (.int b), some (.int c), none], [.int (bi (isp a ∧ isp b ∧ isp c))]) h _
  refine Ex.pure 5 (fr2 := (14, [some (.ref 77), some (.int a), some (.int b), some (.int c), some (.int (bi (isp a ∧ isp b ∧ isp c)))], [.int (bi (isp a ∧ isp b ∧ isp c)), .int (bi (isp a ∧ isp b ∧ isp c)), .int a, .ref 77])) rfl ?_
  refine Ex.br (x := (31, [some (.ref 77), some (.int a), some (.int b), some (.int c), some (.int (bi (isp a ∧ isp b ∧ isp c)))], [.int (bi (isp a ∧ isp b ∧ isp c)), .int a, .ref 77])) (y := (17, [some (.ref 77), some (.int a), some (.int b), some (.int c), some (.int (bi (isp a ∧ isp b ∧ isp c)))], [.int (bi (isp a ∧ isp b ∧ isp c)), .int a, .ref 77])) (b := (bi (isp a ∧ isp b ∧ isp c)) = 0) rfl (fun hb => ?_) (fun hb => ?_)
  · replace H := H.2 (bi_eq.mp hb)
    exact H
  · replace H := H.1 (bi_neq.mp hb)
    refine Ex.pure 4 (fr2 := (21, [some (.ref 77), some (.int a), some (.int b), some (.int c), some (.int (bi (isp a ∧ isp b ∧ isp c)))], [.int c, .int b, .int a, .ref 77, .int (bi (isp a ∧ isp b ∧ isp c)), .int a, .ref 77])) rfl ?_
    refine Ex.cal (rest := [.int (bi (isp a ∧ isp b ∧ isp c)), .int a, .ref 77]) (j := m_X7_setsProduct) (as := [.ref 77, .int a, .int b, .int c]) (vst (a := 165) (b := 4) (c := 6) (rest := [.int (bi (isp a ∧ isp b ∧ isp c)), .int a, .ref 77]) (vs := [.int a, .int b, .int c]) rfl ⟨Nat.le_of_ble_eq_true rfl, Nat.le_of_ble_eq_true rfl⟩ rfl rfl (sg_77 hs)) (H.imp ?_)
    intro rv h2 H
    obtain ⟨x3, rfl, H⟩ := H
    obtain ⟨hs, H⟩ := H
    show Ex d [] tb_X7_product (24, [some (.ref 77), some (.int a), some (.int b), some (.int c), some (.int (bi (isp a ∧ isp b ∧ isp c)))], [.int x3, .int (bi (isp a ∧ isp b ∧ isp c)), .int a, .ref 77]) h2 _
    refine Ex.br (x := (31, [some (.ref 77), some (.int a), some (.int b), some (.int c), some (.int (bi (isp a ∧ isp b ∧ isp c)))], [.int (bi (isp a ∧ isp b ∧ isp c)), .int a, .ref 77])) (y := (27, [some (.ref 77), some (.int a), some (.int b), some (.int c), some (.int (bi (isp a ∧ isp b ∧ isp c)))], [.int (bi (isp a ∧ isp b ∧ isp c)), .int a, .ref 77])) (b := x3 = 0) rfl (fun hb => ?_) (fun hb => ?_)
    · replace H := H.1 (hb)
      exact H
    · replace H := H.2 (hb)
      refine Ex.pure 2 (fr2 := (32, [some (.ref 77), some (.int a), some (.int b), some (.int c), some (.int (bi (isp a ∧ isp b ∧ isp c)))], [.int 1, .int (bi (isp a ∧ isp b ∧ isp c)), .int a, .ref 77])) rfl ?_
      exact H
theorem w_X7_product_31 {d : Nat} {h : XH} {y : Nat → Nat} {K : XK} {E : XE} {u0 : Option Value} {u1 : Option Value} {u2 : Option Value} {u3 : Option Value} {u4 : Option Value} {s0 : Int32} {s1 : Int32} (hd : 20 ≤ d) (hs : Sg h.1 y) (H : b_X7_product_32 d (u0) (u1) (u2) (u3) (u4) 0 s0 s1 77 h K E) : b_X7_product_31 d u0 u1 u2 u3 u4 s0 s1 77 h K E := by
  show Ex d [] tb_X7_product (31, [u0, u1, u2, u3, u4], [.int s0, .int s1, .ref 77]) h _
  refine Ex.pure 1 (fr2 := (32, [u0, u1, u2, u3, u4], [.int 0, .int s0, .int s1, .ref 77])) rfl ?_
  exact H
theorem w_X7_product_32 {d : Nat} {h : XH} {y : Nat → Nat} {K : XK} {E : XE} {u0 : Option Value} {u1 : Option Value} {u2 : Option Value} {u3 : Option Value} {u4 : Option Value} {s0 : Int32} {s1 : Int32} {s2 : Int32} (hd : 20 ≤ d) (hs : Sg h.1 y) (H : (Ca d m_X7_told [.ref 77, .int s2, .int s1, .int s0] h (fun rv h1 => ∃ x2, rv = some (.int x2) ∧ Sg h1.1 y ∧ K (some (.int x2)) h1) E)) : b_X7_product_32 d u0 u1 u2 u3 u4 s0 s1 s2 77 h K E := by
  show Ex d [] tb_X7_product (32, [u0, u1, u2, u3, u4], [.int s0, .int s1, .int s2, .ref 77]) h _
  refine Ex.cal (rest := []) (j := m_X7_told) (as := [.ref 77, .int s2, .int s1, .int s0]) (vst (a := 163) (b := 4) (c := 6) (rest := []) (vs := [.int s2, .int s1, .int s0]) rfl ⟨Nat.le_of_ble_eq_true rfl, Nat.le_of_ble_eq_true rfl⟩ rfl rfl (sg_77 hs)) (H.imp ?_)
  intro rv h1 H
  obtain ⟨x2, rfl, H⟩ := H
  obtain ⟨hs, H⟩ := H
  show Ex d [] tb_X7_product (35, [u0, u1, u2, u3, u4], [.int x2]) h1 _
  exact Ex.iret rfl (Or.inl rfl) H
theorem w_X7_setsDifference {d : Nat} {h : XH} {y : Nat → Nat} {K : XK} {E : XE} {a : Int32} {b : Int32} {c : Int32} (hd : 20 ≤ d) (hs : Sg h.1 y) (H : (Ca d m_X7_areBoth [.ref 77, .int b, .int c, .int 2] h (fun rv h1 => ∃ x2, rv = some (.int x2) ∧ Sg h1.1 y ∧ (x2 = 0 → (Ca d m_X7_areBoth [.ref 77, .int b, .int c, .int 3] h1 (fun rv h3 => ∃ x4, rv = some (.int x4) ∧ Sg h3.1 y ∧ (x4 = 0 → K (some (.int 0)) h3) ∧ (¬ (x4 = 0) → (Ca d m_X7_joinsBoth [.ref 77, .int b, .int c, .int (-1)] h3 (fun rv h5 => ∃ x6, rv = some (.int x6) ∧ Sg h5.1 y ∧ (Ca d m_X7_setsGrowth [.ref 77, .int a, .int x6] h5 (fun rv h7 => ∃ x8, rv = some (.int x8) ∧ Sg h7.1 y ∧ (x8 = 0 → K (some (.int 0)) h7) ∧ (¬ (x8 = 0) → K (some (.int 1)) h7)) E)) E))) E)) ∧ (¬ (x2 = 0) → (Ix b 16 ∧ (Ix c 16 ∧ (Ca d m_X7_setsNumber [.ref 77, .int a, .long (((h1.2.1 79 (ix b)) : Int32).toInt64 - ((h1.2.1 79 (ix c)) : Int32).toInt64)] h1 (fun rv h9 => ∃ x10, rv = some (.int x10) ∧ Sg h9.1 y ∧ (x10 = 0 ∨ x10 = 1) ∧ K (some (.int x10)) h9) E))))) E)) : Ca (d + 1) m_X7_setsDifference [.ref 77, .int a, .int b, .int c] h K E := by
  refine Ca.of ⟨by show 4 ≤ 4; omega, rfl⟩ ?_
  show Ex d [] tb_X7_setsDifference (0, [some (.ref 77), some (.int a), some (.int b), some (.int c)], []) h _
  refine Ex.pure 4 (fr2 := (4, [some (.ref 77), some (.int a), some (.int b), some (.int c)], [.int 2, .int c, .int b, .ref 77])) rfl ?_
  refine Ex.cal (rest := []) (j := m_X7_areBoth) (as := [.ref 77, .int b, .int c, .int 2]) (vst (a := 158) (b := 4) (c := 6) (rest := []) (vs := [.int b, .int c, .int 2]) rfl ⟨Nat.le_of_ble_eq_true rfl, Nat.le_of_ble_eq_true rfl⟩ rfl rfl (sg_77 hs)) (H.imp ?_)
  intro rv h1 H
  obtain ⟨x2, rfl, H⟩ := H
  obtain ⟨hs, H⟩ := H
  show Ex d [] tb_X7_setsDifference (7, [some (.ref 77), some (.int a), some (.int b), some (.int c)], [.int x2]) h1 _
  refine Ex.br (x := (33, [some (.ref 77), some (.int a), some (.int b), some (.int c)], [])) (y := (10, [some (.ref 77), some (.int a), some (.int b), some (.int c)], [])) (b := x2 = 0) rfl (fun hb => ?_) (fun hb => ?_)
  · replace H := H.1 (hb)
    refine Ex.pure 4 (fr2 := (37, [some (.ref 77), some (.int a), some (.int b), some (.int c)], [.int 3, .int c, .int b, .ref 77])) rfl ?_
    refine Ex.cal (rest := []) (j := m_X7_areBoth) (as := [.ref 77, .int b, .int c, .int 3]) (vst (a := 158) (b := 4) (c := 6) (rest := []) (vs := [.int b, .int c, .int 3]) rfl ⟨Nat.le_of_ble_eq_true rfl, Nat.le_of_ble_eq_true rfl⟩ rfl rfl (sg_77 hs)) (H.imp ?_)
    intro rv h3 H
    obtain ⟨x4, rfl, H⟩ := H
    obtain ⟨hs, H⟩ := H
    show Ex d [] tb_X7_setsDifference (40, [some (.ref 77), some (.int a), some (.int b), some (.int c)], [.int x4]) h3 _
    refine Ex.br (x := (62, [some (.ref 77), some (.int a), some (.int b), some (.int c)], [])) (y := (43, [some (.ref 77), some (.int a), some (.int b), some (.int c)], [])) (b := x4 = 0) rfl (fun hb => ?_) (fun hb => ?_)
    · replace H := H.1 (hb)
      refine Ex.pure 1 (fr2 := (63, [some (.ref 77), some (.int a), some (.int b), some (.int c)], [.int 0])) rfl ?_
      exact Ex.iret rfl (Or.inr ⟨rfl, by decide⟩) H
    · replace H := H.2 (hb)
      refine Ex.pure 6 (fr2 := (49, [some (.ref 77), some (.int a), some (.int b), some (.int c)], [.int (-1), .int c, .int b, .ref 77, .int a, .ref 77])) rfl ?_
      refine Ex.cal (rest := [.int a, .ref 77]) (j := m_X7_joinsBoth) (as := [.ref 77, .int b, .int c, .int (-1)]) (vst (a := 139) (b := 4) (c := 6) (rest := [.int a, .ref 77]) (vs := [.int b, .int c, .int (-1)]) rfl ⟨Nat.le_of_ble_eq_true rfl, Nat.le_of_ble_eq_true rfl⟩ rfl rfl (sg_77 hs)) (H.imp ?_)
      intro rv h5 H
      obtain ⟨x6, rfl, H⟩ := H
      obtain ⟨hs, H⟩ := H
      show Ex d [] tb_X7_setsDifference (52, [some (.ref 77), some (.int a), some (.int b), some (.int c)], [.int x6, .int a, .ref 77]) h5 _
      refine Ex.cal (rest := []) (j := m_X7_setsGrowth) (as := [.ref 77, .int a, .int x6]) (vst (a := 161) (b := 3) (c := 6) (rest := []) (vs := [.int a, .int x6]) rfl ⟨Nat.le_of_ble_eq_true rfl, Nat.le_of_ble_eq_true rfl⟩ rfl rfl (sg_77 hs)) (H.imp ?_)
      intro rv h7 H
      obtain ⟨x8, rfl, H⟩ := H
      obtain ⟨hs, H⟩ := H
      show Ex d [] tb_X7_setsDifference (55, [some (.ref 77), some (.int a), some (.int b), some (.int c)], [.int x8]) h7 _
      refine Ex.br (x := (62, [some (.ref 77), some (.int a), some (.int b), some (.int c)], [])) (y := (58, [some (.ref 77), some (.int a), some (.int b), some (.int c)], [])) (b := x8 = 0) rfl (fun hb => ?_) (fun hb => ?_)
      · replace H := H.1 (hb)
        refine Ex.pure 1 (fr2 := (63, [some (.ref 77), some (.int a), some (.int b), some (.int c)], [.int 0])) rfl ?_
        exact Ex.iret rfl (Or.inr ⟨rfl, by decide⟩) H
      · replace H := H.2 (hb)
        refine Ex.pure 2 (fr2 := (63, [some (.ref 77), some (.int a), some (.int b), some (.int c)], [.int 1])) rfl ?_
        exact Ex.iret rfl (Or.inr ⟨rfl, by decide⟩) H
  · replace H := H.2 (hb)
    refine Ex.pure 3 (fr2 := (13, [some (.ref 77), some (.int a), some (.int b), some (.int c)], [.ref 77, .int a, .ref 77])) rfl ?_
    refine Ex.getQ rfl (sg_77 hs) rfl ?_
    refine Ex.pure 1 (fr2 := (17, [some (.ref 77), some (.int a), some (.int b), some (.int c)], [.int b, .ref 79, .int a, .ref 77])) rfl ?_
    refine Ex.iald rfl (Or.inl rfl) (sg_79 hs) H.1 ?_
    replace H := H.2
    refine Ex.pure 2 (fr2 := (20, [some (.ref 77), some (.int a), some (.int b), some (.int c)], [.ref 77, .long (((h1.2.1 79 (ix b)) : Int32).toInt64), .int a, .ref 77])) rfl ?_
    refine Ex.getQ rfl (sg_77 hs) rfl ?_
    refine Ex.pure 1 (fr2 := (24, [some (.ref 77), some (.int a), some (.int b), some (.int c)], [.int c, .ref 79, .long (((h1.2.1 79 (ix b)) : Int32).toInt64), .int a, .ref 77])) rfl ?_
    refine Ex.iald rfl (Or.inl rfl) (sg_79 hs) H.1 ?_
    replace H := H.2
    refine Ex.pure 2 (fr2 := (27, [some (.ref 77), some (.int a), some (.int b), some (.int c)], [.long (((h1.2.1 79 (ix b)) : Int32).toInt64 - ((h1.2.1 79 (ix c)) : Int32).toInt64), .int a, .ref 77])) rfl ?_
    refine Ex.cal (rest := []) (j := m_X7_setsNumber) (as := [.ref 77, .int a, .long (((h1.2.1 79 (ix b)) : Int32).toInt64 - ((h1.2.1 79 (ix c)) : Int32).toInt64)]) (vst (a := 160) (b := 3) (c := 6) (rest := []) (vs := [.int a, .long (((h1.2.1 79 (ix b)) : Int32).toInt64 - ((h1.2.1 79 (ix c)) : Int32).toInt64)]) rfl ⟨Nat.le_of_ble_eq_true rfl, Nat.le_of_ble_eq_true rfl⟩ rfl rfl (sg_77 hs)) (H.imp ?_)
    intro rv h9 H
    obtain ⟨x10, rfl, H⟩ := H
    obtain ⟨hs, H⟩ := H
    show Ex d [] tb_X7_setsDifference (30, [some (.ref 77), some (.int a), some (.int b), some (.int c)], [.int x10]) h9 _
    refine Ex.pure 1 (fr2 := (63, [some (.ref 77), some (.int a), some (.int b), some (.int c)], [.int x10])) rfl ?_
    exact Ex.iret rfl (Or.inr ⟨rfl, H.1⟩) H.2
def b_X7_difference_31 (d : Nat) (u0 : Option Value) (u1 : Option Value) (u2 : Option Value) (u3 : Option Value) (u4 : Option Value) (s0 : Int32) (s1 : Int32) (r_7 : Nat) (h : XH) (K : XK) (E : XE) : Prop := Ex d [] tb_X7_difference (31, [u0, u1, u2, u3, u4], [.int s0, .int s1, .ref r_7]) h (Po K E)
def b_X7_difference_32 (d : Nat) (u0 : Option Value) (u1 : Option Value) (u2 : Option Value) (u3 : Option Value) (u4 : Option Value) (s0 : Int32) (s1 : Int32) (s2 : Int32) (r_8 : Nat) (h : XH) (K : XK) (E : XE) : Prop := Ex d [] tb_X7_difference (32, [u0, u1, u2, u3, u4], [.int s0, .int s1, .int s2, .ref r_8]) h (Po K E)
theorem w_X7_difference {d : Nat} {h : XH} {y : Nat → Nat} {K : XK} {E : XE} {a : Int32} {b : Int32} {c : Int32} (hd : 20 ≤ d) (hs : Sg h.1 y) (H : ((isp a ∧ isp b ∧ isp c) → (Ca d m_X7_setsDifference [.ref 77, .int a, .int b, .int c] h (fun rv h2 => ∃ x3, rv = some (.int x3) ∧ Sg h2.1 y ∧ (x3 = 0 → b_X7_difference_31 d (some (.ref 77)) (some (.int a)) (some (.int b)) (some (.int c)) (some (.int (bi (isp a ∧ isp b ∧ isp c)))) (bi (isp a ∧ isp b ∧ isp c)) a 77 h2 K E) ∧ (¬ (x3 = 0) → b_X7_difference_32 d (some (.ref 77)) (some (.int a)) (some (.int b)) (some (.int c)) (some (.int (bi (isp a ∧ isp b ∧ isp c)))) 1 (bi (isp a ∧ isp b ∧ isp c)) a 77 h2 K E)) E)) ∧ (¬ (isp a ∧ isp b ∧ isp c) → b_X7_difference_31 d (some (.ref 77)) (some (.int a)) (some (.int b)) (some (.int c)) (some (.int (bi (isp a ∧ isp b ∧ isp c)))) (bi (isp a ∧ isp b ∧ isp c)) a 77 h K E)) : Ca (d + 1) m_X7_difference [.ref 77, .int a, .int b, .int c] h K E := by
  refine Ca.of ⟨by show 4 ≤ 5; omega, rfl⟩ ?_
  show Ex d [] tb_X7_difference (0, [some (.ref 77), some (.int a), some (.int b), some (.int c), none], []) h _
  refine Ex.pure 3 (fr2 := (3, [some (.ref 77), some (.int a), some (.int b), some (.int c), none], [.int c, .int b, .int a])) rfl ?_
  refine Ex.ask (rest := []) (j := m_X7_are) (as := [.int a, .int b, .int c]) (fun c => rfl) ((t_X7_are hs).mono (by omega) (fun _ _ z => z)) ?_
  rintro _ h0 ⟨rfl, e0⟩
  rw [e0]
  show Ex d [] tb_X7_difference (6, [some (.ref 77), some (.int a), some (.int b), some (.int c), none], [.int (bi (isp a ∧ isp b ∧ isp c))]) h _
  refine Ex.pure 5 (fr2 := (14, [some (.ref 77), some (.int a), some (.int b), some (.int c), some (.int (bi (isp a ∧ isp b ∧ isp c)))], [.int (bi (isp a ∧ isp b ∧ isp c)), .int (bi (isp a ∧ isp b ∧ isp c)), .int a, .ref 77])) rfl ?_
  refine Ex.br (x := (31, [some (.ref 77), some (.int a), some (.int b), some (.int c), some (.int (bi (isp a ∧ isp b ∧ isp c)))], [.int (bi (isp a ∧ isp b ∧ isp c)), .int a, .ref 77])) (y := (17, [some (.ref 77), some (.int a), some (.int b), some (.int c), some (.int (bi (isp a ∧ isp b ∧ isp c)))], [.int (bi (isp a ∧ isp b ∧ isp c)), .int a, .ref 77])) (b := (bi (isp a ∧ isp b ∧ isp c)) = 0) rfl (fun hb => ?_) (fun hb => ?_)
  · replace H := H.2 (bi_eq.mp hb)
    exact H
  · replace H := H.1 (bi_neq.mp hb)
    refine Ex.pure 4 (fr2 := (21, [some (.ref 77), some (.int a), some (.int b), some (.int c), some (.int (bi (isp a ∧ isp b ∧ isp c)))], [.int c, .int b, .int a, .ref 77, .int (bi (isp a ∧ isp b ∧ isp c)), .int a, .ref 77])) rfl ?_
    refine Ex.cal (rest := [.int (bi (isp a ∧ isp b ∧ isp c)), .int a, .ref 77]) (j := m_X7_setsDifference) (as := [.ref 77, .int a, .int b, .int c]) (vst (a := 167) (b := 4) (c := 6) (rest := [.int (bi (isp a ∧ isp b ∧ isp c)), .int a, .ref 77]) (vs := [.int a, .int b, .int c]) rfl ⟨Nat.le_of_ble_eq_true rfl, Nat.le_of_ble_eq_true rfl⟩ rfl rfl (sg_77 hs)) (H.imp ?_)
    intro rv h2 H
    obtain ⟨x3, rfl, H⟩ := H
    obtain ⟨hs, H⟩ := H
    show Ex d [] tb_X7_difference (24, [some (.ref 77), some (.int a), some (.int b), some (.int c), some (.int (bi (isp a ∧ isp b ∧ isp c)))], [.int x3, .int (bi (isp a ∧ isp b ∧ isp c)), .int a, .ref 77]) h2 _
    refine Ex.br (x := (31, [some (.ref 77), some (.int a), some (.int b), some (.int c), some (.int (bi (isp a ∧ isp b ∧ isp c)))], [.int (bi (isp a ∧ isp b ∧ isp c)), .int a, .ref 77])) (y := (27, [some (.ref 77), some (.int a), some (.int b), some (.int c), some (.int (bi (isp a ∧ isp b ∧ isp c)))], [.int (bi (isp a ∧ isp b ∧ isp c)), .int a, .ref 77])) (b := x3 = 0) rfl (fun hb => ?_) (fun hb => ?_)
    · replace H := H.1 (hb)
      exact H
    · replace H := H.2 (hb)
      refine Ex.pure 2 (fr2 := (32, [some (.ref 77), some (.int a), some (.int b), some (.int c), some (.int (bi (isp a ∧ isp b ∧ isp c)))], [.int 1, .int (bi (isp a ∧ isp b ∧ isp c)), .int a, .ref 77])) rfl ?_
      exact H
theorem w_X7_difference_31 {d : Nat} {h : XH} {y : Nat → Nat} {K : XK} {E : XE} {u0 : Option Value} {u1 : Option Value} {u2 : Option Value} {u3 : Option Value} {u4 : Option Value} {s0 : Int32} {s1 : Int32} (hd : 20 ≤ d) (hs : Sg h.1 y) (H : b_X7_difference_32 d (u0) (u1) (u2) (u3) (u4) 0 s0 s1 77 h K E) : b_X7_difference_31 d u0 u1 u2 u3 u4 s0 s1 77 h K E := by
  show Ex d [] tb_X7_difference (31, [u0, u1, u2, u3, u4], [.int s0, .int s1, .ref 77]) h _
  refine Ex.pure 1 (fr2 := (32, [u0, u1, u2, u3, u4], [.int 0, .int s0, .int s1, .ref 77])) rfl ?_
  exact H
theorem w_X7_difference_32 {d : Nat} {h : XH} {y : Nat → Nat} {K : XK} {E : XE} {u0 : Option Value} {u1 : Option Value} {u2 : Option Value} {u3 : Option Value} {u4 : Option Value} {s0 : Int32} {s1 : Int32} {s2 : Int32} (hd : 20 ≤ d) (hs : Sg h.1 y) (H : (Ca d m_X7_told [.ref 77, .int s2, .int s1, .int s0] h (fun rv h1 => ∃ x2, rv = some (.int x2) ∧ Sg h1.1 y ∧ K (some (.int x2)) h1) E)) : b_X7_difference_32 d u0 u1 u2 u3 u4 s0 s1 s2 77 h K E := by
  show Ex d [] tb_X7_difference (32, [u0, u1, u2, u3, u4], [.int s0, .int s1, .int s2, .ref 77]) h _
  refine Ex.cal (rest := []) (j := m_X7_told) (as := [.ref 77, .int s2, .int s1, .int s0]) (vst (a := 163) (b := 4) (c := 6) (rest := []) (vs := [.int s2, .int s1, .int s0]) rfl ⟨Nat.le_of_ble_eq_true rfl, Nat.le_of_ble_eq_true rfl⟩ rfl rfl (sg_77 hs)) (H.imp ?_)
  intro rv h1 H
  obtain ⟨x2, rfl, H⟩ := H
  obtain ⟨hs, H⟩ := H
  show Ex d [] tb_X7_difference (35, [u0, u1, u2, u3, u4], [.int x2]) h1 _
  exact Ex.iret rfl (Or.inl rfl) H
def b_X7_setsNatural_56 (d : Nat) (u0 : Option Value) (u1 : Option Value) (u2 : Option Value) (u3 : Option Value) (u4 : Option Value) (s0 : Int32) (s1 : Int32) (r_7 : Nat) (h : XH) (K : XK) (E : XE) : Prop := Ex d [] tb_X7_setsNatural (56, [u0, u1, u2, u3, u4], [.int s0, .int s1, .ref r_7]) h (Po K E)
theorem w_X7_setsNatural {d : Nat} {h : XH} {y : Nat → Nat} {K : XK} {E : XE} {a : Int32} {b : Int32} {c : Int32} {e : Int32} (hd : 20 ≤ d) (hs : Sg h.1 y) (H : (Ca d m_X7_begin [.ref 77] h (fun rv h1 => rv = none ∧ Sg h1.1 y ∧ (Ca d m_X7_areBoth [.ref 77, .int b, .int c, .int 1] h1 (fun rv h3 => ∃ x4, rv = some (.int x4) ∧ Sg h3.1 y ∧ (x4 = 0 → K (some (.int 0)) h3) ∧ (¬ (x4 = 0) → (e = 0 → (Ix b 16 ∧ (Ix c 16 ∧ (Ca d m_X7_summedNaturally [.ref 77, .int (h3.2.1 79 (ix b)), .int (h3.2.1 79 (ix c))] h3 (fun rv h5 => ∃ x6, rv = some (.int x6) ∧ Sg h5.1 y ∧ b_X7_setsNatural_56 d (some (.ref 77)) (some (.int a)) (some (.int b)) (some (.int c)) (some (.int e)) x6 a 77 h5 K E) E)))) ∧ (¬ (e = 0) → (Ix b 16 ∧ (Ix c 16 ∧ (Ca d m_X7_multipliedNaturally [.ref 77, .int (h3.2.1 79 (ix b)), .int (h3.2.1 79 (ix c))] h3 (fun rv h7 => ∃ x8, rv = some (.int x8) ∧ Sg h7.1 y ∧ b_X7_setsNatural_56 d (some (.ref 77)) (some (.int a)) (some (.int b)) (some (.int c)) (some (.int e)) x8 a 77 h7 K E) E)))))) E)) E)) : Ca (d + 1) m_X7_setsNatural [.ref 77, .int a, .int b, .int c, .int e] h K E := by
  refine Ca.of ⟨by show 5 ≤ 5; omega, rfl⟩ ?_
  show Ex d [] tb_X7_setsNatural (0, [some (.ref 77), some (.int a), some (.int b), some (.int c), some (.int e)], []) h _
  refine Ex.pure 1 (fr2 := (1, [some (.ref 77), some (.int a), some (.int b), some (.int c), some (.int e)], [.ref 77])) rfl ?_
  refine Ex.cal (rest := []) (j := m_X7_begin) (as := [.ref 77]) (vst (a := 150) (b := 1) (c := 6) (rest := []) (vs := []) rfl ⟨Nat.le_of_ble_eq_true rfl, Nat.le_of_ble_eq_true rfl⟩ rfl rfl (sg_77 hs)) (H.imp ?_)
  intro rv h1 H
  obtain ⟨rfl, H⟩ := H
  obtain ⟨hs, H⟩ := H
  show Ex d [] tb_X7_setsNatural (4, [some (.ref 77), some (.int a), some (.int b), some (.int c), some (.int e)], []) h1 _
  refine Ex.pure 4 (fr2 := (8, [some (.ref 77), some (.int a), some (.int b), some (.int c), some (.int e)], [.int 1, .int c, .int b, .ref 77])) rfl ?_
  refine Ex.cal (rest := []) (j := m_X7_areBoth) (as := [.ref 77, .int b, .int c, .int 1]) (vst (a := 158) (b := 4) (c := 6) (rest := []) (vs := [.int b, .int c, .int 1]) rfl ⟨Nat.le_of_ble_eq_true rfl, Nat.le_of_ble_eq_true rfl⟩ rfl rfl (sg_77 hs)) (H.imp ?_)
  intro rv h3 H
  obtain ⟨x4, rfl, H⟩ := H
  obtain ⟨hs, H⟩ := H
  show Ex d [] tb_X7_setsNatural (11, [some (.ref 77), some (.int a), some (.int b), some (.int c), some (.int e)], [.int x4]) h3 _
  refine Ex.br (x := (66, [some (.ref 77), some (.int a), some (.int b), some (.int c), some (.int e)], [])) (y := (14, [some (.ref 77), some (.int a), some (.int b), some (.int c), some (.int e)], [])) (b := x4 = 0) rfl (fun hb => ?_) (fun hb => ?_)
  · replace H := H.1 (hb)
    refine Ex.pure 1 (fr2 := (67, [some (.ref 77), some (.int a), some (.int b), some (.int c), some (.int e)], [.int 0])) rfl ?_
    exact Ex.iret rfl (Or.inr ⟨rfl, by decide⟩) H
  · replace H := H.2 (hb)
    refine Ex.pure 3 (fr2 := (18, [some (.ref 77), some (.int a), some (.int b), some (.int c), some (.int e)], [.int e, .int a, .ref 77])) rfl ?_
    refine Ex.br (x := (40, [some (.ref 77), some (.int a), some (.int b), some (.int c), some (.int e)], [.int a, .ref 77])) (y := (21, [some (.ref 77), some (.int a), some (.int b), some (.int c), some (.int e)], [.int a, .ref 77])) (b := e = 0) rfl (fun hb => ?_) (fun hb => ?_)
    · replace H := H.1 (hb)
      refine Ex.pure 2 (fr2 := (42, [some (.ref 77), some (.int a), some (.int b), some (.int c), some (.int e)], [.ref 77, .ref 77, .int a, .ref 77])) rfl ?_
      refine Ex.getQ rfl (sg_77 hs) rfl ?_
      refine Ex.pure 1 (fr2 := (46, [some (.ref 77), some (.int a), some (.int b), some (.int c), some (.int e)], [.int b, .ref 79, .ref 77, .int a, .ref 77])) rfl ?_
      refine Ex.iald rfl (Or.inl rfl) (sg_79 hs) H.1 ?_
      replace H := H.2
      refine Ex.pure 1 (fr2 := (48, [some (.ref 77), some (.int a), some (.int b), some (.int c), some (.int e)], [.ref 77, .int (h3.2.1 79 (ix b)), .ref 77, .int a, .ref 77])) rfl ?_
      refine Ex.getQ rfl (sg_77 hs) rfl ?_
      refine Ex.pure 1 (fr2 := (52, [some (.ref 77), some (.int a), some (.int b), some (.int c), some (.int e)], [.int c, .ref 79, .int (h3.2.1 79 (ix b)), .ref 77, .int a, .ref 77])) rfl ?_
      refine Ex.iald rfl (Or.inl rfl) (sg_79 hs) H.1 ?_
      replace H := H.2
      refine Ex.cal (rest := [.int a, .ref 77]) (j := m_X7_summedNaturally) (as := [.ref 77, .int (h3.2.1 79 (ix b)), .int (h3.2.1 79 (ix c))]) (vst (a := 126) (b := 3) (c := 6) (rest := [.int a, .ref 77]) (vs := [.int (h3.2.1 79 (ix b)), .int (h3.2.1 79 (ix c))]) rfl ⟨Nat.le_of_ble_eq_true rfl, Nat.le_of_ble_eq_true rfl⟩ rfl rfl (sg_77 hs)) (H.imp ?_)
      intro rv h5 H
      obtain ⟨x6, rfl, H⟩ := H
      obtain ⟨hs, H⟩ := H
      show Ex d [] tb_X7_setsNatural (56, [some (.ref 77), some (.int a), some (.int b), some (.int c), some (.int e)], [.int x6, .int a, .ref 77]) h5 _
      exact H
    · replace H := H.2 (hb)
      refine Ex.pure 2 (fr2 := (23, [some (.ref 77), some (.int a), some (.int b), some (.int c), some (.int e)], [.ref 77, .ref 77, .int a, .ref 77])) rfl ?_
      refine Ex.getQ rfl (sg_77 hs) rfl ?_
      refine Ex.pure 1 (fr2 := (27, [some (.ref 77), some (.int a), some (.int b), some (.int c), some (.int e)], [.int b, .ref 79, .ref 77, .int a, .ref 77])) rfl ?_
      refine Ex.iald rfl (Or.inl rfl) (sg_79 hs) H.1 ?_
      replace H := H.2
      refine Ex.pure 1 (fr2 := (29, [some (.ref 77), some (.int a), some (.int b), some (.int c), some (.int e)], [.ref 77, .int (h3.2.1 79 (ix b)), .ref 77, .int a, .ref 77])) rfl ?_
      refine Ex.getQ rfl (sg_77 hs) rfl ?_
      refine Ex.pure 1 (fr2 := (33, [some (.ref 77), some (.int a), some (.int b), some (.int c), some (.int e)], [.int c, .ref 79, .int (h3.2.1 79 (ix b)), .ref 77, .int a, .ref 77])) rfl ?_
      refine Ex.iald rfl (Or.inl rfl) (sg_79 hs) H.1 ?_
      replace H := H.2
      refine Ex.cal (rest := [.int a, .ref 77]) (j := m_X7_multipliedNaturally) (as := [.ref 77, .int (h3.2.1 79 (ix b)), .int (h3.2.1 79 (ix c))]) (vst (a := 129) (b := 3) (c := 6) (rest := [.int a, .ref 77]) (vs := [.int (h3.2.1 79 (ix b)), .int (h3.2.1 79 (ix c))]) rfl ⟨Nat.le_of_ble_eq_true rfl, Nat.le_of_ble_eq_true rfl⟩ rfl rfl (sg_77 hs)) (H.imp ?_)
      intro rv h7 H
      obtain ⟨x8, rfl, H⟩ := H
      obtain ⟨hs, H⟩ := H
      show Ex d [] tb_X7_setsNatural (37, [some (.ref 77), some (.int a), some (.int b), some (.int c), some (.int e)], [.int x8, .int a, .ref 77]) h7 _
      refine Ex.pure 1 (fr2 := (56, [some (.ref 77), some (.int a), some (.int b), some (.int c), some (.int e)], [.int x8, .int a, .ref 77])) rfl ?_
      exact H
theorem w_X7_setsNatural_56 {d : Nat} {h : XH} {y : Nat → Nat} {K : XK} {E : XE} {u0 : Option Value} {u1 : Option Value} {u2 : Option Value} {u3 : Option Value} {u4 : Option Value} {s0 : Int32} {s1 : Int32} (hd : 20 ≤ d) (hs : Sg h.1 y) (H : (Ca d m_X7_setsOrdinal [.ref 77, .int s1, .int s0] h (fun rv h1 => ∃ x2, rv = some (.int x2) ∧ Sg h1.1 y ∧ (x2 = 0 → K (some (.int 0)) h1) ∧ (¬ (x2 = 0) → K (some (.int 1)) h1)) E)) : b_X7_setsNatural_56 d u0 u1 u2 u3 u4 s0 s1 77 h K E := by
  show Ex d [] tb_X7_setsNatural (56, [u0, u1, u2, u3, u4], [.int s0, .int s1, .ref 77]) h _
  refine Ex.cal (rest := []) (j := m_X7_setsOrdinal) (as := [.ref 77, .int s1, .int s0]) (vst (a := 159) (b := 3) (c := 6) (rest := []) (vs := [.int s1, .int s0]) rfl ⟨Nat.le_of_ble_eq_true rfl, Nat.le_of_ble_eq_true rfl⟩ rfl rfl (sg_77 hs)) (H.imp ?_)
  intro rv h1 H
  obtain ⟨x2, rfl, H⟩ := H
  obtain ⟨hs, H⟩ := H
  show Ex d [] tb_X7_setsNatural (59, [u0, u1, u2, u3, u4], [.int x2]) h1 _
  refine Ex.br (x := (66, [u0, u1, u2, u3, u4], [])) (y := (62, [u0, u1, u2, u3, u4], [])) (b := x2 = 0) rfl (fun hb => ?_) (fun hb => ?_)
  · replace H := H.1 (hb)
    refine Ex.pure 1 (fr2 := (67, [u0, u1, u2, u3, u4], [.int 0])) rfl ?_
    exact Ex.iret rfl (Or.inr ⟨rfl, by decide⟩) H
  · replace H := H.2 (hb)
    refine Ex.pure 2 (fr2 := (67, [u0, u1, u2, u3, u4], [.int 1])) rfl ?_
    exact Ex.iret rfl (Or.inr ⟨rfl, by decide⟩) H
def b_X7_natural_29 (d : Nat) (r_0 : Nat) (u1 : Option Value) (u2 : Option Value) (u3 : Option Value) (u4 : Option Value) (l5 : Int32) (u6 : Option Value) (h : XH) (K : XK) (E : XE) : Prop := Ex d [] tb_X7_natural (29, [some (.ref r_0), u1, u2, u3, u4, some (.int l5), u6], []) h (Po K E)
def b_X7_natural_30 (d : Nat) (r_0 : Nat) (u1 : Option Value) (u2 : Option Value) (u3 : Option Value) (u4 : Option Value) (l5 : Int32) (u6 : Option Value) (s0 : Int32) (h : XH) (K : XK) (E : XE) : Prop := Ex d [] tb_X7_natural (30, [some (.ref r_0), u1, u2, u3, u4, some (.int l5), u6], [.int s0]) h (Po K E)
theorem w_X7_natural {d : Nat} {h : XH} {y : Nat → Nat} {K : XK} {E : XE} {a : Int32} {b : Int32} {c : Int32} {e : Int32} (hd : 20 ≤ d) (hs : Sg h.1 y) (H : ((isp a ∧ isp b ∧ isp c) → (Ca d m_X7_setsNatural [.ref 77, .int a, .int b, .int c, .int e] h (fun rv h2 => ∃ x3, rv = some (.int x3) ∧ Sg h2.1 y ∧ (x3 = 0 → b_X7_natural_29 d 77 (some (.int a)) (some (.int b)) (some (.int c)) (some (.int e)) (bi (isp a ∧ isp b ∧ isp c)) none h2 K E) ∧ (¬ (x3 = 0) → b_X7_natural_30 d 77 (some (.int a)) (some (.int b)) (some (.int c)) (some (.int e)) (bi (isp a ∧ isp b ∧ isp c)) none 1 h2 K E)) E)) ∧ (¬ (isp a ∧ isp b ∧ isp c) → b_X7_natural_29 d 77 (some (.int a)) (some (.int b)) (some (.int c)) (some (.int e)) (bi (isp a ∧ isp b ∧ isp c)) none h K E)) : Ca (d + 1) m_X7_natural [.ref 77, .int a, .int b, .int c, .int e] h K E := by
  refine Ca.of ⟨by show 5 ≤ 7; omega, rfl⟩ ?_
  show Ex d [] tb_X7_natural (0, [some (.ref 77), some (.int a), some (.int b), some (.int c), some (.int e), none, none], []) h _
  refine Ex.pure 3 (fr2 := (3, [some (.ref 77), some (.int a), some (.int b), some (.int c), some (.int e), none, none], [.int c, .int b, .int a])) rfl ?_
  refine Ex.ask (rest := []) (j := m_X7_are) (as := [.int a, .int b, .int c]) (fun c => rfl) ((t_X7_are hs).mono (by omega) (fun _ _ z => z)) ?_
  rintro _ h0 ⟨rfl, e0⟩
  rw [e0]
  show Ex d [] tb_X7_natural (6, [some (.ref 77), some (.int a), some (.int b), some (.int c), some (.int e), none, none], [.int (bi (isp a ∧ isp b ∧ isp c))]) h _
  refine Ex.pure 2 (fr2 := (10, [some (.ref 77), some (.int a), some (.int b), some (.int c), some (.int e), some (.int (bi (isp a ∧ isp b ∧ isp c))), none], [.int (bi (isp a ∧ isp b ∧ isp c))])) rfl ?_
  refine Ex.br (x := (29, [some (.ref 77), some (.int a), some (.int b), some (.int c), some (.int e), some (.int (bi (isp a ∧ isp b ∧ isp c))), none], [])) (y := (13, [some (.ref 77), some (.int a), some (.int b), some (.int c), some (.int e), some (.int (bi (isp a ∧ isp b ∧ isp c))), none], [])) (b := (bi (isp a ∧ isp b ∧ isp c)) = 0) rfl (fun hb => ?_) (fun hb => ?_)
  · replace H := H.2 (bi_eq.mp hb)
    exact H
  · replace H := H.1 (bi_neq.mp hb)
    refine Ex.pure 5 (fr2 := (19, [some (.ref 77), some (.int a), some (.int b), some (.int c), some (.int e), some (.int (bi (isp a ∧ isp b ∧ isp c))), none], [.int e, .int c, .int b, .int a, .ref 77])) rfl ?_
    refine Ex.cal (rest := []) (j := m_X7_setsNatural) (as := [.ref 77, .int a, .int b, .int c, .int e]) (vst (a := 169) (b := 5) (c := 6) (rest := []) (vs := [.int a, .int b, .int c, .int e]) rfl ⟨Nat.le_of_ble_eq_true rfl, Nat.le_of_ble_eq_true rfl⟩ rfl rfl (sg_77 hs)) (H.imp ?_)
    intro rv h2 H
    obtain ⟨x3, rfl, H⟩ := H
    obtain ⟨hs, H⟩ := H
    show Ex d [] tb_X7_natural (22, [some (.ref 77), some (.int a), some (.int b), some (.int c), some (.int e), some (.int (bi (isp a ∧ isp b ∧ isp c))), none], [.int x3]) h2 _
    refine Ex.br (x := (29, [some (.ref 77), some (.int a), some (.int b), some (.int c), some (.int e), some (.int (bi (isp a ∧ isp b ∧ isp c))), none], [])) (y := (25, [some (.ref 77), some (.int a), some (.int b), some (.int c), some (.int e), some (.int (bi (isp a ∧ isp b ∧ isp c))), none], [])) (b := x3 = 0) rfl (fun hb => ?_) (fun hb => ?_)
    · replace H := H.1 (hb)
      exact H
    · replace H := H.2 (hb)
      refine Ex.pure 2 (fr2 := (30, [some (.ref 77), some (.int a), some (.int b), some (.int c), some (.int e), some (.int (bi (isp a ∧ isp b ∧ isp c))), none], [.int 1])) rfl ?_
      exact H
theorem w_X7_natural_29 {d : Nat} {h : XH} {y : Nat → Nat} {K : XK} {E : XE} {u1 : Option Value} {u2 : Option Value} {u3 : Option Value} {u4 : Option Value} {l5 : Int32} {u6 : Option Value} (hd : 20 ≤ d) (hs : Sg h.1 y) (H : b_X7_natural_30 d 77 (u1) (u2) (u3) (u4) l5 (u6) 0 h K E) : b_X7_natural_29 d 77 u1 u2 u3 u4 l5 u6 h K E := by
  show Ex d [] tb_X7_natural (29, [some (.ref 77), u1, u2, u3, u4, some (.int l5), u6], []) h _
  refine Ex.pure 1 (fr2 := (30, [some (.ref 77), u1, u2, u3, u4, some (.int l5), u6], [.int 0])) rfl ?_
  exact H
theorem w_X7_natural_30 {d : Nat} {h : XH} {y : Nat → Nat} {K : XK} {E : XE} {u1 : Option Value} {u2 : Option Value} {u3 : Option Value} {u4 : Option Value} {l5 : Int32} {u6 : Option Value} {s0 : Int32} (hd : 20 ≤ d) (hs : Sg h.1 y) (H : (¬ l5 = 0 → (¬ s0 = 0 → (∀ h1 : XH, h1 = (x_setI h 77 0 0) → K none h1)) ∧ (¬ (¬ s0 = 0) → (∀ h2 : XH, h2 = (x_setI h 77 0 2) → K none h2))) ∧ (¬ (¬ l5 = 0) → (∀ h3 : XH, h3 = (x_setI h 77 0 1) → K none h3))) : b_X7_natural_30 d 77 u1 u2 u3 u4 l5 u6 s0 h K E := by
  show Ex d [] tb_X7_natural (30, [some (.ref 77), u1, u2, u3, u4, some (.int l5), u6], [.int s0]) h _
  refine Ex.pure 3 (fr2 := (35, [some (.ref 77), u1, u2, u3, u4, some (.int l5), some (.int s0)], [.int l5, .ref 77])) rfl ?_
  refine Ex.br (x := (42, [some (.ref 77), u1, u2, u3, u4, some (.int l5), some (.int s0)], [.ref 77])) (y := (38, [some (.ref 77), u1, u2, u3, u4, some (.int l5), some (.int s0)], [.ref 77])) (b := ¬ l5 = 0) rfl (fun hb => ?_) (fun hb => ?_)
  · replace H := H.1 (hb)
    refine Ex.pure 1 (fr2 := (44, [some (.ref 77), u1, u2, u3, u4, some (.int l5), some (.int s0)], [.int s0, .ref 77])) rfl ?_
    refine Ex.br (x := (51, [some (.ref 77), u1, u2, u3, u4, some (.int l5), some (.int s0)], [.ref 77])) (y := (47, [some (.ref 77), u1, u2, u3, u4, some (.int l5), some (.int s0)], [.ref 77])) (b := ¬ s0 = 0) rfl (fun hb => ?_) (fun hb => ?_)
    · replace H := H.1 (hb)
      refine Ex.pure 1 (fr2 := (52, [some (.ref 77), u1, u2, u3, u4, some (.int l5), some (.int s0)], [.int 0, .ref 77])) rfl ?_
      refine Ex.putI rfl (sg_77 hs) ?_
      obtain ⟨h1, e1⟩ : ∃ z : XH, z = (x_setI h 77 0 0) := ⟨_, rfl⟩
      rw [← e1]
      replace H := H h1 e1
      replace hs : Sg h1.1 y := by rw [e1]; exact hs
      exact Ex.vret rfl H
    · replace H := H.2 (hb)
      refine Ex.pure 2 (fr2 := (52, [some (.ref 77), u1, u2, u3, u4, some (.int l5), some (.int s0)], [.int 2, .ref 77])) rfl ?_
      refine Ex.putI rfl (sg_77 hs) ?_
      obtain ⟨h2, e2⟩ : ∃ z : XH, z = (x_setI h 77 0 2) := ⟨_, rfl⟩
      rw [← e2]
      replace H := H h2 e2
      replace hs : Sg h2.1 y := by rw [e2]; exact hs
      exact Ex.vret rfl H
  · replace H := H.2 (hb)
    refine Ex.pure 2 (fr2 := (52, [some (.ref 77), u1, u2, u3, u4, some (.int l5), some (.int s0)], [.int 1, .ref 77])) rfl ?_
    refine Ex.putI rfl (sg_77 hs) ?_
    obtain ⟨h3, e3⟩ : ∃ z : XH, z = (x_setI h 77 0 1) := ⟨_, rfl⟩
    rw [← e3]
    replace H := H h3 e3
    replace hs : Sg h3.1 y := by rw [e3]; exact hs
    exact Ex.vret rfl H
def b_X7_derive_18 (d : Nat) (r_0 : Nat) (l1 : Int32) (l2 : Int32) (u3 : Option Value) (u4 : Option Value) (h : XH) (K : XK) (E : XE) : Prop := Ex d [] tb_X7_derive (18, [some (.ref r_0), some (.int l1), some (.int l2), u3, u4], []) h (Po K E)
def b_X7_derive_19 (d : Nat) (r_0 : Nat) (l1 : Int32) (l2 : Int32) (u3 : Option Value) (u4 : Option Value) (s0 : Int32) (h : XH) (K : XK) (E : XE) : Prop := Ex d [] tb_X7_derive (19, [some (.ref r_0), some (.int l1), some (.int l2), u3, u4], [.int s0]) h (Po K E)
def b_X7_derive_50 (d : Nat) (r_0 : Nat) (u1 : Option Value) (u2 : Option Value) (l3 : Int32) (u4 : Option Value) (h : XH) (K : XK) (E : XE) : Prop := Ex d [] tb_X7_derive (50, [some (.ref r_0), u1, u2, some (.int l3), u4], []) h (Po K E)
def b_X7_derive_51 (d : Nat) (r_0 : Nat) (u1 : Option Value) (u2 : Option Value) (l3 : Int32) (u4 : Option Value) (s0 : Int32) (h : XH) (K : XK) (E : XE) : Prop := Ex d [] tb_X7_derive (51, [some (.ref r_0), u1, u2, some (.int l3), u4], [.int s0]) h (Po K E)
theorem w_X7_derive {d : Nat} {h : XH} {y : Nat → Nat} {K : XK} {E : XE} {a : Int32} {b : Int32} (hd : 20 ≤ d) (hs : Sg h.1 y) (H : ((isp a) → ((isp b) → b_X7_derive_19 d 77 a b none none 1 h K E) ∧ (¬ (isp b) → b_X7_derive_18 d 77 a b none none h K E)) ∧ (¬ (isp a) → b_X7_derive_18 d 77 a b none none h K E)) : Ca (d + 1) m_X7_derive [.ref 77, .int a, .int b] h K E := by
  refine Ca.of ⟨by show 3 ≤ 5; omega, rfl⟩ ?_
  show Ex d [] tb_X7_derive (0, [some (.ref 77), some (.int a), some (.int b), none, none], []) h _
  refine Ex.pure 1 (fr2 := (1, [some (.ref 77), some (.int a), some (.int b), none, none], [.int a])) rfl ?_
  refine Ex.ask (rest := []) (j := m_X7_isPlace) (as := [.int a]) (fun c => rfl) ((t_X7_isPlace hs).mono (by omega) (fun _ _ z => z)) ?_
  rintro _ h0 ⟨rfl, e0⟩
  rw [e0]
  show Ex d [] tb_X7_derive (4, [some (.ref 77), some (.int a), some (.int b), none, none], [.int (bi (isp a))]) h _
  refine Ex.br (x := (18, [some (.ref 77), some (.int a), some (.int b), none, none], [])) (y := (7, [some (.ref 77), some (.int a), some (.int b), none, none], [])) (b := (bi (isp a)) = 0) rfl (fun hb => ?_) (fun hb => ?_)
  · replace H := H.2 (bi_eq.mp hb)
    exact H
  · replace H := H.1 (bi_neq.mp hb)
    refine Ex.pure 1 (fr2 := (8, [some (.ref 77), some (.int a), some (.int b), none, none], [.int b])) rfl ?_
    refine Ex.ask (rest := []) (j := m_X7_isPlace) (as := [.int b]) (fun c => rfl) ((t_X7_isPlace hs).mono (by omega) (fun _ _ z => z)) ?_
    rintro _ h0 ⟨rfl, e0⟩
    rw [e0]
    show Ex d [] tb_X7_derive (11, [some (.ref 77), some (.int a), some (.int b), none, none], [.int (bi (isp b))]) h _
    refine Ex.br (x := (18, [some (.ref 77), some (.int a), some (.int b), none, none], [])) (y := (14, [some (.ref 77), some (.int a), some (.int b), none, none], [])) (b := (bi (isp b)) = 0) rfl (fun hb => ?_) (fun hb => ?_)
    · replace H := H.2 (bi_eq.mp hb)
      exact H
    · replace H := H.1 (bi_neq.mp hb)
      refine Ex.pure 2 (fr2 := (19, [some (.ref 77), some (.int a), some (.int b), none, none], [.int 1])) rfl ?_
      exact H
theorem w_X7_derive_18 {d : Nat} {h : XH} {y : Nat → Nat} {K : XK} {E : XE} {l1 : Int32} {l2 : Int32} {u3 : Option Value} {u4 : Option Value} (hd : 20 ≤ d) (hs : Sg h.1 y) (H : b_X7_derive_19 d 77 l1 l2 (u3) (u4) 0 h K E) : b_X7_derive_18 d 77 l1 l2 u3 u4 h K E := by
  show Ex d [] tb_X7_derive (18, [some (.ref 77), some (.int l1), some (.int l2), u3, u4], []) h _
  refine Ex.pure 1 (fr2 := (19, [some (.ref 77), some (.int l1), some (.int l2), u3, u4], [.int 0])) rfl ?_
  exact H
theorem w_X7_derive_19 {d : Nat} {h : XH} {y : Nat → Nat} {K : XK} {E : XE} {l1 : Int32} {l2 : Int32} {u3 : Option Value} {u4 : Option Value} {s0 : Int32} (hd : 20 ≤ d) (hs : Sg h.1 y) (H : (s0 = 0 → b_X7_derive_50 d 77 (some (.int l1)) (some (.int l2)) s0 (u4) h K E) ∧ (¬ (s0 = 0) → (Ca d m_X7_isKind [.ref 77, .int l2, .int 3] h (fun rv h1 => ∃ x2, rv = some (.int x2) ∧ Sg h1.1 y ∧ (x2 = 0 → b_X7_derive_50 d 77 (some (.int l1)) (some (.int l2)) s0 (u4) h1 K E) ∧ (¬ (x2 = 0) → (Ca d m_X7_derives [.ref 77, .int l2] h1 (fun rv h3 => ∃ x4, rv = some (.int x4) ∧ Sg h3.1 y ∧ (Ca d m_X7_setsGrowth [.ref 77, .int l1, .int x4] h3 (fun rv h5 => ∃ x6, rv = some (.int x6) ∧ Sg h5.1 y ∧ (x6 = 0 → b_X7_derive_50 d 77 (some (.int l1)) (some (.int l2)) s0 (u4) h5 K E) ∧ (¬ (x6 = 0) → b_X7_derive_51 d 77 (some (.int l1)) (some (.int l2)) s0 (u4) 1 h5 K E)) E)) E))) E))) : b_X7_derive_19 d 77 l1 l2 u3 u4 s0 h K E := by
  show Ex d [] tb_X7_derive (19, [some (.ref 77), some (.int l1), some (.int l2), u3, u4], [.int s0]) h _
  refine Ex.pure 2 (fr2 := (21, [some (.ref 77), some (.int l1), some (.int l2), some (.int s0), u4], [.int s0])) rfl ?_
  refine Ex.br (x := (50, [some (.ref 77), some (.int l1), some (.int l2), some (.int s0), u4], [])) (y := (24, [some (.ref 77), some (.int l1), some (.int l2), some (.int s0), u4], [])) (b := s0 = 0) rfl (fun hb => ?_) (fun hb => ?_)
  · replace H := H.1 (hb)
    exact H
  · replace H := H.2 (hb)
    refine Ex.pure 3 (fr2 := (27, [some (.ref 77), some (.int l1), some (.int l2), some (.int s0), u4], [.int 3, .int l2, .ref 77])) rfl ?_
    refine Ex.cal (rest := []) (j := m_X7_isKind) (as := [.ref 77, .int l2, .int 3]) (vst (a := 153) (b := 3) (c := 6) (rest := []) (vs := [.int l2, .int 3]) rfl ⟨Nat.le_of_ble_eq_true rfl, Nat.le_of_ble_eq_true rfl⟩ rfl rfl (sg_77 hs)) (H.imp ?_)
    intro rv h1 H
    obtain ⟨x2, rfl, H⟩ := H
    obtain ⟨hs, H⟩ := H
    show Ex d [] tb_X7_derive (30, [some (.ref 77), some (.int l1), some (.int l2), some (.int s0), u4], [.int x2]) h1 _
    refine Ex.br (x := (50, [some (.ref 77), some (.int l1), some (.int l2), some (.int s0), u4], [])) (y := (33, [some (.ref 77), some (.int l1), some (.int l2), some (.int s0), u4], [])) (b := x2 = 0) rfl (fun hb => ?_) (fun hb => ?_)
    · replace H := H.1 (hb)
      exact H
    · replace H := H.2 (hb)
      refine Ex.pure 4 (fr2 := (37, [some (.ref 77), some (.int l1), some (.int l2), some (.int s0), u4], [.int l2, .ref 77, .int l1, .ref 77])) rfl ?_
      refine Ex.cal (rest := [.int l1, .ref 77]) (j := m_X7_derives) (as := [.ref 77, .int l2]) (vst (a := 141) (b := 2) (c := 6) (rest := [.int l1, .ref 77]) (vs := [.int l2]) rfl ⟨Nat.le_of_ble_eq_true rfl, Nat.le_of_ble_eq_true rfl⟩ rfl rfl (sg_77 hs)) (H.imp ?_)
      intro rv h3 H
      obtain ⟨x4, rfl, H⟩ := H
      obtain ⟨hs, H⟩ := H
      show Ex d [] tb_X7_derive (40, [some (.ref 77), some (.int l1), some (.int l2), some (.int s0), u4], [.int x4, .int l1, .ref 77]) h3 _
      refine Ex.cal (rest := []) (j := m_X7_setsGrowth) (as := [.ref 77, .int l1, .int x4]) (vst (a := 161) (b := 3) (c := 6) (rest := []) (vs := [.int l1, .int x4]) rfl ⟨Nat.le_of_ble_eq_true rfl, Nat.le_of_ble_eq_true rfl⟩ rfl rfl (sg_77 hs)) (H.imp ?_)
      intro rv h5 H
      obtain ⟨x6, rfl, H⟩ := H
      obtain ⟨hs, H⟩ := H
      show Ex d [] tb_X7_derive (43, [some (.ref 77), some (.int l1), some (.int l2), some (.int s0), u4], [.int x6]) h5 _
      refine Ex.br (x := (50, [some (.ref 77), some (.int l1), some (.int l2), some (.int s0), u4], [])) (y := (46, [some (.ref 77), some (.int l1), some (.int l2), some (.int s0), u4], [])) (b := x6 = 0) rfl (fun hb => ?_) (fun hb => ?_)
      · replace H := H.1 (hb)
        exact H
      · replace H := H.2 (hb)
        refine Ex.pure 2 (fr2 := (51, [some (.ref 77), some (.int l1), some (.int l2), some (.int s0), u4], [.int 1])) rfl ?_
        exact H
theorem w_X7_derive_50 {d : Nat} {h : XH} {y : Nat → Nat} {K : XK} {E : XE} {u1 : Option Value} {u2 : Option Value} {l3 : Int32} {u4 : Option Value} (hd : 20 ≤ d) (hs : Sg h.1 y) (H : b_X7_derive_51 d 77 (u1) (u2) l3 (u4) 0 h K E) : b_X7_derive_50 d 77 u1 u2 l3 u4 h K E := by
  show Ex d [] tb_X7_derive (50, [some (.ref 77), u1, u2, some (.int l3), u4], []) h _
  refine Ex.pure 1 (fr2 := (51, [some (.ref 77), u1, u2, some (.int l3), u4], [.int 0])) rfl ?_
  exact H
theorem w_X7_derive_51 {d : Nat} {h : XH} {y : Nat → Nat} {K : XK} {E : XE} {u1 : Option Value} {u2 : Option Value} {l3 : Int32} {u4 : Option Value} {s0 : Int32} (hd : 20 ≤ d) (hs : Sg h.1 y) (H : (¬ l3 = 0 → (¬ s0 = 0 → (∀ h1 : XH, h1 = (x_setI h 77 0 0) → K none h1)) ∧ (¬ (¬ s0 = 0) → (∀ h2 : XH, h2 = (x_setI h 77 0 2) → K none h2))) ∧ (¬ (¬ l3 = 0) → (∀ h3 : XH, h3 = (x_setI h 77 0 1) → K none h3))) : b_X7_derive_51 d 77 u1 u2 l3 u4 s0 h K E := by
  show Ex d [] tb_X7_derive (51, [some (.ref 77), u1, u2, some (.int l3), u4], [.int s0]) h _
  refine Ex.pure 3 (fr2 := (55, [some (.ref 77), u1, u2, some (.int l3), some (.int s0)], [.int l3, .ref 77])) rfl ?_
  refine Ex.br (x := (62, [some (.ref 77), u1, u2, some (.int l3), some (.int s0)], [.ref 77])) (y := (58, [some (.ref 77), u1, u2, some (.int l3), some (.int s0)], [.ref 77])) (b := ¬ l3 = 0) rfl (fun hb => ?_) (fun hb => ?_)
  · replace H := H.1 (hb)
    refine Ex.pure 1 (fr2 := (64, [some (.ref 77), u1, u2, some (.int l3), some (.int s0)], [.int s0, .ref 77])) rfl ?_
    refine Ex.br (x := (71, [some (.ref 77), u1, u2, some (.int l3), some (.int s0)], [.ref 77])) (y := (67, [some (.ref 77), u1, u2, some (.int l3), some (.int s0)], [.ref 77])) (b := ¬ s0 = 0) rfl (fun hb => ?_) (fun hb => ?_)
    · replace H := H.1 (hb)
      refine Ex.pure 1 (fr2 := (72, [some (.ref 77), u1, u2, some (.int l3), some (.int s0)], [.int 0, .ref 77])) rfl ?_
      refine Ex.putI rfl (sg_77 hs) ?_
      obtain ⟨h1, e1⟩ : ∃ z : XH, z = (x_setI h 77 0 0) := ⟨_, rfl⟩
      rw [← e1]
      replace H := H h1 e1
      replace hs : Sg h1.1 y := by rw [e1]; exact hs
      exact Ex.vret rfl H
    · replace H := H.2 (hb)
      refine Ex.pure 2 (fr2 := (72, [some (.ref 77), u1, u2, some (.int l3), some (.int s0)], [.int 2, .ref 77])) rfl ?_
      refine Ex.putI rfl (sg_77 hs) ?_
      obtain ⟨h2, e2⟩ : ∃ z : XH, z = (x_setI h 77 0 2) := ⟨_, rfl⟩
      rw [← e2]
      replace H := H h2 e2
      replace hs : Sg h2.1 y := by rw [e2]; exact hs
      exact Ex.vret rfl H
  · replace H := H.2 (hb)
    refine Ex.pure 2 (fr2 := (72, [some (.ref 77), u1, u2, some (.int l3), some (.int s0)], [.int 1, .ref 77])) rfl ?_
    refine Ex.putI rfl (sg_77 hs) ?_
    obtain ⟨h3, e3⟩ : ∃ z : XH, z = (x_setI h 77 0 1) := ⟨_, rfl⟩
    rw [← e3]
    replace H := H h3 e3
    replace hs : Sg h3.1 y := by rw [e3]; exact hs
    exact Ex.vret rfl H
theorem w_X7_comparedGrowths {d : Nat} {h : XH} {y : Nat → Nat} {K : XK} {E : XE} {a : Int32} {b : Int32} (hd : 20 ≤ d) (hs : Sg h.1 y) (H : (Ca d m_X7_joinsBoth [.ref 77, .int a, .int b, .int (-1)] h (fun rv h1 => ∃ x2, rv = some (.int x2) ∧ Sg h1.1 y ∧ (¬ (h1.2.1 77 20) = 0 → (Ix 0 400 ∧ ((h1.2.2.1 93 (ix 0)) ≤ 0 → K (some (.int (-1))) h1) ∧ (¬ ((h1.2.2.1 93 (ix 0)) ≤ 0) → K (some (.int 1)) h1))) ∧ (¬ (¬ (h1.2.1 77 20) = 0) → K (some (.int 0)) h1)) E)) : Ca (d + 1) m_X7_comparedGrowths [.ref 77, .int a, .int b] h K E := by
  refine Ca.of ⟨by show 3 ≤ 4; omega, rfl⟩ ?_
  show Ex d [] tb_X7_comparedGrowths (0, [some (.ref 77), some (.int a), some (.int b), none], []) h _
  refine Ex.pure 4 (fr2 := (4, [some (.ref 77), some (.int a), some (.int b), none], [.int (-1), .int b, .int a, .ref 77])) rfl ?_
  refine Ex.cal (rest := []) (j := m_X7_joinsBoth) (as := [.ref 77, .int a, .int b, .int (-1)]) (vst (a := 139) (b := 4) (c := 6) (rest := []) (vs := [.int a, .int b, .int (-1)]) rfl ⟨Nat.le_of_ble_eq_true rfl, Nat.le_of_ble_eq_true rfl⟩ rfl rfl (sg_77 hs)) (H.imp ?_)
  intro rv h1 H
  obtain ⟨x2, rfl, H⟩ := H
  obtain ⟨hs, H⟩ := H
  show Ex d [] tb_X7_comparedGrowths (7, [some (.ref 77), some (.int a), some (.int b), none], [.int x2]) h1 _
  refine Ex.pure 2 (fr2 := (9, [some (.ref 77), some (.int a), some (.int b), some (.int x2)], [.ref 77])) rfl ?_
  refine Ex.getI rfl (Or.inl rfl) (sg_77 hs) ?_
  refine Ex.br (x := (19, [some (.ref 77), some (.int a), some (.int b), some (.int x2)], [])) (y := (15, [some (.ref 77), some (.int a), some (.int b), some (.int x2)], [])) (b := ¬ (h1.2.1 77 20) = 0) rfl (fun hb => ?_) (fun hb => ?_)
  · replace H := H.1 (hb)
    refine Ex.pure 1 (fr2 := (20, [some (.ref 77), some (.int a), some (.int b), some (.int x2)], [.ref 77])) rfl ?_
    refine Ex.getQ rfl (sg_77 hs) rfl ?_
    refine Ex.pure 1 (fr2 := (24, [some (.ref 77), some (.int a), some (.int b), some (.int x2)], [.int 0, .ref 93])) rfl ?_
    refine Ex.lald rfl (sg_93 hs) H.1 ?_
    replace H := H.2
    refine Ex.pure 2 (fr2 := (27, [some (.ref 77), some (.int a), some (.int b), some (.int x2)], [.int (lg_cmp (h1.2.2.1 93 (ix 0)) 0)])) rfl ?_
    refine Ex.br (x := (34, [some (.ref 77), some (.int a), some (.int b), some (.int x2)], [])) (y := (30, [some (.ref 77), some (.int a), some (.int b), some (.int x2)], [])) (b := (lg_cmp (h1.2.2.1 93 (ix 0)) 0) ≤ 0) rfl (fun hb => ?_) (fun hb => ?_)
    · replace H := H.1 ((lg_cmp_le _ _).mp hb)
      refine Ex.pure 1 (fr2 := (35, [some (.ref 77), some (.int a), some (.int b), some (.int x2)], [.int (-1)])) rfl ?_
      exact Ex.iret rfl (Or.inl rfl) H
    · replace H := H.2 (fun z => hb ((lg_cmp_le _ _).mpr z))
      refine Ex.pure 2 (fr2 := (35, [some (.ref 77), some (.int a), some (.int b), some (.int x2)], [.int 1])) rfl ?_
      exact Ex.iret rfl (Or.inl rfl) H
  · replace H := H.2 (hb)
    refine Ex.pure 2 (fr2 := (35, [some (.ref 77), some (.int a), some (.int b), some (.int x2)], [.int 0])) rfl ?_
    exact Ex.iret rfl (Or.inl rfl) H
theorem w_X7_comparedBoth {d : Nat} {h : XH} {y : Nat → Nat} {K : XK} {E : XE} {a : Int32} {b : Int32} (hd : 20 ≤ d) (hs : Sg h.1 y) (H : (Ca d m_X7_isKind [.ref 77, .int a, .int 2] h (fun rv h1 => ∃ x2, rv = some (.int x2) ∧ Sg h1.1 y ∧ (x2 = 0 → (Ca d m_X7_isKind [.ref 77, .int a, .int 1] h1 (fun rv h3 => ∃ x4, rv = some (.int x4) ∧ Sg h3.1 y ∧ (x4 = 0 → (Ca d m_X7_comparedGrowths [.ref 77, .int a, .int b] h3 (fun rv h5 => ∃ x6, rv = some (.int x6) ∧ Sg h5.1 y ∧ K (some (.int x6)) h5) E)) ∧ (¬ (x4 = 0) → (Ix a 16 ∧ (Ix b 16 ∧ (Ca d m_X7_compared [.ref 77, .int (h3.2.1 79 (ix a)), .int (h3.2.1 79 (ix b))] h3 (fun rv h7 => ∃ x8, rv = some (.int x8) ∧ Sg h7.1 y ∧ K (some (.int x8)) h7) E))))) E)) ∧ (¬ (x2 = 0) → (Ix a 16 ∧ (Ix b 16 ∧ ((h1.2.1 79 (ix a)) ≤ (h1.2.1 79 (ix b)) → (Ix a 16 ∧ (Ix b 16 ∧ ((h1.2.1 79 (ix b)) ≤ (h1.2.1 79 (ix a)) → K (some (.int 0)) h1) ∧ (¬ ((h1.2.1 79 (ix b)) ≤ (h1.2.1 79 (ix a))) → K (some (.int (-1))) h1)))) ∧ (¬ ((h1.2.1 79 (ix a)) ≤ (h1.2.1 79 (ix b))) → K (some (.int 1)) h1))))) E)) : Ca (d + 1) m_X7_comparedBoth [.ref 77, .int a, .int b] h K E := by
  refine Ca.of ⟨by show 3 ≤ 3; omega, rfl⟩ ?_
  show Ex d [] tb_X7_comparedBoth (0, [some (.ref 77), some (.int a), some (.int b)], []) h _
  refine Ex.pure 3 (fr2 := (3, [some (.ref 77), some (.int a), some (.int b)], [.int 2, .int a, .ref 77])) rfl ?_
  refine Ex.cal (rest := []) (j := m_X7_isKind) (as := [.ref 77, .int a, .int 2]) (vst (a := 153) (b := 3) (c := 6) (rest := []) (vs := [.int a, .int 2]) rfl ⟨Nat.le_of_ble_eq_true rfl, Nat.le_of_ble_eq_true rfl⟩ rfl rfl (sg_77 hs)) (H.imp ?_)
  intro rv h1 H
  obtain ⟨x2, rfl, H⟩ := H
  obtain ⟨hs, H⟩ := H
  show Ex d [] tb_X7_comparedBoth (6, [some (.ref 77), some (.int a), some (.int b)], [.int x2]) h1 _
  refine Ex.br (x := (49, [some (.ref 77), some (.int a), some (.int b)], [])) (y := (9, [some (.ref 77), some (.int a), some (.int b)], [])) (b := x2 = 0) rfl (fun hb => ?_) (fun hb => ?_)
  · replace H := H.1 (hb)
    refine Ex.pure 3 (fr2 := (52, [some (.ref 77), some (.int a), some (.int b)], [.int 1, .int a, .ref 77])) rfl ?_
    refine Ex.cal (rest := []) (j := m_X7_isKind) (as := [.ref 77, .int a, .int 1]) (vst (a := 153) (b := 3) (c := 6) (rest := []) (vs := [.int a, .int 1]) rfl ⟨Nat.le_of_ble_eq_true rfl, Nat.le_of_ble_eq_true rfl⟩ rfl rfl (sg_77 hs)) (H.imp ?_)
    intro rv h3 H
    obtain ⟨x4, rfl, H⟩ := H
    obtain ⟨hs, H⟩ := H
    show Ex d [] tb_X7_comparedBoth (55, [some (.ref 77), some (.int a), some (.int b)], [.int x4]) h3 _
    refine Ex.br (x := (77, [some (.ref 77), some (.int a), some (.int b)], [])) (y := (58, [some (.ref 77), some (.int a), some (.int b)], [])) (b := x4 = 0) rfl (fun hb => ?_) (fun hb => ?_)
    · replace H := H.1 (hb)
      refine Ex.pure 3 (fr2 := (80, [some (.ref 77), some (.int a), some (.int b)], [.int b, .int a, .ref 77])) rfl ?_
      refine Ex.cal (rest := []) (j := m_X7_comparedGrowths) (as := [.ref 77, .int a, .int b]) (vst (a := 172) (b := 3) (c := 6) (rest := []) (vs := [.int a, .int b]) rfl ⟨Nat.le_of_ble_eq_true rfl, Nat.le_of_ble_eq_true rfl⟩ rfl rfl (sg_77 hs)) (H.imp ?_)
      intro rv h5 H
      obtain ⟨x6, rfl, H⟩ := H
      obtain ⟨hs, H⟩ := H
      show Ex d [] tb_X7_comparedBoth (83, [some (.ref 77), some (.int a), some (.int b)], [.int x6]) h5 _
      exact Ex.iret rfl (Or.inl rfl) H
    · replace H := H.2 (hb)
      refine Ex.pure 2 (fr2 := (60, [some (.ref 77), some (.int a), some (.int b)], [.ref 77, .ref 77])) rfl ?_
      refine Ex.getQ rfl (sg_77 hs) rfl ?_
      refine Ex.pure 1 (fr2 := (64, [some (.ref 77), some (.int a), some (.int b)], [.int a, .ref 79, .ref 77])) rfl ?_
      refine Ex.iald rfl (Or.inl rfl) (sg_79 hs) H.1 ?_
      replace H := H.2
      refine Ex.pure 1 (fr2 := (66, [some (.ref 77), some (.int a), some (.int b)], [.ref 77, .int (h3.2.1 79 (ix a)), .ref 77])) rfl ?_
      refine Ex.getQ rfl (sg_77 hs) rfl ?_
      refine Ex.pure 1 (fr2 := (70, [some (.ref 77), some (.int a), some (.int b)], [.int b, .ref 79, .int (h3.2.1 79 (ix a)), .ref 77])) rfl ?_
      refine Ex.iald rfl (Or.inl rfl) (sg_79 hs) H.1 ?_
      replace H := H.2
      refine Ex.cal (rest := []) (j := m_X7_compared) (as := [.ref 77, .int (h3.2.1 79 (ix a)), .int (h3.2.1 79 (ix b))]) (vst (a := 120) (b := 3) (c := 6) (rest := []) (vs := [.int (h3.2.1 79 (ix a)), .int (h3.2.1 79 (ix b))]) rfl ⟨Nat.le_of_ble_eq_true rfl, Nat.le_of_ble_eq_true rfl⟩ rfl rfl (sg_77 hs)) (H.imp ?_)
      intro rv h7 H
      obtain ⟨x8, rfl, H⟩ := H
      obtain ⟨hs, H⟩ := H
      show Ex d [] tb_X7_comparedBoth (74, [some (.ref 77), some (.int a), some (.int b)], [.int x8]) h7 _
      refine Ex.pure 1 (fr2 := (83, [some (.ref 77), some (.int a), some (.int b)], [.int x8])) rfl ?_
      exact Ex.iret rfl (Or.inl rfl) H
  · replace H := H.2 (hb)
    refine Ex.pure 1 (fr2 := (10, [some (.ref 77), some (.int a), some (.int b)], [.ref 77])) rfl ?_
    refine Ex.getQ rfl (sg_77 hs) rfl ?_
    refine Ex.pure 1 (fr2 := (14, [some (.ref 77), some (.int a), some (.int b)], [.int a, .ref 79])) rfl ?_
    refine Ex.iald rfl (Or.inl rfl) (sg_79 hs) H.1 ?_
    replace H := H.2
    refine Ex.pure 1 (fr2 := (16, [some (.ref 77), some (.int a), some (.int b)], [.ref 77, .int (h1.2.1 79 (ix a))])) rfl ?_
    refine Ex.getQ rfl (sg_77 hs) rfl ?_
    refine Ex.pure 1 (fr2 := (20, [some (.ref 77), some (.int a), some (.int b)], [.int b, .ref 79, .int (h1.2.1 79 (ix a))])) rfl ?_
    refine Ex.iald rfl (Or.inl rfl) (sg_79 hs) H.1 ?_
    replace H := H.2
    refine Ex.br (x := (28, [some (.ref 77), some (.int a), some (.int b)], [])) (y := (24, [some (.ref 77), some (.int a), some (.int b)], [])) (b := (h1.2.1 79 (ix a)) ≤ (h1.2.1 79 (ix b))) rfl (fun hb => ?_) (fun hb => ?_)
    · replace H := H.1 (hb)
      refine Ex.pure 1 (fr2 := (29, [some (.ref 77), some (.int a), some (.int b)], [.ref 77])) rfl ?_
      refine Ex.getQ rfl (sg_77 hs) rfl ?_
      refine Ex.pure 1 (fr2 := (33, [some (.ref 77), some (.int a), some (.int b)], [.int a, .ref 79])) rfl ?_
      refine Ex.iald rfl (Or.inl rfl) (sg_79 hs) H.1 ?_
      replace H := H.2
      refine Ex.pure 1 (fr2 := (35, [some (.ref 77), some (.int a), some (.int b)], [.ref 77, .int (h1.2.1 79 (ix a))])) rfl ?_
      refine Ex.getQ rfl (sg_77 hs) rfl ?_
      refine Ex.pure 1 (fr2 := (39, [some (.ref 77), some (.int a), some (.int b)], [.int b, .ref 79, .int (h1.2.1 79 (ix a))])) rfl ?_
      refine Ex.iald rfl (Or.inl rfl) (sg_79 hs) H.1 ?_
      replace H := H.2
      refine Ex.br (x := (47, [some (.ref 77), some (.int a), some (.int b)], [])) (y := (43, [some (.ref 77), some (.int a), some (.int b)], [])) (b := (h1.2.1 79 (ix b)) ≤ (h1.2.1 79 (ix a))) rfl (fun hb => ?_) (fun hb => ?_)
      · replace H := H.1 (hb)
        refine Ex.pure 1 (fr2 := (48, [some (.ref 77), some (.int a), some (.int b)], [.int 0])) rfl ?_
        exact Ex.iret rfl (Or.inl rfl) H
      · replace H := H.2 (hb)
        refine Ex.pure 2 (fr2 := (48, [some (.ref 77), some (.int a), some (.int b)], [.int (-1)])) rfl ?_
        exact Ex.iret rfl (Or.inl rfl) H
    · replace H := H.2 (hb)
      refine Ex.pure 2 (fr2 := (48, [some (.ref 77), some (.int a), some (.int b)], [.int 1])) rfl ?_
      exact Ex.iret rfl (Or.inl rfl) H
def b_X7_compare_18 (d : Nat) (r_0 : Nat) (l1 : Int32) (l2 : Int32) (u3 : Option Value) (h : XH) (K : XK) (E : XE) : Prop := Ex d [] tb_X7_compare (18, [some (.ref r_0), some (.int l1), some (.int l2), u3], []) h (Po K E)
def b_X7_compare_19 (d : Nat) (r_0 : Nat) (l1 : Int32) (l2 : Int32) (u3 : Option Value) (s0 : Int32) (h : XH) (K : XK) (E : XE) : Prop := Ex d [] tb_X7_compare (19, [some (.ref r_0), some (.int l1), some (.int l2), u3], [.int s0]) h (Po K E)
def b_X7_compare_53 (d : Nat) (r_0 : Nat) (l1 : Int32) (l2 : Int32) (u3 : Option Value) (r_4 : Nat) (h : XH) (K : XK) (E : XE) : Prop := Ex d [] tb_X7_compare (53, [some (.ref r_0), some (.int l1), some (.int l2), u3], [.ref r_4]) h (Po K E)
def b_X7_compare_58 (d : Nat) (r_0 : Nat) (l1 : Int32) (l2 : Int32) (u3 : Option Value) (s0 : Int32) (r_5 : Nat) (h : XH) (K : XK) (E : XE) : Prop := Ex d [] tb_X7_compare (58, [some (.ref r_0), some (.int l1), some (.int l2), u3], [.int s0, .ref r_5]) h (Po K E)
theorem w_X7_compare {d : Nat} {h : XH} {y : Nat → Nat} {K : XK} {E : XE} {a : Int32} {b : Int32} (hd : 20 ≤ d) (hs : Sg h.1 y) (H : ((isp a) → ((isp b) → b_X7_compare_19 d 77 a b none 1 h K E) ∧ (¬ (isp b) → b_X7_compare_18 d 77 a b none h K E)) ∧ (¬ (isp a) → b_X7_compare_18 d 77 a b none h K E)) : Ca (d + 1) m_X7_compare [.ref 77, .int a, .int b] h K E := by
  refine Ca.of ⟨by show 3 ≤ 4; omega, rfl⟩ ?_
  show Ex d [] tb_X7_compare (0, [some (.ref 77), some (.int a), some (.int b), none], []) h _
  refine Ex.pure 1 (fr2 := (1, [some (.ref 77), some (.int a), some (.int b), none], [.int a])) rfl ?_
  refine Ex.ask (rest := []) (j := m_X7_isPlace) (as := [.int a]) (fun c => rfl) ((t_X7_isPlace hs).mono (by omega) (fun _ _ z => z)) ?_
  rintro _ h0 ⟨rfl, e0⟩
  rw [e0]
  show Ex d [] tb_X7_compare (4, [some (.ref 77), some (.int a), some (.int b), none], [.int (bi (isp a))]) h _
  refine Ex.br (x := (18, [some (.ref 77), some (.int a), some (.int b), none], [])) (y := (7, [some (.ref 77), some (.int a), some (.int b), none], [])) (b := (bi (isp a)) = 0) rfl (fun hb => ?_) (fun hb => ?_)
  · replace H := H.2 (bi_eq.mp hb)
    exact H
  · replace H := H.1 (bi_neq.mp hb)
    refine Ex.pure 1 (fr2 := (8, [some (.ref 77), some (.int a), some (.int b), none], [.int b])) rfl ?_
    refine Ex.ask (rest := []) (j := m_X7_isPlace) (as := [.int b]) (fun c => rfl) ((t_X7_isPlace hs).mono (by omega) (fun _ _ z => z)) ?_
    rintro _ h0 ⟨rfl, e0⟩
    rw [e0]
    show Ex d [] tb_X7_compare (11, [some (.ref 77), some (.int a), some (.int b), none], [.int (bi (isp b))]) h _
    refine Ex.br (x := (18, [some (.ref 77), some (.int a), some (.int b), none], [])) (y := (14, [some (.ref 77), some (.int a), some (.int b), none], [])) (b := (bi (isp b)) = 0) rfl (fun hb => ?_) (fun hb => ?_)
    · replace H := H.2 (bi_eq.mp hb)
      exact H
    · replace H := H.1 (bi_neq.mp hb)
      refine Ex.pure 2 (fr2 := (19, [some (.ref 77), some (.int a), some (.int b), none], [.int 1])) rfl ?_
      exact H
theorem w_X7_compare_18 {d : Nat} {h : XH} {y : Nat → Nat} {K : XK} {E : XE} {l1 : Int32} {l2 : Int32} {u3 : Option Value} (hd : 20 ≤ d) (hs : Sg h.1 y) (H : b_X7_compare_19 d 77 l1 l2 (u3) 0 h K E) : b_X7_compare_18 d 77 l1 l2 u3 h K E := by
  show Ex d [] tb_X7_compare (18, [some (.ref 77), some (.int l1), some (.int l2), u3], []) h _
  refine Ex.pure 1 (fr2 := (19, [some (.ref 77), some (.int l1), some (.int l2), u3], [.int 0])) rfl ?_
  exact H
theorem w_X7_compare_19 {d : Nat} {h : XH} {y : Nat → Nat} {K : XK} {E : XE} {l1 : Int32} {l2 : Int32} {u3 : Option Value} {s0 : Int32} (hd : 20 ≤ d) (hs : Sg h.1 y) (H : (¬ s0 = 0 → (Ca d m_X7_isKind [.ref 77, .int l1, .int 0] h (fun rv h1 => ∃ x2, rv = some (.int x2) ∧ Sg h1.1 y ∧ (¬ x2 = 0 → b_X7_compare_53 d 77 l1 l2 (some (.int s0)) 77 h1 K E) ∧ (¬ (¬ x2 = 0) → (Ix l1 16 ∧ (Ix l2 16 ∧ ((h1.2.1 78 (ix l1)) = (h1.2.1 78 (ix l2)) → b_X7_compare_58 d 77 l1 l2 (some (.int s0)) 0 77 h1 K E) ∧ (¬ ((h1.2.1 78 (ix l1)) = (h1.2.1 78 (ix l2))) → b_X7_compare_53 d 77 l1 l2 (some (.int s0)) 77 h1 K E))))) E)) ∧ (¬ (¬ s0 = 0) → b_X7_compare_58 d 77 l1 l2 (some (.int s0)) 1 77 h K E)) : b_X7_compare_19 d 77 l1 l2 u3 s0 h K E := by
  show Ex d [] tb_X7_compare (19, [some (.ref 77), some (.int l1), some (.int l2), u3], [.int s0]) h _
  refine Ex.pure 3 (fr2 := (22, [some (.ref 77), some (.int l1), some (.int l2), some (.int s0)], [.int s0, .ref 77])) rfl ?_
  refine Ex.br (x := (29, [some (.ref 77), some (.int l1), some (.int l2), some (.int s0)], [.ref 77])) (y := (25, [some (.ref 77), some (.int l1), some (.int l2), some (.int s0)], [.ref 77])) (b := ¬ s0 = 0) rfl (fun hb => ?_) (fun hb => ?_)
  · replace H := H.1 (hb)
    refine Ex.pure 3 (fr2 := (32, [some (.ref 77), some (.int l1), some (.int l2), some (.int s0)], [.int 0, .int l1, .ref 77, .ref 77])) rfl ?_
    refine Ex.cal (rest := [.ref 77]) (j := m_X7_isKind) (as := [.ref 77, .int l1, .int 0]) (vst (a := 153) (b := 3) (c := 6) (rest := [.ref 77]) (vs := [.int l1, .int 0]) rfl ⟨Nat.le_of_ble_eq_true rfl, Nat.le_of_ble_eq_true rfl⟩ rfl rfl (sg_77 hs)) (H.imp ?_)
    intro rv h1 H
    obtain ⟨x2, rfl, H⟩ := H
    obtain ⟨hs, H⟩ := H
    show Ex d [] tb_X7_compare (35, [some (.ref 77), some (.int l1), some (.int l2), some (.int s0)], [.int x2, .ref 77]) h1 _
    refine Ex.br (x := (53, [some (.ref 77), some (.int l1), some (.int l2), some (.int s0)], [.ref 77])) (y := (38, [some (.ref 77), some (.int l1), some (.int l2), some (.int s0)], [.ref 77])) (b := ¬ x2 = 0) rfl (fun hb => ?_) (fun hb => ?_)
    · replace H := H.1 (hb)
      exact H
    · replace H := H.2 (hb)
      refine Ex.pure 1 (fr2 := (39, [some (.ref 77), some (.int l1), some (.int l2), some (.int s0)], [.ref 77, .ref 77])) rfl ?_
      refine Ex.getQ rfl (sg_77 hs) rfl ?_
      refine Ex.pure 1 (fr2 := (43, [some (.ref 77), some (.int l1), some (.int l2), some (.int s0)], [.int l1, .ref 78, .ref 77])) rfl ?_
      refine Ex.iald rfl (Or.inl rfl) (sg_78 hs) H.1 ?_
      replace H := H.2
      refine Ex.pure 1 (fr2 := (45, [some (.ref 77), some (.int l1), some (.int l2), some (.int s0)], [.ref 77, .int (h1.2.1 78 (ix l1)), .ref 77])) rfl ?_
      refine Ex.getQ rfl (sg_77 hs) rfl ?_
      refine Ex.pure 1 (fr2 := (49, [some (.ref 77), some (.int l1), some (.int l2), some (.int s0)], [.int l2, .ref 78, .int (h1.2.1 78 (ix l1)), .ref 77])) rfl ?_
      refine Ex.iald rfl (Or.inl rfl) (sg_78 hs) H.1 ?_
      replace H := H.2
      refine Ex.br (x := (57, [some (.ref 77), some (.int l1), some (.int l2), some (.int s0)], [.ref 77])) (y := (53, [some (.ref 77), some (.int l1), some (.int l2), some (.int s0)], [.ref 77])) (b := (h1.2.1 78 (ix l1)) = (h1.2.1 78 (ix l2))) rfl (fun hb => ?_) (fun hb => ?_)
      · replace H := H.1 (hb)
        refine Ex.pure 1 (fr2 := (58, [some (.ref 77), some (.int l1), some (.int l2), some (.int s0)], [.int 0, .ref 77])) rfl ?_
        exact H
      · replace H := H.2 (hb)
        exact H
  · replace H := H.2 (hb)
    refine Ex.pure 2 (fr2 := (58, [some (.ref 77), some (.int l1), some (.int l2), some (.int s0)], [.int 1, .ref 77])) rfl ?_
    exact H
theorem w_X7_compare_53 {d : Nat} {h : XH} {y : Nat → Nat} {K : XK} {E : XE} {l1 : Int32} {l2 : Int32} {u3 : Option Value} (hd : 20 ≤ d) (hs : Sg h.1 y) (H : b_X7_compare_58 d 77 l1 l2 (u3) 2 77 h K E) : b_X7_compare_53 d 77 l1 l2 u3 77 h K E := by
  show Ex d [] tb_X7_compare (53, [some (.ref 77), some (.int l1), some (.int l2), u3], [.ref 77]) h _
  refine Ex.pure 2 (fr2 := (58, [some (.ref 77), some (.int l1), some (.int l2), u3], [.int 2, .ref 77])) rfl ?_
  exact H
theorem w_X7_compare_58 {d : Nat} {h : XH} {y : Nat → Nat} {K : XK} {E : XE} {l1 : Int32} {l2 : Int32} {u3 : Option Value} {s0 : Int32} (hd : 20 ≤ d) (hs : Sg h.1 y) (H : (∀ h1 : XH, h1 = (x_setI h 77 0 s0) → ((s0 = 0) → (Ca d m_X7_comparedBoth [.ref 77, .int l1, .int l2] h1 (fun rv h2 => ∃ x3, rv = some (.int x3) ∧ Sg h2.1 y ∧ K (some (.int x3)) h2) E)) ∧ (¬ (s0 = 0) → K (some (.int 0)) h1))) : b_X7_compare_58 d 77 l1 l2 u3 s0 77 h K E := by
  show Ex d [] tb_X7_compare (58, [some (.ref 77), some (.int l1), some (.int l2), u3], [.int s0, .ref 77]) h _
  refine Ex.ask (rest := []) (j := m_X7_holds) (as := [.ref 77, .int s0]) (vst (a := 114) (b := 2) (c := 6) (rest := []) (vs := [.int s0]) rfl ⟨Nat.le_of_ble_eq_true rfl, Nat.le_of_ble_eq_true rfl⟩ rfl rfl (sg_77 hs)) ((t_X7_holds hs).mono (by omega) (fun _ _ z => z)) ?_
  rintro _ h1 ⟨rfl, e1⟩
  replace H := H h1 e1
  replace hs : Sg h1.1 y := by rw [e1]; exact hs
  show Ex d [] tb_X7_compare (61, [some (.ref 77), some (.int l1), some (.int l2), u3], [.int (bi (s0 = 0))]) h1 _
  refine Ex.br (x := (73, [some (.ref 77), some (.int l1), some (.int l2), u3], [])) (y := (64, [some (.ref 77), some (.int l1), some (.int l2), u3], [])) (b := (bi (s0 = 0)) = 0) rfl (fun hb => ?_) (fun hb => ?_)
  · replace H := H.2 (bi_eq.mp hb)
    refine Ex.pure 1 (fr2 := (74, [some (.ref 77), some (.int l1), some (.int l2), u3], [.int 0])) rfl ?_
    exact Ex.iret rfl (Or.inl rfl) H
  · replace H := H.1 (bi_neq.mp hb)
    refine Ex.pure 3 (fr2 := (67, [some (.ref 77), some (.int l1), some (.int l2), u3], [.int l2, .int l1, .ref 77])) rfl ?_
    refine Ex.cal (rest := []) (j := m_X7_comparedBoth) (as := [.ref 77, .int l1, .int l2]) (vst (a := 173) (b := 3) (c := 6) (rest := []) (vs := [.int l1, .int l2]) rfl ⟨Nat.le_of_ble_eq_true rfl, Nat.le_of_ble_eq_true rfl⟩ rfl rfl (sg_77 hs)) (H.imp ?_)
    intro rv h2 H
    obtain ⟨x3, rfl, H⟩ := H
    obtain ⟨hs, H⟩ := H
    show Ex d [] tb_X7_compare (70, [some (.ref 77), some (.int l1), some (.int l2), u3], [.int x3]) h2 _
    refine Ex.pure 1 (fr2 := (74, [some (.ref 77), some (.int l1), some (.int l2), u3], [.int x3])) rfl ?_
    exact Ex.iret rfl (Or.inl rfl) H
theorem w_X7_stepOf {d : Nat} {h : XH} {y : Nat → Nat} {K : XK} {E : XE} {a : Int32} {b : Int32} (hd : 20 ≤ d) (hs : Sg h.1 y) (H : (Ca d m_X7_begin [.ref 77] h (fun rv h1 => rv = none ∧ Sg h1.1 y ∧ (Ca d m_X7_isKind [.ref 77, .int a, .int 1] h1 (fun rv h3 => ∃ x4, rv = some (.int x4) ∧ Sg h3.1 y ∧ (x4 = 0 → K (some (.int (-1))) h3) ∧ (¬ (x4 = 0) → (Ix a 16 ∧ ((h3.2.1 79 (ix a)) = 0 → K (some (.int (-1))) h3) ∧ (¬ ((h3.2.1 79 (ix a)) = 0) → (Ix a 16 ∧ (Ca d m_X7_stepped [.ref 77, .int (h3.2.1 79 (ix a)), .int b] h3 (fun rv h5 => ∃ x6, rv = some (.int x6) ∧ Sg h5.1 y ∧ K (some (.int x6)) h5) E)))))) E)) E)) : Ca (d + 1) m_X7_stepOf [.ref 77, .int a, .int b] h K E := by
  refine Ca.of ⟨by show 3 ≤ 3; omega, rfl⟩ ?_
  show Ex d [] tb_X7_stepOf (0, [some (.ref 77), some (.int a), some (.int b)], []) h _
  refine Ex.pure 1 (fr2 := (1, [some (.ref 77), some (.int a), some (.int b)], [.ref 77])) rfl ?_
  refine Ex.cal (rest := []) (j := m_X7_begin) (as := [.ref 77]) (vst (a := 150) (b := 1) (c := 6) (rest := []) (vs := []) rfl ⟨Nat.le_of_ble_eq_true rfl, Nat.le_of_ble_eq_true rfl⟩ rfl rfl (sg_77 hs)) (H.imp ?_)
  intro rv h1 H
  obtain ⟨rfl, H⟩ := H
  obtain ⟨hs, H⟩ := H
  show Ex d [] tb_X7_stepOf (4, [some (.ref 77), some (.int a), some (.int b)], []) h1 _
  refine Ex.pure 3 (fr2 := (7, [some (.ref 77), some (.int a), some (.int b)], [.int 1, .int a, .ref 77])) rfl ?_
  refine Ex.cal (rest := []) (j := m_X7_isKind) (as := [.ref 77, .int a, .int 1]) (vst (a := 153) (b := 3) (c := 6) (rest := []) (vs := [.int a, .int 1]) rfl ⟨Nat.le_of_ble_eq_true rfl, Nat.le_of_ble_eq_true rfl⟩ rfl rfl (sg_77 hs)) (H.imp ?_)
  intro rv h3 H
  obtain ⟨x4, rfl, H⟩ := H
  obtain ⟨hs, H⟩ := H
  show Ex d [] tb_X7_stepOf (10, [some (.ref 77), some (.int a), some (.int b)], [.int x4]) h3 _
  refine Ex.br (x := (36, [some (.ref 77), some (.int a), some (.int b)], [])) (y := (13, [some (.ref 77), some (.int a), some (.int b)], [])) (b := x4 = 0) rfl (fun hb => ?_) (fun hb => ?_)
  · replace H := H.1 (hb)
    refine Ex.pure 1 (fr2 := (37, [some (.ref 77), some (.int a), some (.int b)], [.int (-1)])) rfl ?_
    exact Ex.iret rfl (Or.inl rfl) H
  · replace H := H.2 (hb)
    refine Ex.pure 1 (fr2 := (14, [some (.ref 77), some (.int a), some (.int b)], [.ref 77])) rfl ?_
    refine Ex.getQ rfl (sg_77 hs) rfl ?_
    refine Ex.pure 1 (fr2 := (18, [some (.ref 77), some (.int a), some (.int b)], [.int a, .ref 79])) rfl ?_
    refine Ex.iald rfl (Or.inl rfl) (sg_79 hs) H.1 ?_
    replace H := H.2
    refine Ex.br (x := (36, [some (.ref 77), some (.int a), some (.int b)], [])) (y := (22, [some (.ref 77), some (.int a), some (.int b)], [])) (b := (h3.2.1 79 (ix a)) = 0) rfl (fun hb => ?_) (fun hb => ?_)
    · replace H := H.1 (hb)
      refine Ex.pure 1 (fr2 := (37, [some (.ref 77), some (.int a), some (.int b)], [.int (-1)])) rfl ?_
      exact Ex.iret rfl (Or.inl rfl) H
    · replace H := H.2 (hb)
      refine Ex.pure 2 (fr2 := (24, [some (.ref 77), some (.int a), some (.int b)], [.ref 77, .ref 77])) rfl ?_
      refine Ex.getQ rfl (sg_77 hs) rfl ?_
      refine Ex.pure 1 (fr2 := (28, [some (.ref 77), some (.int a), some (.int b)], [.int a, .ref 79, .ref 77])) rfl ?_
      refine Ex.iald rfl (Or.inl rfl) (sg_79 hs) H.1 ?_
      replace H := H.2
      refine Ex.pure 1 (fr2 := (30, [some (.ref 77), some (.int a), some (.int b)], [.int b, .int (h3.2.1 79 (ix a)), .ref 77])) rfl ?_
      refine Ex.cal (rest := []) (j := m_X7_stepped) (as := [.ref 77, .int (h3.2.1 79 (ix a)), .int b]) (vst (a := 131) (b := 3) (c := 6) (rest := []) (vs := [.int (h3.2.1 79 (ix a)), .int b]) rfl ⟨Nat.le_of_ble_eq_true rfl, Nat.le_of_ble_eq_true rfl⟩ rfl rfl (sg_77 hs)) (H.imp ?_)
      intro rv h5 H
      obtain ⟨x6, rfl, H⟩ := H
      obtain ⟨hs, H⟩ := H
      show Ex d [] tb_X7_stepOf (33, [some (.ref 77), some (.int a), some (.int b)], [.int x6]) h5 _
      refine Ex.pure 1 (fr2 := (37, [some (.ref 77), some (.int a), some (.int b)], [.int x6])) rfl ?_
      exact Ex.iret rfl (Or.inl rfl) H
def b_X7_step_18 (d : Nat) (r_0 : Nat) (l1 : Int32) (l2 : Int32) (l3 : Int32) (u4 : Option Value) (u5 : Option Value) (u6 : Option Value) (h : XH) (K : XK) (E : XE) : Prop := Ex d [] tb_X7_step (18, [some (.ref r_0), some (.int l1), some (.int l2), some (.int l3), u4, u5, u6], []) h (Po K E)
def b_X7_step_19 (d : Nat) (r_0 : Nat) (l1 : Int32) (l2 : Int32) (l3 : Int32) (u4 : Option Value) (u5 : Option Value) (u6 : Option Value) (s0 : Int32) (h : XH) (K : XK) (E : XE) : Prop := Ex d [] tb_X7_step (19, [some (.ref r_0), some (.int l1), some (.int l2), some (.int l3), u4, u5, u6], [.int s0]) h (Po K E)
def b_X7_step_51 (d : Nat) (r_0 : Nat) (l1 : Int32) (u2 : Option Value) (u3 : Option Value) (l4 : Int32) (l5 : Int32) (u6 : Option Value) (h : XH) (K : XK) (E : XE) : Prop := Ex d [] tb_X7_step (51, [some (.ref r_0), some (.int l1), u2, u3, some (.int l4), some (.int l5), u6], []) h (Po K E)
def b_X7_step_52 (d : Nat) (r_0 : Nat) (l1 : Int32) (u2 : Option Value) (u3 : Option Value) (l4 : Int32) (l5 : Int32) (u6 : Option Value) (s0 : Int32) (h : XH) (K : XK) (E : XE) : Prop := Ex d [] tb_X7_step (52, [some (.ref r_0), some (.int l1), u2, u3, some (.int l4), some (.int l5), u6], [.int s0]) h (Po K E)
def b_X7_step_84 (d : Nat) (r_0 : Nat) (l1 : Int32) (u2 : Option Value) (u3 : Option Value) (u4 : Option Value) (u5 : Option Value) (l6 : Int32) (s0 : Int32) (r_8 : Nat) (h : XH) (K : XK) (E : XE) : Prop := Ex d [] tb_X7_step (84, [some (.ref r_0), some (.int l1), u2, u3, u4, u5, some (.int l6)], [.int s0, .ref r_8]) h (Po K E)
theorem w_X7_step {d : Nat} {h : XH} {y : Nat → Nat} {K : XK} {E : XE} {a : Int32} {b : Int32} {c : Int32} (hd : 20 ≤ d) (hs : Sg h.1 y) (H : ((isp a) → ((isp b) → b_X7_step_19 d 77 a b c none none none 1 h K E) ∧ (¬ (isp b) → b_X7_step_18 d 77 a b c none none none h K E)) ∧ (¬ (isp a) → b_X7_step_18 d 77 a b c none none none h K E)) : Ca (d + 1) m_X7_step [.ref 77, .int a, .int b, .int c] h K E := by
  refine Ca.of ⟨by show 4 ≤ 7; omega, rfl⟩ ?_
  show Ex d [] tb_X7_step (0, [some (.ref 77), some (.int a), some (.int b), some (.int c), none, none, none], []) h _
  refine Ex.pure 1 (fr2 := (1, [some (.ref 77), some (.int a), some (.int b), some (.int c), none, none, none], [.int a])) rfl ?_
  refine Ex.ask (rest := []) (j := m_X7_isPlace) (as := [.int a]) (fun c => rfl) ((t_X7_isPlace hs).mono (by omega) (fun _ _ z => z)) ?_
  rintro _ h0 ⟨rfl, e0⟩
  rw [e0]
  show Ex d [] tb_X7_step (4, [some (.ref 77), some (.int a), some (.int b), some (.int c), none, none, none], [.int (bi (isp a))]) h _
  refine Ex.br (x := (18, [some (.ref 77), some (.int a), some (.int b), some (.int c), none, none, none], [])) (y := (7, [some (.ref 77), some (.int a), some (.int b), some (.int c), none, none, none], [])) (b := (bi (isp a)) = 0) rfl (fun hb => ?_) (fun hb => ?_)
  · replace H := H.2 (bi_eq.mp hb)
    exact H
  · replace H := H.1 (bi_neq.mp hb)
    refine Ex.pure 1 (fr2 := (8, [some (.ref 77), some (.int a), some (.int b), some (.int c), none, none, none], [.int b])) rfl ?_
    refine Ex.ask (rest := []) (j := m_X7_isPlace) (as := [.int b]) (fun c => rfl) ((t_X7_isPlace hs).mono (by omega) (fun _ _ z => z)) ?_
    rintro _ h0 ⟨rfl, e0⟩
    rw [e0]
    show Ex d [] tb_X7_step (11, [some (.ref 77), some (.int a), some (.int b), some (.int c), none, none, none], [.int (bi (isp b))]) h _
    refine Ex.br (x := (18, [some (.ref 77), some (.int a), some (.int b), some (.int c), none, none, none], [])) (y := (14, [some (.ref 77), some (.int a), some (.int b), some (.int c), none, none, none], [])) (b := (bi (isp b)) = 0) rfl (fun hb => ?_) (fun hb => ?_)
    · replace H := H.2 (bi_eq.mp hb)
      exact H
    · replace H := H.1 (bi_neq.mp hb)
      refine Ex.pure 2 (fr2 := (19, [some (.ref 77), some (.int a), some (.int b), some (.int c), none, none, none], [.int 1])) rfl ?_
      exact H
theorem w_X7_step_18 {d : Nat} {h : XH} {y : Nat → Nat} {K : XK} {E : XE} {l1 : Int32} {l2 : Int32} {l3 : Int32} {u4 : Option Value} {u5 : Option Value} {u6 : Option Value} (hd : 20 ≤ d) (hs : Sg h.1 y) (H : b_X7_step_19 d 77 l1 l2 l3 (u4) (u5) (u6) 0 h K E) : b_X7_step_18 d 77 l1 l2 l3 u4 u5 u6 h K E := by
  show Ex d [] tb_X7_step (18, [some (.ref 77), some (.int l1), some (.int l2), some (.int l3), u4, u5, u6], []) h _
  refine Ex.pure 1 (fr2 := (19, [some (.ref 77), some (.int l1), some (.int l2), some (.int l3), u4, u5, u6], [.int 0])) rfl ?_
  exact H
theorem w_X7_step_19 {d : Nat} {h : XH} {y : Nat → Nat} {K : XK} {E : XE} {l1 : Int32} {l2 : Int32} {l3 : Int32} {u4 : Option Value} {u5 : Option Value} {u6 : Option Value} {s0 : Int32} (hd : 20 ≤ d) (hs : Sg h.1 y) (H : (s0 = 0 → b_X7_step_51 d 77 l1 (some (.int l2)) (some (.int l3)) s0 (bi (1 ≤ ((l3 : Int32).toInt64) ∧ ((l3 : Int32).toInt64) ≤ 99)) (u6) h K E) ∧ (¬ (s0 = 0) → ((1 ≤ ((l3 : Int32).toInt64) ∧ ((l3 : Int32).toInt64) ≤ 99) → (Ca d m_X7_stepOf [.ref 77, .int l2, .int l3] h (fun rv h2 => ∃ x3, rv = some (.int x3) ∧ Sg h2.1 y ∧ b_X7_step_52 d 77 l1 (some (.int l2)) (some (.int l3)) s0 (bi (1 ≤ ((l3 : Int32).toInt64) ∧ ((l3 : Int32).toInt64) ≤ 99)) (u6) x3 h2 K E) E)) ∧ (¬ (1 ≤ ((l3 : Int32).toInt64) ∧ ((l3 : Int32).toInt64) ≤ 99) → b_X7_step_51 d 77 l1 (some (.int l2)) (some (.int l3)) s0 (bi (1 ≤ ((l3 : Int32).toInt64) ∧ ((l3 : Int32).toInt64) ≤ 99)) (u6) h K E))) : b_X7_step_19 d 77 l1 l2 l3 u4 u5 u6 s0 h K E := by
  show Ex d [] tb_X7_step (19, [some (.ref 77), some (.int l1), some (.int l2), some (.int l3), u4, u5, u6], [.int s0]) h _
  refine Ex.pure 5 (fr2 := (27, [some (.ref 77), some (.int l1), some (.int l2), some (.int l3), some (.int s0), u5, u6], [.long 99, .long 1, .long ((l3 : Int32).toInt64)])) rfl ?_
  refine Ex.ask (rest := []) (j := m_X7_isIn) (as := [.long ((l3 : Int32).toInt64), .long 1, .long 99]) (fun c => rfl) ((t_X7_isIn hs).mono (by omega) (fun _ _ z => z)) ?_
  rintro _ h0 ⟨rfl, e0⟩
  rw [e0]
  show Ex d [] tb_X7_step (30, [some (.ref 77), some (.int l1), some (.int l2), some (.int l3), some (.int s0), u5, u6], [.int (bi (1 ≤ ((l3 : Int32).toInt64) ∧ ((l3 : Int32).toInt64) ≤ 99))]) h _
  refine Ex.pure 2 (fr2 := (34, [some (.ref 77), some (.int l1), some (.int l2), some (.int l3), some (.int s0), some (.int (bi (1 ≤ ((l3 : Int32).toInt64) ∧ ((l3 : Int32).toInt64) ≤ 99))), u6], [.int s0])) rfl ?_
  refine Ex.br (x := (51, [some (.ref 77), some (.int l1), some (.int l2), some (.int l3), some (.int s0), some (.int (bi (1 ≤ ((l3 : Int32).toInt64) ∧ ((l3 : Int32).toInt64) ≤ 99))), u6], [])) (y := (37, [some (.ref 77), some (.int l1), some (.int l2), some (.int l3), some (.int s0), some (.int (bi (1 ≤ ((l3 : Int32).toInt64) ∧ ((l3 : Int32).toInt64) ≤ 99))), u6], [])) (b := s0 = 0) rfl (fun hb => ?_) (fun hb => ?_)
  · replace H := H.1 (hb)
    exact H
  · replace H := H.2 (hb)
    refine Ex.pure 1 (fr2 := (39, [some (.ref 77), some (.int l1), some (.int l2), some (.int l3), some (.int s0), some (.int (bi (1 ≤ ((l3 : Int32).toInt64) ∧ ((l3 : Int32).toInt64) ≤ 99))), u6], [.int (bi (1 ≤ ((l3 : Int32).toInt64) ∧ ((l3 : Int32).toInt64) ≤ 99))])) rfl ?_
    refine Ex.br (x := (51, [some (.ref 77), some (.int l1), some (.int l2), some (.int l3), some (.int s0), some (.int (bi (1 ≤ ((l3 : Int32).toInt64) ∧ ((l3 : Int32).toInt64) ≤ 99))), u6], [])) (y := (42, [some (.ref 77), some (.int l1), some (.int l2), some (.int l3), some (.int s0), some (.int (bi (1 ≤ ((l3 : Int32).toInt64) ∧ ((l3 : Int32).toInt64) ≤ 99))), u6], [])) (b := (bi (1 ≤ ((l3 : Int32).toInt64) ∧ ((l3 : Int32).toInt64) ≤ 99)) = 0) rfl (fun hb => ?_) (fun hb => ?_)
    · replace H := H.2 (bi_eq.mp hb)
      exact H
    · replace H := H.1 (bi_neq.mp hb)
      refine Ex.pure 3 (fr2 := (45, [some (.ref 77), some (.int l1), some (.int l2), some (.int l3), some (.int s0), some (.int (bi (1 ≤ ((l3 : Int32).toInt64) ∧ ((l3 : Int32).toInt64) ≤ 99))), u6], [.int l3, .int l2, .ref 77])) rfl ?_
      refine Ex.cal (rest := []) (j := m_X7_stepOf) (as := [.ref 77, .int l2, .int l3]) (vst (a := 175) (b := 3) (c := 6) (rest := []) (vs := [.int l2, .int l3]) rfl ⟨Nat.le_of_ble_eq_true rfl, Nat.le_of_ble_eq_true rfl⟩ rfl rfl (sg_77 hs)) (H.imp ?_)
      intro rv h2 H
      obtain ⟨x3, rfl, H⟩ := H
      obtain ⟨hs, H⟩ := H
      show Ex d [] tb_X7_step (48, [some (.ref 77), some (.int l1), some (.int l2), some (.int l3), some (.int s0), some (.int (bi (1 ≤ ((l3 : Int32).toInt64) ∧ ((l3 : Int32).toInt64) ≤ 99))), u6], [.int x3]) h2 _
      refine Ex.pure 1 (fr2 := (52, [some (.ref 77), some (.int l1), some (.int l2), some (.int l3), some (.int s0), some (.int (bi (1 ≤ ((l3 : Int32).toInt64) ∧ ((l3 : Int32).toInt64) ≤ 99))), u6], [.int x3])) rfl ?_
      exact H
theorem w_X7_step_51 {d : Nat} {h : XH} {y : Nat → Nat} {K : XK} {E : XE} {l1 : Int32} {u2 : Option Value} {u3 : Option Value} {l4 : Int32} {l5 : Int32} {u6 : Option Value} (hd : 20 ≤ d) (hs : Sg h.1 y) (H : b_X7_step_52 d 77 l1 (u2) (u3) l4 l5 (u6) (-1) h K E) : b_X7_step_51 d 77 l1 u2 u3 l4 l5 u6 h K E := by
  show Ex d [] tb_X7_step (51, [some (.ref 77), some (.int l1), u2, u3, some (.int l4), some (.int l5), u6], []) h _
  refine Ex.pure 1 (fr2 := (52, [some (.ref 77), some (.int l1), u2, u3, some (.int l4), some (.int l5), u6], [.int (-1)])) rfl ?_
  exact H
theorem w_X7_step_52 {d : Nat} {h : XH} {y : Nat → Nat} {K : XK} {E : XE} {l1 : Int32} {u2 : Option Value} {u3 : Option Value} {l4 : Int32} {l5 : Int32} {u6 : Option Value} {s0 : Int32} (hd : 20 ≤ d) (hs : Sg h.1 y) (H : (¬ l4 = 0 → (¬ l5 = 0 → (¬ s0 = (-1) → b_X7_step_84 d 77 l1 (u2) (u3) (some (.int l4)) (some (.int l5)) s0 0 77 h K E) ∧ (¬ (¬ s0 = (-1)) → b_X7_step_84 d 77 l1 (u2) (u3) (some (.int l4)) (some (.int l5)) s0 3 77 h K E)) ∧ (¬ (¬ l5 = 0) → b_X7_step_84 d 77 l1 (u2) (u3) (some (.int l4)) (some (.int l5)) s0 2 77 h K E)) ∧ (¬ (¬ l4 = 0) → b_X7_step_84 d 77 l1 (u2) (u3) (some (.int l4)) (some (.int l5)) s0 1 77 h K E)) : b_X7_step_52 d 77 l1 u2 u3 l4 l5 u6 s0 h K E := by
  show Ex d [] tb_X7_step (52, [some (.ref 77), some (.int l1), u2, u3, some (.int l4), some (.int l5), u6], [.int s0]) h _
  refine Ex.pure 3 (fr2 := (57, [some (.ref 77), some (.int l1), u2, u3, some (.int l4), some (.int l5), some (.int s0)], [.int l4, .ref 77])) rfl ?_
  refine Ex.br (x := (64, [some (.ref 77), some (.int l1), u2, u3, some (.int l4), some (.int l5), some (.int s0)], [.ref 77])) (y := (60, [some (.ref 77), some (.int l1), u2, u3, some (.int l4), some (.int l5), some (.int s0)], [.ref 77])) (b := ¬ l4 = 0) rfl (fun hb => ?_) (fun hb => ?_)
  · replace H := H.1 (hb)
    refine Ex.pure 1 (fr2 := (66, [some (.ref 77), some (.int l1), u2, u3, some (.int l4), some (.int l5), some (.int s0)], [.int l5, .ref 77])) rfl ?_
    refine Ex.br (x := (73, [some (.ref 77), some (.int l1), u2, u3, some (.int l4), some (.int l5), some (.int s0)], [.ref 77])) (y := (69, [some (.ref 77), some (.int l1), u2, u3, some (.int l4), some (.int l5), some (.int s0)], [.ref 77])) (b := ¬ l5 = 0) rfl (fun hb => ?_) (fun hb => ?_)
    · replace H := H.1 (hb)
      refine Ex.pure 2 (fr2 := (76, [some (.ref 77), some (.int l1), u2, u3, some (.int l4), some (.int l5), some (.int s0)], [.int (-1), .int s0, .ref 77])) rfl ?_
      refine Ex.br (x := (83, [some (.ref 77), some (.int l1), u2, u3, some (.int l4), some (.int l5), some (.int s0)], [.ref 77])) (y := (79, [some (.ref 77), some (.int l1), u2, u3, some (.int l4), some (.int l5), some (.int s0)], [.ref 77])) (b := ¬ s0 = (-1)) rfl (fun hb => ?_) (fun hb => ?_)
      · replace H := H.1 (hb)
        refine Ex.pure 1 (fr2 := (84, [some (.ref 77), some (.int l1), u2, u3, some (.int l4), some (.int l5), some (.int s0)], [.int 0, .ref 77])) rfl ?_
        exact H
      · replace H := H.2 (hb)
        refine Ex.pure 2 (fr2 := (84, [some (.ref 77), some (.int l1), u2, u3, some (.int l4), some (.int l5), some (.int s0)], [.int 3, .ref 77])) rfl ?_
        exact H
    · replace H := H.2 (hb)
      refine Ex.pure 2 (fr2 := (84, [some (.ref 77), some (.int l1), u2, u3, some (.int l4), some (.int l5), some (.int s0)], [.int 2, .ref 77])) rfl ?_
      exact H
  · replace H := H.2 (hb)
    refine Ex.pure 2 (fr2 := (84, [some (.ref 77), some (.int l1), u2, u3, some (.int l4), some (.int l5), some (.int s0)], [.int 1, .ref 77])) rfl ?_
    exact H
theorem w_X7_step_84 {d : Nat} {h : XH} {y : Nat → Nat} {K : XK} {E : XE} {l1 : Int32} {u2 : Option Value} {u3 : Option Value} {u4 : Option Value} {u5 : Option Value} {l6 : Int32} {s0 : Int32} (hd : 20 ≤ d) (hs : Sg h.1 y) (H : (∀ h1 : XH, h1 = (x_setI h 77 0 s0) → ((s0 = 0) → (Ca d m_X7_lays [.ref 77, .int l1, .int 1, .int l6] h1 (fun rv h2 => rv = none ∧ Sg h2.1 y ∧ K none h2) E)) ∧ (¬ (s0 = 0) → K none h1))) : b_X7_step_84 d 77 l1 u2 u3 u4 u5 l6 s0 77 h K E := by
  show Ex d [] tb_X7_step (84, [some (.ref 77), some (.int l1), u2, u3, u4, u5, some (.int l6)], [.int s0, .ref 77]) h _
  refine Ex.ask (rest := []) (j := m_X7_holds) (as := [.ref 77, .int s0]) (vst (a := 114) (b := 2) (c := 6) (rest := []) (vs := [.int s0]) rfl ⟨Nat.le_of_ble_eq_true rfl, Nat.le_of_ble_eq_true rfl⟩ rfl rfl (sg_77 hs)) ((t_X7_holds hs).mono (by omega) (fun _ _ z => z)) ?_
  rintro _ h1 ⟨rfl, e1⟩
  replace H := H h1 e1
  replace hs : Sg h1.1 y := by rw [e1]; exact hs
  show Ex d [] tb_X7_step (87, [some (.ref 77), some (.int l1), u2, u3, u4, u5, some (.int l6)], [.int (bi (s0 = 0))]) h1 _
  refine Ex.br (x := (98, [some (.ref 77), some (.int l1), u2, u3, u4, u5, some (.int l6)], [])) (y := (90, [some (.ref 77), some (.int l1), u2, u3, u4, u5, some (.int l6)], [])) (b := (bi (s0 = 0)) = 0) rfl (fun hb => ?_) (fun hb => ?_)
  · replace H := H.2 (bi_eq.mp hb)
    exact Ex.vret rfl H
  · replace H := H.1 (bi_neq.mp hb)
    refine Ex.pure 4 (fr2 := (95, [some (.ref 77), some (.int l1), u2, u3, u4, u5, some (.int l6)], [.int l6, .int 1, .int l1, .ref 77])) rfl ?_
    refine Ex.cal (rest := []) (j := m_X7_lays) (as := [.ref 77, .int l1, .int 1, .int l6]) (vst (a := 118) (b := 4) (c := 6) (rest := []) (vs := [.int l1, .int 1, .int l6]) rfl ⟨Nat.le_of_ble_eq_true rfl, Nat.le_of_ble_eq_true rfl⟩ rfl rfl (sg_77 hs)) (H.imp ?_)
    intro rv h2 H
    obtain ⟨rfl, H⟩ := H
    obtain ⟨hs, H⟩ := H
    show Ex d [] tb_X7_step (98, [some (.ref 77), some (.int l1), u2, u3, u4, u5, some (.int l6)], []) h2 _
    exact Ex.vret rfl H
def b_X7_descends_15 (d : Nat) (r_0 : Nat) (u1 : Option Value) (l2 : Int32) (l3 : Int32) (u4 : Option Value) (h : XH) (K : XK) (E : XE) : Prop := Ex d [] tb_X7_descends (15, [some (.ref r_0), u1, some (.int l2), some (.int l3), u4], []) h (Po K E)
def b_X7_descends_77 (d : Nat) (r_0 : Nat) (u1 : Option Value) (u2 : Option Value) (u3 : Option Value) (u4 : Option Value) (h : XH) (K : XK) (E : XE) : Prop := Ex d [] tb_X7_descends (77, [some (.ref r_0), u1, u2, u3, u4], []) h (Po K E)
theorem w_X7_descends {d : Nat} {h : XH} {y : Nat → Nat} {K : XK} {E : XE} {a : Int32} {b : Int32} {c : Int32} (hd : 20 ≤ d) (hs : Sg h.1 y) (H : (Ix a 16 ∧ (∀ h1 : XH, h1 = (x_setI h 77 15 (h.2.1 79 (ix a))) → (∀ h2 : XH, h2 = (x_setI h1 77 27 0) → b_X7_descends_15 d 77 (some (.int a)) b c none h2 K E)))) : Ca (d + 1) m_X7_descends [.ref 77, .int a, .int b, .int c] h K E := by
  refine Ca.of ⟨by show 4 ≤ 5; omega, rfl⟩ ?_
  show Ex d [] tb_X7_descends (0, [some (.ref 77), some (.int a), some (.int b), some (.int c), none], []) h _
  refine Ex.pure 2 (fr2 := (2, [some (.ref 77), some (.int a), some (.int b), some (.int c), none], [.ref 77, .ref 77])) rfl ?_
  refine Ex.getQ rfl (sg_77 hs) rfl ?_
  refine Ex.pure 1 (fr2 := (6, [some (.ref 77), some (.int a), some (.int b), some (.int c), none], [.int a, .ref 79, .ref 77])) rfl ?_
  refine Ex.iald rfl (Or.inl rfl) (sg_79 hs) H.1 ?_
  replace H := H.2
  refine Ex.putI rfl (sg_77 hs) ?_
  obtain ⟨h1, e1⟩ : ∃ z : XH, z = (x_setI h 77 15 (h.2.1 79 (ix a))) := ⟨_, rfl⟩
  rw [← e1]
  replace H := H h1 e1
  replace hs : Sg h1.1 y := by rw [e1]; exact hs
  refine Ex.pure 2 (fr2 := (12, [some (.ref 77), some (.int a), some (.int b), some (.int c), none], [.int 0, .ref 77])) rfl ?_
  refine Ex.putI rfl (sg_77 hs) ?_
  obtain ⟨h2, e2⟩ : ∃ z : XH, z = (x_setI h1 77 27 0) := ⟨_, rfl⟩
  rw [← e2]
  replace H := H h2 e2
  replace hs : Sg h2.1 y := by rw [e2]; exact hs
  exact H
theorem w_X7_descends_15 {d : Nat} {h : XH} {y : Nat → Nat} {K : XK} {E : XE} {u1 : Option Value} {l2 : Int32} {l3 : Int32} {u4 : Option Value} (hd : 20 ≤ d) (hs : Sg h.1 y) (H : ((h.2.1 77 15) = 0 → b_X7_descends_77 d 77 (u1) (some (.int l2)) (some (.int l3)) (u4) h K E) ∧ (¬ ((h.2.1 77 15) = 0) → (l3 ≤ (h.2.1 77 27) → b_X7_descends_77 d 77 (u1) (some (.int l2)) (some (.int l3)) (u4) h K E) ∧ (¬ (l3 ≤ (h.2.1 77 27)) → (Ca d m_X7_gathers [.ref 77] h (fun rv h1 => rv = none ∧ Sg h1.1 y ∧ (Ca d m_X7_stepped [.ref 77, .int (h1.2.1 77 15), .int (l2 + (h1.2.1 77 27))] h1 (fun rv h3 => ∃ x4, rv = some (.int x4) ∧ Sg h3.1 y ∧ (¬ x4 = (-1) → (∀ h5 : XH, h5 = (x_setI h3 77 15 x4) → (∀ h6 : XH, h6 = (x_setI h5 77 27 ((h5.2.1 77 27) + 1)) → b_X7_descends_15 d 77 (u1) l2 l3 (some (.int x4)) h6 K E))) ∧ (¬ (¬ x4 = (-1)) → K (some (.int 0)) h3)) E)) E)))) : b_X7_descends_15 d 77 u1 l2 l3 u4 h K E := by
  show Ex d [] tb_X7_descends (15, [some (.ref 77), u1, some (.int l2), some (.int l3), u4], []) h _
  refine Ex.pure 1 (fr2 := (16, [some (.ref 77), u1, some (.int l2), some (.int l3), u4], [.ref 77])) rfl ?_
  refine Ex.getI rfl (Or.inl rfl) (sg_77 hs) ?_
  refine Ex.br (x := (77, [some (.ref 77), u1, some (.int l2), some (.int l3), u4], [])) (y := (22, [some (.ref 77), u1, some (.int l2), some (.int l3), u4], [])) (b := (h.2.1 77 15) = 0) rfl (fun hb => ?_) (fun hb => ?_)
  · replace H := H.1 (hb)
    exact H
  · replace H := H.2 (hb)
    refine Ex.pure 1 (fr2 := (23, [some (.ref 77), u1, some (.int l2), some (.int l3), u4], [.ref 77])) rfl ?_
    refine Ex.getI rfl (Or.inl rfl) (sg_77 hs) ?_
    refine Ex.pure 1 (fr2 := (27, [some (.ref 77), u1, some (.int l2), some (.int l3), u4], [.int l3, .int (h.2.1 77 27)])) rfl ?_
    refine Ex.br (x := (77, [some (.ref 77), u1, some (.int l2), some (.int l3), u4], [])) (y := (30, [some (.ref 77), u1, some (.int l2), some (.int l3), u4], [])) (b := l3 ≤ (h.2.1 77 27)) rfl (fun hb => ?_) (fun hb => ?_)
    · replace H := H.1 (hb)
      exact H
    · replace H := H.2 (hb)
      refine Ex.pure 1 (fr2 := (31, [some (.ref 77), u1, some (.int l2), some (.int l3), u4], [.ref 77])) rfl ?_
      refine Ex.cal (rest := []) (j := m_X7_gathers) (as := [.ref 77]) (vst (a := 124) (b := 1) (c := 6) (rest := []) (vs := []) rfl ⟨Nat.le_of_ble_eq_true rfl, Nat.le_of_ble_eq_true rfl⟩ rfl rfl (sg_77 hs)) (H.imp ?_)
      intro rv h1 H
      obtain ⟨rfl, H⟩ := H
      obtain ⟨hs, H⟩ := H
      show Ex d [] tb_X7_descends (34, [some (.ref 77), u1, some (.int l2), some (.int l3), u4], []) h1 _
      refine Ex.pure 2 (fr2 := (36, [some (.ref 77), u1, some (.int l2), some (.int l3), u4], [.ref 77, .ref 77])) rfl ?_
      refine Ex.getI rfl (Or.inl rfl) (sg_77 hs) ?_
      refine Ex.pure 2 (fr2 := (41, [some (.ref 77), u1, some (.int l2), some (.int l3), u4], [.ref 77, .int l2, .int (h1.2.1 77 15), .ref 77])) rfl ?_
      refine Ex.getI rfl (Or.inl rfl) (sg_77 hs) ?_
      refine Ex.pure 1 (fr2 := (45, [some (.ref 77), u1, some (.int l2), some (.int l3), u4], [.int (l2 + (h1.2.1 77 27)), .int (h1.2.1 77 15), .ref 77])) rfl ?_
      refine Ex.cal (rest := []) (j := m_X7_stepped) (as := [.ref 77, .int (h1.2.1 77 15), .int (l2 + (h1.2.1 77 27))]) (vst (a := 131) (b := 3) (c := 6) (rest := []) (vs := [.int (h1.2.1 77 15), .int (l2 + (h1.2.1 77 27))]) rfl ⟨Nat.le_of_ble_eq_true rfl, Nat.le_of_ble_eq_true rfl⟩ rfl rfl (sg_77 hs)) (H.imp ?_)
      intro rv h3 H
      obtain ⟨x4, rfl, H⟩ := H
      obtain ⟨hs, H⟩ := H
      show Ex d [] tb_X7_descends (48, [some (.ref 77), u1, some (.int l2), some (.int l3), u4], [.int x4]) h3 _
      refine Ex.pure 3 (fr2 := (53, [some (.ref 77), u1, some (.int l2), some (.int l3), some (.int x4)], [.int (-1), .int x4])) rfl ?_
      refine Ex.br (x := (58, [some (.ref 77), u1, some (.int l2), some (.int l3), some (.int x4)], [])) (y := (56, [some (.ref 77), u1, some (.int l2), some (.int l3), some (.int x4)], [])) (b := ¬ x4 = (-1)) rfl (fun hb => ?_) (fun hb => ?_)
      · replace H := H.1 (hb)
        refine Ex.pure 2 (fr2 := (61, [some (.ref 77), u1, some (.int l2), some (.int l3), some (.int x4)], [.int x4, .ref 77])) rfl ?_
        refine Ex.putI rfl (sg_77 hs) ?_
        obtain ⟨h5, e5⟩ : ∃ z : XH, z = (x_setI h3 77 15 x4) := ⟨_, rfl⟩
        rw [← e5]
        replace H := H h5 e5
        replace hs : Sg h5.1 y := by rw [e5]; exact hs
        refine Ex.pure 2 (fr2 := (66, [some (.ref 77), u1, some (.int l2), some (.int l3), some (.int x4)], [.ref 77, .ref 77])) rfl ?_
        refine Ex.getI rfl (Or.inl rfl) (sg_77 hs) ?_
        refine Ex.pure 2 (fr2 := (71, [some (.ref 77), u1, some (.int l2), some (.int l3), some (.int x4)], [.int ((h5.2.1 77 27) + 1), .ref 77])) rfl ?_
        refine Ex.putI rfl (sg_77 hs) ?_
        obtain ⟨h6, e6⟩ : ∃ z : XH, z = (x_setI h5 77 27 ((h5.2.1 77 27) + 1)) := ⟨_, rfl⟩
        rw [← e6]
        replace H := H h6 e6
        replace hs : Sg h6.1 y := by rw [e6]; exact hs
        refine Ex.pure 1 (fr2 := (15, [some (.ref 77), u1, some (.int l2), some (.int l3), some (.int x4)], [])) rfl ?_
        exact H
      · replace H := H.2 (hb)
        refine Ex.pure 1 (fr2 := (57, [some (.ref 77), u1, some (.int l2), some (.int l3), some (.int x4)], [.int 0])) rfl ?_
        exact Ex.iret rfl (Or.inr ⟨rfl, by decide⟩) H
theorem w_X7_descends_77 {d : Nat} {h : XH} {y : Nat → Nat} {K : XK} {E : XE} {u1 : Option Value} {u2 : Option Value} {u3 : Option Value} {u4 : Option Value} (hd : 20 ≤ d) (hs : Sg h.1 y) (H : (¬ (h.2.1 77 15) = 0 → (∀ h1 : XH, h1 = (x_setI h 77 27 (-1)) → K (some (.int 1)) h1)) ∧ (¬ (¬ (h.2.1 77 15) = 0) → (∀ h2 : XH, h2 = (x_setI h 77 27 (h.2.1 77 27)) → K (some (.int 1)) h2))) : b_X7_descends_77 d 77 u1 u2 u3 u4 h K E := by
  show Ex d [] tb_X7_descends (77, [some (.ref 77), u1, u2, u3, u4], []) h _
  refine Ex.pure 2 (fr2 := (79, [some (.ref 77), u1, u2, u3, u4], [.ref 77, .ref 77])) rfl ?_
  refine Ex.getI rfl (Or.inl rfl) (sg_77 hs) ?_
  refine Ex.br (x := (92, [some (.ref 77), u1, u2, u3, u4], [.ref 77])) (y := (85, [some (.ref 77), u1, u2, u3, u4], [.ref 77])) (b := ¬ (h.2.1 77 15) = 0) rfl (fun hb => ?_) (fun hb => ?_)
  · replace H := H.1 (hb)
    refine Ex.pure 1 (fr2 := (93, [some (.ref 77), u1, u2, u3, u4], [.int (-1), .ref 77])) rfl ?_
    refine Ex.putI rfl (sg_77 hs) ?_
    obtain ⟨h1, e1⟩ : ∃ z : XH, z = (x_setI h 77 27 (-1)) := ⟨_, rfl⟩
    rw [← e1]
    replace H := H h1 e1
    replace hs : Sg h1.1 y := by rw [e1]; exact hs
    refine Ex.pure 1 (fr2 := (97, [some (.ref 77), u1, u2, u3, u4], [.int 1])) rfl ?_
    exact Ex.iret rfl (Or.inr ⟨rfl, by decide⟩) H
  · replace H := H.2 (hb)
    refine Ex.pure 1 (fr2 := (86, [some (.ref 77), u1, u2, u3, u4], [.ref 77, .ref 77])) rfl ?_
    refine Ex.getI rfl (Or.inl rfl) (sg_77 hs) ?_
    refine Ex.pure 1 (fr2 := (93, [some (.ref 77), u1, u2, u3, u4], [.int (h.2.1 77 27), .ref 77])) rfl ?_
    refine Ex.putI rfl (sg_77 hs) ?_
    obtain ⟨h2, e2⟩ : ∃ z : XH, z = (x_setI h 77 27 (h.2.1 77 27)) := ⟨_, rfl⟩
    rw [← e2]
    replace H := H h2 e2
    replace hs : Sg h2.1 y := by rw [e2]; exact hs
    refine Ex.pure 1 (fr2 := (97, [some (.ref 77), u1, u2, u3, u4], [.int 1])) rfl ?_
    exact Ex.iret rfl (Or.inr ⟨rfl, by decide⟩) H
def b_X7_descent_34 (d : Nat) (r_0 : Nat) (l1 : Int32) (l2 : Int32) (l3 : Int32) (l4 : Int32) (u5 : Option Value) (h : XH) (K : XK) (E : XE) : Prop := Ex d [] tb_X7_descent (34, [some (.ref r_0), some (.int l1), some (.int l2), some (.int l3), some (.int l4), u5], []) h (Po K E)
def b_X7_descent_35 (d : Nat) (r_0 : Nat) (l1 : Int32) (l2 : Int32) (l3 : Int32) (l4 : Int32) (u5 : Option Value) (s0 : Int32) (h : XH) (K : XK) (E : XE) : Prop := Ex d [] tb_X7_descent (35, [some (.ref r_0), some (.int l1), some (.int l2), some (.int l3), some (.int l4), u5], [.int s0]) h (Po K E)
def b_X7_descent_75 (d : Nat) (r_0 : Nat) (u1 : Option Value) (u2 : Option Value) (u3 : Option Value) (u4 : Option Value) (u5 : Option Value) (r_6 : Nat) (h : XH) (K : XK) (E : XE) : Prop := Ex d [] tb_X7_descent (75, [some (.ref r_0), u1, u2, u3, u4, u5], [.ref r_6]) h (Po K E)
def b_X7_descent_80 (d : Nat) (r_0 : Nat) (u1 : Option Value) (u2 : Option Value) (u3 : Option Value) (u4 : Option Value) (u5 : Option Value) (s0 : Int32) (r_7 : Nat) (h : XH) (K : XK) (E : XE) : Prop := Ex d [] tb_X7_descent (80, [some (.ref r_0), u1, u2, u3, u4, u5], [.int s0, .ref r_7]) h (Po K E)
theorem w_X7_descent {d : Nat} {h : XH} {y : Nat → Nat} {K : XK} {E : XE} {a : Int32} {b : Int32} {c : Int32} (hd : 20 ≤ d) (hs : Sg h.1 y) (H : ((1 ≤ ((b : Int32).toInt64) ∧ ((b : Int32).toInt64) ≤ 99) → ((0 ≤ ((c : Int32).toInt64) ∧ ((c : Int32).toInt64) ≤ 2000) → b_X7_descent_35 d 77 a b c (bi (isp a)) none 1 h K E) ∧ (¬ (0 ≤ ((c : Int32).toInt64) ∧ ((c : Int32).toInt64) ≤ 2000) → b_X7_descent_34 d 77 a b c (bi (isp a)) none h K E)) ∧ (¬ (1 ≤ ((b : Int32).toInt64) ∧ ((b : Int32).toInt64) ≤ 99) → b_X7_descent_34 d 77 a b c (bi (isp a)) none h K E)) : Ca (d + 1) m_X7_descent [.ref 77, .int a, .int b, .int c] h K E := by
  refine Ca.of ⟨by show 4 ≤ 6; omega, rfl⟩ ?_
  show Ex d [] tb_X7_descent (0, [some (.ref 77), some (.int a), some (.int b), some (.int c), none, none], []) h _
  refine Ex.pure 1 (fr2 := (1, [some (.ref 77), some (.int a), some (.int b), some (.int c), none, none], [.int a])) rfl ?_
  refine Ex.ask (rest := []) (j := m_X7_isPlace) (as := [.int a]) (fun c => rfl) ((t_X7_isPlace hs).mono (by omega) (fun _ _ z => z)) ?_
  rintro _ h0 ⟨rfl, e0⟩
  rw [e0]
  show Ex d [] tb_X7_descent (4, [some (.ref 77), some (.int a), some (.int b), some (.int c), none, none], [.int (bi (isp a))]) h _
  refine Ex.pure 5 (fr2 := (12, [some (.ref 77), some (.int a), some (.int b), some (.int c), some (.int (bi (isp a))), none], [.long 99, .long 1, .long ((b : Int32).toInt64)])) rfl ?_
  refine Ex.ask (rest := []) (j := m_X7_isIn) (as := [.long ((b : Int32).toInt64), .long 1, .long 99]) (fun c => rfl) ((t_X7_isIn hs).mono (by omega) (fun _ _ z => z)) ?_
  rintro _ h0 ⟨rfl, e0⟩
  rw [e0]
  show Ex d [] tb_X7_descent (15, [some (.ref 77), some (.int a), some (.int b), some (.int c), some (.int (bi (isp a))), none], [.int (bi (1 ≤ ((b : Int32).toInt64) ∧ ((b : Int32).toInt64) ≤ 99))]) h _
  refine Ex.br (x := (34, [some (.ref 77), some (.int a), some (.int b), some (.int c), some (.int (bi (isp a))), none], [])) (y := (18, [some (.ref 77), some (.int a), some (.int b), some (.int c), some (.int (bi (isp a))), none], [])) (b := (bi (1 ≤ ((b : Int32).toInt64) ∧ ((b : Int32).toInt64) ≤ 99)) = 0) rfl (fun hb => ?_) (fun hb => ?_)
  · replace H := H.2 (bi_eq.mp hb)
    exact H
  · replace H := H.1 (bi_neq.mp hb)
    refine Ex.pure 4 (fr2 := (24, [some (.ref 77), some (.int a), some (.int b), some (.int c), some (.int (bi (isp a))), none], [.long 2000, .long 0, .long ((c : Int32).toInt64)])) rfl ?_
    refine Ex.ask (rest := []) (j := m_X7_isIn) (as := [.long ((c : Int32).toInt64), .long 0, .long 2000]) (fun c => rfl) ((t_X7_isIn hs).mono (by omega) (fun _ _ z => z)) ?_
    rintro _ h0 ⟨rfl, e0⟩
    rw [e0]
    show Ex d [] tb_X7_descent (27, [some (.ref 77), some (.int a), some (.int b), some (.int c), some (.int (bi (isp a))), none], [.int (bi (0 ≤ ((c : Int32).toInt64) ∧ ((c : Int32).toInt64) ≤ 2000))]) h _
    refine Ex.br (x := (34, [some (.ref 77), some (.int a), some (.int b), some (.int c), some (.int (bi (isp a))), none], [])) (y := (30, [some (.ref 77), some (.int a), some (.int b), some (.int c), some (.int (bi (isp a))), none], [])) (b := (bi (0 ≤ ((c : Int32).toInt64) ∧ ((c : Int32).toInt64) ≤ 2000)) = 0) rfl (fun hb => ?_) (fun hb => ?_)
    · replace H := H.2 (bi_eq.mp hb)
      exact H
    · replace H := H.1 (bi_neq.mp hb)
      refine Ex.pure 2 (fr2 := (35, [some (.ref 77), some (.int a), some (.int b), some (.int c), some (.int (bi (isp a))), none], [.int 1])) rfl ?_
      exact H
theorem w_X7_descent_34 {d : Nat} {h : XH} {y : Nat → Nat} {K : XK} {E : XE} {l1 : Int32} {l2 : Int32} {l3 : Int32} {l4 : Int32} {u5 : Option Value} (hd : 20 ≤ d) (hs : Sg h.1 y) (H : b_X7_descent_35 d 77 l1 l2 l3 l4 (u5) 0 h K E) : b_X7_descent_34 d 77 l1 l2 l3 l4 u5 h K E := by
  show Ex d [] tb_X7_descent (34, [some (.ref 77), some (.int l1), some (.int l2), some (.int l3), some (.int l4), u5], []) h _
  refine Ex.pure 1 (fr2 := (35, [some (.ref 77), some (.int l1), some (.int l2), some (.int l3), some (.int l4), u5], [.int 0])) rfl ?_
  exact H
theorem w_X7_descent_35 {d : Nat} {h : XH} {y : Nat → Nat} {K : XK} {E : XE} {l1 : Int32} {l2 : Int32} {l3 : Int32} {l4 : Int32} {u5 : Option Value} {s0 : Int32} (hd : 20 ≤ d) (hs : Sg h.1 y) (H : (¬ l4 = 0 → (¬ s0 = 0 → (Ca d m_X7_isKind [.ref 77, .int l1, .int 1] h (fun rv h1 => ∃ x2, rv = some (.int x2) ∧ Sg h1.1 y ∧ (x2 = 0 → b_X7_descent_75 d 77 (some (.int l1)) (some (.int l2)) (some (.int l3)) (some (.int l4)) (some (.int s0)) 77 h1 K E) ∧ (¬ (x2 = 0) → (Ca d m_X7_descends [.ref 77, .int l1, .int l2, .int l3] h1 (fun rv h3 => ∃ x4, rv = some (.int x4) ∧ Sg h3.1 y ∧ (¬ x4 = 0 → b_X7_descent_80 d 77 (some (.int l1)) (some (.int l2)) (some (.int l3)) (some (.int l4)) (some (.int s0)) 0 77 h3 K E) ∧ (¬ (¬ x4 = 0) → b_X7_descent_75 d 77 (some (.int l1)) (some (.int l2)) (some (.int l3)) (some (.int l4)) (some (.int s0)) 77 h3 K E)) E))) E)) ∧ (¬ (¬ s0 = 0) → b_X7_descent_80 d 77 (some (.int l1)) (some (.int l2)) (some (.int l3)) (some (.int l4)) (some (.int s0)) 2 77 h K E)) ∧ (¬ (¬ l4 = 0) → b_X7_descent_80 d 77 (some (.int l1)) (some (.int l2)) (some (.int l3)) (some (.int l4)) (some (.int s0)) 1 77 h K E)) : b_X7_descent_35 d 77 l1 l2 l3 l4 u5 s0 h K E := by
  show Ex d [] tb_X7_descent (35, [some (.ref 77), some (.int l1), some (.int l2), some (.int l3), some (.int l4), u5], [.int s0]) h _
  refine Ex.pure 3 (fr2 := (40, [some (.ref 77), some (.int l1), some (.int l2), some (.int l3), some (.int l4), some (.int s0)], [.int l4, .ref 77])) rfl ?_
  refine Ex.br (x := (47, [some (.ref 77), some (.int l1), some (.int l2), some (.int l3), some (.int l4), some (.int s0)], [.ref 77])) (y := (43, [some (.ref 77), some (.int l1), some (.int l2), some (.int l3), some (.int l4), some (.int s0)], [.ref 77])) (b := ¬ l4 = 0) rfl (fun hb => ?_) (fun hb => ?_)
  · replace H := H.1 (hb)
    refine Ex.pure 1 (fr2 := (49, [some (.ref 77), some (.int l1), some (.int l2), some (.int l3), some (.int l4), some (.int s0)], [.int s0, .ref 77])) rfl ?_
    refine Ex.br (x := (56, [some (.ref 77), some (.int l1), some (.int l2), some (.int l3), some (.int l4), some (.int s0)], [.ref 77])) (y := (52, [some (.ref 77), some (.int l1), some (.int l2), some (.int l3), some (.int l4), some (.int s0)], [.ref 77])) (b := ¬ s0 = 0) rfl (fun hb => ?_) (fun hb => ?_)
    · replace H := H.1 (hb)
      refine Ex.pure 3 (fr2 := (59, [some (.ref 77), some (.int l1), some (.int l2), some (.int l3), some (.int l4), some (.int s0)], [.int 1, .int l1, .ref 77, .ref 77])) rfl ?_
      refine Ex.cal (rest := [.ref 77]) (j := m_X7_isKind) (as := [.ref 77, .int l1, .int 1]) (vst (a := 153) (b := 3) (c := 6) (rest := [.ref 77]) (vs := [.int l1, .int 1]) rfl ⟨Nat.le_of_ble_eq_true rfl, Nat.le_of_ble_eq_true rfl⟩ rfl rfl (sg_77 hs)) (H.imp ?_)
      intro rv h1 H
      obtain ⟨x2, rfl, H⟩ := H
      obtain ⟨hs, H⟩ := H
      show Ex d [] tb_X7_descent (62, [some (.ref 77), some (.int l1), some (.int l2), some (.int l3), some (.int l4), some (.int s0)], [.int x2, .ref 77]) h1 _
      refine Ex.br (x := (75, [some (.ref 77), some (.int l1), some (.int l2), some (.int l3), some (.int l4), some (.int s0)], [.ref 77])) (y := (65, [some (.ref 77), some (.int l1), some (.int l2), some (.int l3), some (.int l4), some (.int s0)], [.ref 77])) (b := x2 = 0) rfl (fun hb => ?_) (fun hb => ?_)
      · replace H := H.1 (hb)
        exact H
      · replace H := H.2 (hb)
        refine Ex.pure 4 (fr2 := (69, [some (.ref 77), some (.int l1), some (.int l2), some (.int l3), some (.int l4), some (.int s0)], [.int l3, .int l2, .int l1, .ref 77, .ref 77])) rfl ?_
        refine Ex.cal (rest := [.ref 77]) (j := m_X7_descends) (as := [.ref 77, .int l1, .int l2, .int l3]) (vst (a := 177) (b := 4) (c := 6) (rest := [.ref 77]) (vs := [.int l1, .int l2, .int l3]) rfl ⟨Nat.le_of_ble_eq_true rfl, Nat.le_of_ble_eq_true rfl⟩ rfl rfl (sg_77 hs)) (H.imp ?_)
        intro rv h3 H
        obtain ⟨x4, rfl, H⟩ := H
        obtain ⟨hs, H⟩ := H
        show Ex d [] tb_X7_descent (72, [some (.ref 77), some (.int l1), some (.int l2), some (.int l3), some (.int l4), some (.int s0)], [.int x4, .ref 77]) h3 _
        refine Ex.br (x := (79, [some (.ref 77), some (.int l1), some (.int l2), some (.int l3), some (.int l4), some (.int s0)], [.ref 77])) (y := (75, [some (.ref 77), some (.int l1), some (.int l2), some (.int l3), some (.int l4), some (.int s0)], [.ref 77])) (b := ¬ x4 = 0) rfl (fun hb => ?_) (fun hb => ?_)
        · replace H := H.1 (hb)
          refine Ex.pure 1 (fr2 := (80, [some (.ref 77), some (.int l1), some (.int l2), some (.int l3), some (.int l4), some (.int s0)], [.int 0, .ref 77])) rfl ?_
          exact H
        · replace H := H.2 (hb)
          exact H
    · replace H := H.2 (hb)
      refine Ex.pure 2 (fr2 := (80, [some (.ref 77), some (.int l1), some (.int l2), some (.int l3), some (.int l4), some (.int s0)], [.int 2, .ref 77])) rfl ?_
      exact H
  · replace H := H.2 (hb)
    refine Ex.pure 2 (fr2 := (80, [some (.ref 77), some (.int l1), some (.int l2), some (.int l3), some (.int l4), some (.int s0)], [.int 1, .ref 77])) rfl ?_
    exact H
theorem w_X7_descent_75 {d : Nat} {h : XH} {y : Nat → Nat} {K : XK} {E : XE} {u1 : Option Value} {u2 : Option Value} {u3 : Option Value} {u4 : Option Value} {u5 : Option Value} (hd : 20 ≤ d) (hs : Sg h.1 y) (H : b_X7_descent_80 d 77 (u1) (u2) (u3) (u4) (u5) 3 77 h K E) : b_X7_descent_75 d 77 u1 u2 u3 u4 u5 77 h K E := by
  show Ex d [] tb_X7_descent (75, [some (.ref 77), u1, u2, u3, u4, u5], [.ref 77]) h _
  refine Ex.pure 2 (fr2 := (80, [some (.ref 77), u1, u2, u3, u4, u5], [.int 3, .ref 77])) rfl ?_
  exact H
theorem w_X7_descent_80 {d : Nat} {h : XH} {y : Nat → Nat} {K : XK} {E : XE} {u1 : Option Value} {u2 : Option Value} {u3 : Option Value} {u4 : Option Value} {u5 : Option Value} {s0 : Int32} (hd : 20 ≤ d) (hs : Sg h.1 y) (H : (∀ h1 : XH, h1 = (x_setI h 77 0 s0) → ((s0 = 0) → K (some (.int (h1.2.1 77 27))) h1) ∧ (¬ (s0 = 0) → K (some (.int 0)) h1))) : b_X7_descent_80 d 77 u1 u2 u3 u4 u5 s0 77 h K E := by
  show Ex d [] tb_X7_descent (80, [some (.ref 77), u1, u2, u3, u4, u5], [.int s0, .ref 77]) h _
  refine Ex.ask (rest := []) (j := m_X7_holds) (as := [.ref 77, .int s0]) (vst (a := 114) (b := 2) (c := 6) (rest := []) (vs := [.int s0]) rfl ⟨Nat.le_of_ble_eq_true rfl, Nat.le_of_ble_eq_true rfl⟩ rfl rfl (sg_77 hs)) ((t_X7_holds hs).mono (by omega) (fun _ _ z => z)) ?_
  rintro _ h1 ⟨rfl, e1⟩
  replace H := H h1 e1
  replace hs : Sg h1.1 y := by rw [e1]; exact hs
  show Ex d [] tb_X7_descent (83, [some (.ref 77), u1, u2, u3, u4, u5], [.int (bi (s0 = 0))]) h1 _
  refine Ex.br (x := (93, [some (.ref 77), u1, u2, u3, u4, u5], [])) (y := (86, [some (.ref 77), u1, u2, u3, u4, u5], [])) (b := (bi (s0 = 0)) = 0) rfl (fun hb => ?_) (fun hb => ?_)
  · replace H := H.2 (bi_eq.mp hb)
    refine Ex.pure 1 (fr2 := (94, [some (.ref 77), u1, u2, u3, u4, u5], [.int 0])) rfl ?_
    exact Ex.iret rfl (Or.inl rfl) H
  · replace H := H.1 (bi_neq.mp hb)
    refine Ex.pure 1 (fr2 := (87, [some (.ref 77), u1, u2, u3, u4, u5], [.ref 77])) rfl ?_
    refine Ex.getI rfl (Or.inl rfl) (sg_77 hs) ?_
    refine Ex.pure 1 (fr2 := (94, [some (.ref 77), u1, u2, u3, u4, u5], [.int (h1.2.1 77 27)])) rfl ?_
    exact Ex.iret rfl (Or.inl rfl) H
def b_X7_powers_28 (d : Nat) (r_0 : Nat) (l1 : Int32) (u2 : Option Value) (s0 : Int32) (r_4 : Nat) (h : XH) (K : XK) (E : XE) : Prop := Ex d [] tb_X7_powers (28, [some (.ref r_0), some (.int l1), u2], [.int s0, .ref r_4]) h (Po K E)
theorem w_X7_powers {d : Nat} {h : XH} {y : Nat → Nat} {K : XK} {E : XE} {a : Int32} (hd : 20 ≤ d) (hs : Sg h.1 y) (H : ((isp a) → (Ca d m_X7_isKind [.ref 77, .int a, .int 1] h (fun rv h2 => ∃ x3, rv = some (.int x3) ∧ Sg h2.1 y ∧ (¬ x3 = 0 → b_X7_powers_28 d 77 a (some (.int (bi (isp a)))) 0 77 h2 K E) ∧ (¬ (¬ x3 = 0) → b_X7_powers_28 d 77 a (some (.int (bi (isp a)))) 2 77 h2 K E)) E)) ∧ (¬ (isp a) → b_X7_powers_28 d 77 a (some (.int (bi (isp a)))) 1 77 h K E)) : Ca (d + 1) m_X7_powers [.ref 77, .int a] h K E := by
  refine Ca.of ⟨by show 2 ≤ 3; omega, rfl⟩ ?_
  show Ex d [] tb_X7_powers (0, [some (.ref 77), some (.int a), none], []) h _
  refine Ex.pure 1 (fr2 := (1, [some (.ref 77), some (.int a), none], [.int a])) rfl ?_
  refine Ex.ask (rest := []) (j := m_X7_isPlace) (as := [.int a]) (fun c => rfl) ((t_X7_isPlace hs).mono (by omega) (fun _ _ z => z)) ?_
  rintro _ h0 ⟨rfl, e0⟩
  rw [e0]
  show Ex d [] tb_X7_powers (4, [some (.ref 77), some (.int a), none], [.int (bi (isp a))]) h _
  refine Ex.pure 3 (fr2 := (7, [some (.ref 77), some (.int a), some (.int (bi (isp a)))], [.int (bi (isp a)), .ref 77])) rfl ?_
  refine Ex.br (x := (14, [some (.ref 77), some (.int a), some (.int (bi (isp a)))], [.ref 77])) (y := (10, [some (.ref 77), some (.int a), some (.int (bi (isp a)))], [.ref 77])) (b := ¬ (bi (isp a)) = 0) rfl (fun hb => ?_) (fun hb => ?_)
  · replace H := H.1 (bi_ne.mp hb)
    refine Ex.pure 3 (fr2 := (17, [some (.ref 77), some (.int a), some (.int (bi (isp a)))], [.int 1, .int a, .ref 77, .ref 77])) rfl ?_
    refine Ex.cal (rest := [.ref 77]) (j := m_X7_isKind) (as := [.ref 77, .int a, .int 1]) (vst (a := 153) (b := 3) (c := 6) (rest := [.ref 77]) (vs := [.int a, .int 1]) rfl ⟨Nat.le_of_ble_eq_true rfl, Nat.le_of_ble_eq_true rfl⟩ rfl rfl (sg_77 hs)) (H.imp ?_)
    intro rv h2 H
    obtain ⟨x3, rfl, H⟩ := H
    obtain ⟨hs, H⟩ := H
    show Ex d [] tb_X7_powers (20, [some (.ref 77), some (.int a), some (.int (bi (isp a)))], [.int x3, .ref 77]) h2 _
    refine Ex.br (x := (27, [some (.ref 77), some (.int a), some (.int (bi (isp a)))], [.ref 77])) (y := (23, [some (.ref 77), some (.int a), some (.int (bi (isp a)))], [.ref 77])) (b := ¬ x3 = 0) rfl (fun hb => ?_) (fun hb => ?_)
    · replace H := H.1 (hb)
      refine Ex.pure 1 (fr2 := (28, [some (.ref 77), some (.int a), some (.int (bi (isp a)))], [.int 0, .ref 77])) rfl ?_
      exact H
    · replace H := H.2 (hb)
      refine Ex.pure 2 (fr2 := (28, [some (.ref 77), some (.int a), some (.int (bi (isp a)))], [.int 2, .ref 77])) rfl ?_
      exact H
  · replace H := H.2 (bi_nne.mp hb)
    refine Ex.pure 2 (fr2 := (28, [some (.ref 77), some (.int a), some (.int (bi (isp a)))], [.int 1, .ref 77])) rfl ?_
    exact H
theorem w_X7_powers_28 {d : Nat} {h : XH} {y : Nat → Nat} {K : XK} {E : XE} {l1 : Int32} {u2 : Option Value} {s0 : Int32} (hd : 20 ≤ d) (hs : Sg h.1 y) (H : (∀ h1 : XH, h1 = (x_setI h 77 0 s0) → ((s0 = 0) → (Ix l1 16 ∧ (Ix (h1.2.1 79 (ix l1)) 2000 ∧ K (some (.int (h1.2.1 82 (ix (h1.2.1 79 (ix l1)))))) h1))) ∧ (¬ (s0 = 0) → K (some (.int 0)) h1))) : b_X7_powers_28 d 77 l1 u2 s0 77 h K E := by
  show Ex d [] tb_X7_powers (28, [some (.ref 77), some (.int l1), u2], [.int s0, .ref 77]) h _
  refine Ex.ask (rest := []) (j := m_X7_holds) (as := [.ref 77, .int s0]) (vst (a := 114) (b := 2) (c := 6) (rest := []) (vs := [.int s0]) rfl ⟨Nat.le_of_ble_eq_true rfl, Nat.le_of_ble_eq_true rfl⟩ rfl rfl (sg_77 hs)) ((t_X7_holds hs).mono (by omega) (fun _ _ z => z)) ?_
  rintro _ h1 ⟨rfl, e1⟩
  replace H := H h1 e1
  replace hs : Sg h1.1 y := by rw [e1]; exact hs
  show Ex d [] tb_X7_powers (31, [some (.ref 77), some (.int l1), u2], [.int (bi (s0 = 0))]) h1 _
  refine Ex.br (x := (48, [some (.ref 77), some (.int l1), u2], [])) (y := (34, [some (.ref 77), some (.int l1), u2], [])) (b := (bi (s0 = 0)) = 0) rfl (fun hb => ?_) (fun hb => ?_)
  · replace H := H.2 (bi_eq.mp hb)
    refine Ex.pure 1 (fr2 := (49, [some (.ref 77), some (.int l1), u2], [.int 0])) rfl ?_
    exact Ex.iret rfl (Or.inl rfl) H
  · replace H := H.1 (bi_neq.mp hb)
    refine Ex.pure 1 (fr2 := (35, [some (.ref 77), some (.int l1), u2], [.ref 77])) rfl ?_
    refine Ex.getQ rfl (sg_77 hs) rfl ?_
    refine Ex.pure 1 (fr2 := (39, [some (.ref 77), some (.int l1), u2], [.ref 77, .ref 82])) rfl ?_
    refine Ex.getQ rfl (sg_77 hs) rfl ?_
    refine Ex.pure 1 (fr2 := (43, [some (.ref 77), some (.int l1), u2], [.int l1, .ref 79, .ref 82])) rfl ?_
    refine Ex.iald rfl (Or.inl rfl) (sg_79 hs) H.1 ?_
    replace H := H.2
    refine Ex.iald rfl (Or.inl rfl) (sg_82 hs) H.1 ?_
    replace H := H.2
    refine Ex.pure 1 (fr2 := (49, [some (.ref 77), some (.int l1), u2], [.int (h1.2.1 82 (ix (h1.2.1 79 (ix l1))))])) rfl ?_
    exact Ex.iret rfl (Or.inl rfl) H
theorem w_X7_hasPower {d : Nat} {h : XH} {y : Nat → Nat} {K : XK} {E : XE} {a : Int32} {b : Int32} (hd : 20 ≤ d) (hs : Sg h.1 y) (H : (Ca d m_X7_isKind [.ref 77, .int a, .int 1] h (fun rv h1 => ∃ x2, rv = some (.int x2) ∧ Sg h1.1 y ∧ (x2 = 0 → K (some (.int 0)) h1) ∧ (¬ (x2 = 0) → (Ix a 16 ∧ (Ix (h1.2.1 79 (ix a)) 2000 ∧ ((h1.2.1 82 (ix (h1.2.1 79 (ix a)))) ≤ b → K (some (.int 0)) h1) ∧ (¬ ((h1.2.1 82 (ix (h1.2.1 79 (ix a)))) ≤ b) → K (some (.int 1)) h1))))) E)) : Ca (d + 1) m_X7_hasPower [.ref 77, .int a, .int b] h K E := by
  refine Ca.of ⟨by show 3 ≤ 3; omega, rfl⟩ ?_
  show Ex d [] tb_X7_hasPower (0, [some (.ref 77), some (.int a), some (.int b)], []) h _
  refine Ex.pure 3 (fr2 := (3, [some (.ref 77), some (.int a), some (.int b)], [.int 1, .int a, .ref 77])) rfl ?_
  refine Ex.cal (rest := []) (j := m_X7_isKind) (as := [.ref 77, .int a, .int 1]) (vst (a := 153) (b := 3) (c := 6) (rest := []) (vs := [.int a, .int 1]) rfl ⟨Nat.le_of_ble_eq_true rfl, Nat.le_of_ble_eq_true rfl⟩ rfl rfl (sg_77 hs)) (H.imp ?_)
  intro rv h1 H
  obtain ⟨x2, rfl, H⟩ := H
  obtain ⟨hs, H⟩ := H
  show Ex d [] tb_X7_hasPower (6, [some (.ref 77), some (.int a), some (.int b)], [.int x2]) h1 _
  refine Ex.br (x := (28, [some (.ref 77), some (.int a), some (.int b)], [])) (y := (9, [some (.ref 77), some (.int a), some (.int b)], [])) (b := x2 = 0) rfl (fun hb => ?_) (fun hb => ?_)
  · replace H := H.1 (hb)
    refine Ex.pure 1 (fr2 := (29, [some (.ref 77), some (.int a), some (.int b)], [.int 0])) rfl ?_
    exact Ex.iret rfl (Or.inr ⟨rfl, by decide⟩) H
  · replace H := H.2 (hb)
    refine Ex.pure 2 (fr2 := (11, [some (.ref 77), some (.int a), some (.int b)], [.ref 77, .int b])) rfl ?_
    refine Ex.getQ rfl (sg_77 hs) rfl ?_
    refine Ex.pure 1 (fr2 := (15, [some (.ref 77), some (.int a), some (.int b)], [.ref 77, .ref 82, .int b])) rfl ?_
    refine Ex.getQ rfl (sg_77 hs) rfl ?_
    refine Ex.pure 1 (fr2 := (19, [some (.ref 77), some (.int a), some (.int b)], [.int a, .ref 79, .ref 82, .int b])) rfl ?_
    refine Ex.iald rfl (Or.inl rfl) (sg_79 hs) H.1 ?_
    replace H := H.2
    refine Ex.iald rfl (Or.inl rfl) (sg_82 hs) H.1 ?_
    replace H := H.2
    refine Ex.br (x := (28, [some (.ref 77), some (.int a), some (.int b)], [])) (y := (24, [some (.ref 77), some (.int a), some (.int b)], [])) (b := (h1.2.1 82 (ix (h1.2.1 79 (ix a)))) ≤ b) rfl (fun hb => ?_) (fun hb => ?_)
    · replace H := H.1 (hb)
      refine Ex.pure 1 (fr2 := (29, [some (.ref 77), some (.int a), some (.int b)], [.int 0])) rfl ?_
      exact Ex.iret rfl (Or.inr ⟨rfl, by decide⟩) H
    · replace H := H.2 (hb)
      refine Ex.pure 2 (fr2 := (29, [some (.ref 77), some (.int a), some (.int b)], [.int 1])) rfl ?_
      exact Ex.iret rfl (Or.inr ⟨rfl, by decide⟩) H
def b_X7_times_15 (d : Nat) (r_0 : Nat) (l1 : Int32) (l2 : Int32) (u3 : Option Value) (h : XH) (K : XK) (E : XE) : Prop := Ex d [] tb_X7_times (15, [some (.ref r_0), some (.int l1), some (.int l2), u3], []) h (Po K E)
def b_X7_times_16 (d : Nat) (r_0 : Nat) (l1 : Int32) (l2 : Int32) (u3 : Option Value) (s0 : Int32) (h : XH) (K : XK) (E : XE) : Prop := Ex d [] tb_X7_times (16, [some (.ref r_0), some (.int l1), some (.int l2), u3], [.int s0]) h (Po K E)
def b_X7_times_40 (d : Nat) (r_0 : Nat) (l1 : Int32) (l2 : Int32) (u3 : Option Value) (s0 : Int32) (r_5 : Nat) (h : XH) (K : XK) (E : XE) : Prop := Ex d [] tb_X7_times (40, [some (.ref r_0), some (.int l1), some (.int l2), u3], [.int s0, .ref r_5]) h (Po K E)
theorem w_X7_times {d : Nat} {h : XH} {y : Nat → Nat} {K : XK} {E : XE} {a : Int32} {b : Int32} (hd : 20 ≤ d) (hs : Sg h.1 y) (H : ((isp a) → (b < 0 → b_X7_times_15 d 77 a b none h K E) ∧ (¬ (b < 0) → b_X7_times_16 d 77 a b none 1 h K E)) ∧ (¬ (isp a) → b_X7_times_15 d 77 a b none h K E)) : Ca (d + 1) m_X7_times [.ref 77, .int a, .int b] h K E := by
  refine Ca.of ⟨by show 3 ≤ 4; omega, rfl⟩ ?_
  show Ex d [] tb_X7_times (0, [some (.ref 77), some (.int a), some (.int b), none], []) h _
  refine Ex.pure 1 (fr2 := (1, [some (.ref 77), some (.int a), some (.int b), none], [.int a])) rfl ?_
  refine Ex.ask (rest := []) (j := m_X7_isPlace) (as := [.int a]) (fun c => rfl) ((t_X7_isPlace hs).mono (by omega) (fun _ _ z => z)) ?_
  rintro _ h0 ⟨rfl, e0⟩
  rw [e0]
  show Ex d [] tb_X7_times (4, [some (.ref 77), some (.int a), some (.int b), none], [.int (bi (isp a))]) h _
  refine Ex.br (x := (15, [some (.ref 77), some (.int a), some (.int b), none], [])) (y := (7, [some (.ref 77), some (.int a), some (.int b), none], [])) (b := (bi (isp a)) = 0) rfl (fun hb => ?_) (fun hb => ?_)
  · replace H := H.2 (bi_eq.mp hb)
    exact H
  · replace H := H.1 (bi_neq.mp hb)
    refine Ex.pure 1 (fr2 := (8, [some (.ref 77), some (.int a), some (.int b), none], [.int b])) rfl ?_
    refine Ex.br (x := (15, [some (.ref 77), some (.int a), some (.int b), none], [])) (y := (11, [some (.ref 77), some (.int a), some (.int b), none], [])) (b := b < 0) rfl (fun hb => ?_) (fun hb => ?_)
    · replace H := H.1 (hb)
      exact H
    · replace H := H.2 (hb)
      refine Ex.pure 2 (fr2 := (16, [some (.ref 77), some (.int a), some (.int b), none], [.int 1])) rfl ?_
      exact H
theorem w_X7_times_15 {d : Nat} {h : XH} {y : Nat → Nat} {K : XK} {E : XE} {l1 : Int32} {l2 : Int32} {u3 : Option Value} (hd : 20 ≤ d) (hs : Sg h.1 y) (H : b_X7_times_16 d 77 l1 l2 (u3) 0 h K E) : b_X7_times_15 d 77 l1 l2 u3 h K E := by
  show Ex d [] tb_X7_times (15, [some (.ref 77), some (.int l1), some (.int l2), u3], []) h _
  refine Ex.pure 1 (fr2 := (16, [some (.ref 77), some (.int l1), some (.int l2), u3], [.int 0])) rfl ?_
  exact H
theorem w_X7_times_16 {d : Nat} {h : XH} {y : Nat → Nat} {K : XK} {E : XE} {l1 : Int32} {l2 : Int32} {u3 : Option Value} {s0 : Int32} (hd : 20 ≤ d) (hs : Sg h.1 y) (H : (¬ s0 = 0 → (Ca d m_X7_hasPower [.ref 77, .int l1, .int l2] h (fun rv h1 => ∃ x2, rv = some (.int x2) ∧ Sg h1.1 y ∧ (¬ x2 = 0 → b_X7_times_40 d 77 l1 l2 (some (.int s0)) 0 77 h1 K E) ∧ (¬ (¬ x2 = 0) → b_X7_times_40 d 77 l1 l2 (some (.int s0)) 2 77 h1 K E)) E)) ∧ (¬ (¬ s0 = 0) → b_X7_times_40 d 77 l1 l2 (some (.int s0)) 1 77 h K E)) : b_X7_times_16 d 77 l1 l2 u3 s0 h K E := by
  show Ex d [] tb_X7_times (16, [some (.ref 77), some (.int l1), some (.int l2), u3], [.int s0]) h _
  refine Ex.pure 3 (fr2 := (19, [some (.ref 77), some (.int l1), some (.int l2), some (.int s0)], [.int s0, .ref 77])) rfl ?_
  refine Ex.br (x := (26, [some (.ref 77), some (.int l1), some (.int l2), some (.int s0)], [.ref 77])) (y := (22, [some (.ref 77), some (.int l1), some (.int l2), some (.int s0)], [.ref 77])) (b := ¬ s0 = 0) rfl (fun hb => ?_) (fun hb => ?_)
  · replace H := H.1 (hb)
    refine Ex.pure 3 (fr2 := (29, [some (.ref 77), some (.int l1), some (.int l2), some (.int s0)], [.int l2, .int l1, .ref 77, .ref 77])) rfl ?_
    refine Ex.cal (rest := [.ref 77]) (j := m_X7_hasPower) (as := [.ref 77, .int l1, .int l2]) (vst (a := 180) (b := 3) (c := 6) (rest := [.ref 77]) (vs := [.int l1, .int l2]) rfl ⟨Nat.le_of_ble_eq_true rfl, Nat.le_of_ble_eq_true rfl⟩ rfl rfl (sg_77 hs)) (H.imp ?_)
    intro rv h1 H
    obtain ⟨x2, rfl, H⟩ := H
    obtain ⟨hs, H⟩ := H
    show Ex d [] tb_X7_times (32, [some (.ref 77), some (.int l1), some (.int l2), some (.int s0)], [.int x2, .ref 77]) h1 _
    refine Ex.br (x := (39, [some (.ref 77), some (.int l1), some (.int l2), some (.int s0)], [.ref 77])) (y := (35, [some (.ref 77), some (.int l1), some (.int l2), some (.int s0)], [.ref 77])) (b := ¬ x2 = 0) rfl (fun hb => ?_) (fun hb => ?_)
    · replace H := H.1 (hb)
      refine Ex.pure 1 (fr2 := (40, [some (.ref 77), some (.int l1), some (.int l2), some (.int s0)], [.int 0, .ref 77])) rfl ?_
      exact H
    · replace H := H.2 (hb)
      refine Ex.pure 2 (fr2 := (40, [some (.ref 77), some (.int l1), some (.int l2), some (.int s0)], [.int 2, .ref 77])) rfl ?_
      exact H
  · replace H := H.2 (hb)
    refine Ex.pure 2 (fr2 := (40, [some (.ref 77), some (.int l1), some (.int l2), some (.int s0)], [.int 1, .ref 77])) rfl ?_
    exact H
theorem w_X7_times_40 {d : Nat} {h : XH} {y : Nat → Nat} {K : XK} {E : XE} {l1 : Int32} {l2 : Int32} {u3 : Option Value} {s0 : Int32} (hd : 20 ≤ d) (hs : Sg h.1 y) (H : (∀ h1 : XH, h1 = (x_setI h 77 0 s0) → ((s0 = 0) → (Ix l1 16 ∧ (Ix ((8 * (h1.2.1 79 (ix l1))) + l2) 16000 ∧ K (some (.long (((h1.2.1 81 (ix ((8 * (h1.2.1 79 (ix l1))) + l2))) : Int32).toInt64))) h1))) ∧ (¬ (s0 = 0) → K (some (.long 0)) h1))) : b_X7_times_40 d 77 l1 l2 u3 s0 77 h K E := by
  show Ex d [] tb_X7_times (40, [some (.ref 77), some (.int l1), some (.int l2), u3], [.int s0, .ref 77]) h _
  refine Ex.ask (rest := []) (j := m_X7_holds) (as := [.ref 77, .int s0]) (vst (a := 114) (b := 2) (c := 6) (rest := []) (vs := [.int s0]) rfl ⟨Nat.le_of_ble_eq_true rfl, Nat.le_of_ble_eq_true rfl⟩ rfl rfl (sg_77 hs)) ((t_X7_holds hs).mono (by omega) (fun _ _ z => z)) ?_
  rintro _ h1 ⟨rfl, e1⟩
  replace H := H h1 e1
  replace hs : Sg h1.1 y := by rw [e1]; exact hs
  show Ex d [] tb_X7_times (43, [some (.ref 77), some (.int l1), some (.int l2), u3], [.int (bi (s0 = 0))]) h1 _
  refine Ex.br (x := (66, [some (.ref 77), some (.int l1), some (.int l2), u3], [])) (y := (46, [some (.ref 77), some (.int l1), some (.int l2), u3], [])) (b := (bi (s0 = 0)) = 0) rfl (fun hb => ?_) (fun hb => ?_)
  · replace H := H.2 (bi_eq.mp hb)
    refine Ex.pure 1 (fr2 := (67, [some (.ref 77), some (.int l1), some (.int l2), u3], [.long 0])) rfl ?_
    exact Ex.lret rfl H
  · replace H := H.1 (bi_neq.mp hb)
    refine Ex.pure 1 (fr2 := (47, [some (.ref 77), some (.int l1), some (.int l2), u3], [.ref 77])) rfl ?_
    refine Ex.getQ rfl (sg_77 hs) rfl ?_
    refine Ex.pure 2 (fr2 := (53, [some (.ref 77), some (.int l1), some (.int l2), u3], [.ref 77, .int 8, .ref 81])) rfl ?_
    refine Ex.getQ rfl (sg_77 hs) rfl ?_
    refine Ex.pure 1 (fr2 := (57, [some (.ref 77), some (.int l1), some (.int l2), u3], [.int l1, .ref 79, .int 8, .ref 81])) rfl ?_
    refine Ex.iald rfl (Or.inl rfl) (sg_79 hs) H.1 ?_
    replace H := H.2
    refine Ex.pure 3 (fr2 := (61, [some (.ref 77), some (.int l1), some (.int l2), u3], [.int ((8 * (h1.2.1 79 (ix l1))) + l2), .ref 81])) rfl ?_
    refine Ex.iald rfl (Or.inl rfl) (sg_81 hs) H.1 ?_
    replace H := H.2
    refine Ex.pure 2 (fr2 := (67, [some (.ref 77), some (.int l1), some (.int l2), u3], [.long (((h1.2.1 81 (ix ((8 * (h1.2.1 79 (ix l1))) + l2))) : Int32).toInt64)])) rfl ?_
    exact Ex.lret rfl H
def b_X7_exponent_22 (d : Nat) (r_0 : Nat) (l1 : Int32) (l2 : Int32) (l3 : Int32) (u4 : Option Value) (h : XH) (K : XK) (E : XE) : Prop := Ex d [] tb_X7_exponent (22, [some (.ref r_0), some (.int l1), some (.int l2), some (.int l3), u4], []) h (Po K E)
def b_X7_exponent_23 (d : Nat) (r_0 : Nat) (l1 : Int32) (l2 : Int32) (l3 : Int32) (u4 : Option Value) (s0 : Int32) (h : XH) (K : XK) (E : XE) : Prop := Ex d [] tb_X7_exponent (23, [some (.ref r_0), some (.int l1), some (.int l2), some (.int l3), u4], [.int s0]) h (Po K E)
def b_X7_exponent_49 (d : Nat) (r_0 : Nat) (l1 : Int32) (l2 : Int32) (l3 : Int32) (u4 : Option Value) (s0 : Int32) (r_6 : Nat) (h : XH) (K : XK) (E : XE) : Prop := Ex d [] tb_X7_exponent (49, [some (.ref r_0), some (.int l1), some (.int l2), some (.int l3), u4], [.int s0, .ref r_6]) h (Po K E)
theorem w_X7_exponent {d : Nat} {h : XH} {y : Nat → Nat} {K : XK} {E : XE} {a : Int32} {b : Int32} {c : Int32} (hd : 20 ≤ d) (hs : Sg h.1 y) (H : ((isp a) → ((isp b) → (c < 0 → b_X7_exponent_22 d 77 a b c none h K E) ∧ (¬ (c < 0) → b_X7_exponent_23 d 77 a b c none 1 h K E)) ∧ (¬ (isp b) → b_X7_exponent_22 d 77 a b c none h K E)) ∧ (¬ (isp a) → b_X7_exponent_22 d 77 a b c none h K E)) : Ca (d + 1) m_X7_exponent [.ref 77, .int a, .int b, .int c] h K E := by
  refine Ca.of ⟨by show 4 ≤ 5; omega, rfl⟩ ?_
  show Ex d [] tb_X7_exponent (0, [some (.ref 77), some (.int a), some (.int b), some (.int c), none], []) h _
  refine Ex.pure 1 (fr2 := (1, [some (.ref 77), some (.int a), some (.int b), some (.int c), none], [.int a])) rfl ?_
  refine Ex.ask (rest := []) (j := m_X7_isPlace) (as := [.int a]) (fun c => rfl) ((t_X7_isPlace hs).mono (by omega) (fun _ _ z => z)) ?_
  rintro _ h0 ⟨rfl, e0⟩
  rw [e0]
  show Ex d [] tb_X7_exponent (4, [some (.ref 77), some (.int a), some (.int b), some (.int c), none], [.int (bi (isp a))]) h _
  refine Ex.br (x := (22, [some (.ref 77), some (.int a), some (.int b), some (.int c), none], [])) (y := (7, [some (.ref 77), some (.int a), some (.int b), some (.int c), none], [])) (b := (bi (isp a)) = 0) rfl (fun hb => ?_) (fun hb => ?_)
  · replace H := H.2 (bi_eq.mp hb)
    exact H
  · replace H := H.1 (bi_neq.mp hb)
    refine Ex.pure 1 (fr2 := (8, [some (.ref 77), some (.int a), some (.int b), some (.int c), none], [.int b])) rfl ?_
    refine Ex.ask (rest := []) (j := m_X7_isPlace) (as := [.int b]) (fun c => rfl) ((t_X7_isPlace hs).mono (by omega) (fun _ _ z => z)) ?_
    rintro _ h0 ⟨rfl, e0⟩
    rw [e0]
    show Ex d [] tb_X7_exponent (11, [some (.ref 77), some (.int a), some (.int b), some (.int c), none], [.int (bi (isp b))]) h _
    refine Ex.br (x := (22, [some (.ref 77), some (.int a), some (.int b), some (.int c), none], [])) (y := (14, [some (.ref 77), some (.int a), some (.int b), some (.int c), none], [])) (b := (bi (isp b)) = 0) rfl (fun hb => ?_) (fun hb => ?_)
    · replace H := H.2 (bi_eq.mp hb)
      exact H
    · replace H := H.1 (bi_neq.mp hb)
      refine Ex.pure 1 (fr2 := (15, [some (.ref 77), some (.int a), some (.int b), some (.int c), none], [.int c])) rfl ?_
      refine Ex.br (x := (22, [some (.ref 77), some (.int a), some (.int b), some (.int c), none], [])) (y := (18, [some (.ref 77), some (.int a), some (.int b), some (.int c), none], [])) (b := c < 0) rfl (fun hb => ?_) (fun hb => ?_)
      · replace H := H.1 (hb)
        exact H
      · replace H := H.2 (hb)
        refine Ex.pure 2 (fr2 := (23, [some (.ref 77), some (.int a), some (.int b), some (.int c), none], [.int 1])) rfl ?_
        exact H
theorem w_X7_exponent_22 {d : Nat} {h : XH} {y : Nat → Nat} {K : XK} {E : XE} {l1 : Int32} {l2 : Int32} {l3 : Int32} {u4 : Option Value} (hd : 20 ≤ d) (hs : Sg h.1 y) (H : b_X7_exponent_23 d 77 l1 l2 l3 (u4) 0 h K E) : b_X7_exponent_22 d 77 l1 l2 l3 u4 h K E := by
  show Ex d [] tb_X7_exponent (22, [some (.ref 77), some (.int l1), some (.int l2), some (.int l3), u4], []) h _
  refine Ex.pure 1 (fr2 := (23, [some (.ref 77), some (.int l1), some (.int l2), some (.int l3), u4], [.int 0])) rfl ?_
  exact H
theorem w_X7_exponent_23 {d : Nat} {h : XH} {y : Nat → Nat} {K : XK} {E : XE} {l1 : Int32} {l2 : Int32} {l3 : Int32} {u4 : Option Value} {s0 : Int32} (hd : 20 ≤ d) (hs : Sg h.1 y) (H : (¬ s0 = 0 → (Ca d m_X7_hasPower [.ref 77, .int l2, .int l3] h (fun rv h1 => ∃ x2, rv = some (.int x2) ∧ Sg h1.1 y ∧ (¬ x2 = 0 → b_X7_exponent_49 d 77 l1 l2 l3 (some (.int s0)) 0 77 h1 K E) ∧ (¬ (¬ x2 = 0) → b_X7_exponent_49 d 77 l1 l2 l3 (some (.int s0)) 2 77 h1 K E)) E)) ∧ (¬ (¬ s0 = 0) → b_X7_exponent_49 d 77 l1 l2 l3 (some (.int s0)) 1 77 h K E)) : b_X7_exponent_23 d 77 l1 l2 l3 u4 s0 h K E := by
  show Ex d [] tb_X7_exponent (23, [some (.ref 77), some (.int l1), some (.int l2), some (.int l3), u4], [.int s0]) h _
  refine Ex.pure 3 (fr2 := (28, [some (.ref 77), some (.int l1), some (.int l2), some (.int l3), some (.int s0)], [.int s0, .ref 77])) rfl ?_
  refine Ex.br (x := (35, [some (.ref 77), some (.int l1), some (.int l2), some (.int l3), some (.int s0)], [.ref 77])) (y := (31, [some (.ref 77), some (.int l1), some (.int l2), some (.int l3), some (.int s0)], [.ref 77])) (b := ¬ s0 = 0) rfl (fun hb => ?_) (fun hb => ?_)
  · replace H := H.1 (hb)
    refine Ex.pure 3 (fr2 := (38, [some (.ref 77), some (.int l1), some (.int l2), some (.int l3), some (.int s0)], [.int l3, .int l2, .ref 77, .ref 77])) rfl ?_
    refine Ex.cal (rest := [.ref 77]) (j := m_X7_hasPower) (as := [.ref 77, .int l2, .int l3]) (vst (a := 180) (b := 3) (c := 6) (rest := [.ref 77]) (vs := [.int l2, .int l3]) rfl ⟨Nat.le_of_ble_eq_true rfl, Nat.le_of_ble_eq_true rfl⟩ rfl rfl (sg_77 hs)) (H.imp ?_)
    intro rv h1 H
    obtain ⟨x2, rfl, H⟩ := H
    obtain ⟨hs, H⟩ := H
    show Ex d [] tb_X7_exponent (41, [some (.ref 77), some (.int l1), some (.int l2), some (.int l3), some (.int s0)], [.int x2, .ref 77]) h1 _
    refine Ex.br (x := (48, [some (.ref 77), some (.int l1), some (.int l2), some (.int l3), some (.int s0)], [.ref 77])) (y := (44, [some (.ref 77), some (.int l1), some (.int l2), some (.int l3), some (.int s0)], [.ref 77])) (b := ¬ x2 = 0) rfl (fun hb => ?_) (fun hb => ?_)
    · replace H := H.1 (hb)
      refine Ex.pure 1 (fr2 := (49, [some (.ref 77), some (.int l1), some (.int l2), some (.int l3), some (.int s0)], [.int 0, .ref 77])) rfl ?_
      exact H
    · replace H := H.2 (hb)
      refine Ex.pure 2 (fr2 := (49, [some (.ref 77), some (.int l1), some (.int l2), some (.int l3), some (.int s0)], [.int 2, .ref 77])) rfl ?_
      exact H
  · replace H := H.2 (hb)
    refine Ex.pure 2 (fr2 := (49, [some (.ref 77), some (.int l1), some (.int l2), some (.int l3), some (.int s0)], [.int 1, .ref 77])) rfl ?_
    exact H
theorem w_X7_exponent_49 {d : Nat} {h : XH} {y : Nat → Nat} {K : XK} {E : XE} {l1 : Int32} {l2 : Int32} {l3 : Int32} {u4 : Option Value} {s0 : Int32} (hd : 20 ≤ d) (hs : Sg h.1 y) (H : (∀ h1 : XH, h1 = (x_setI h 77 0 s0) → ((s0 = 0) → (Ix l2 16 ∧ (Ix ((8 * (h1.2.1 79 (ix l2))) + l3) 16000 ∧ (Ca d m_X7_lays [.ref 77, .int l1, .int 1, .int (h1.2.1 80 (ix ((8 * (h1.2.1 79 (ix l2))) + l3)))] h1 (fun rv h2 => rv = none ∧ Sg h2.1 y ∧ K none h2) E)))) ∧ (¬ (s0 = 0) → K none h1))) : b_X7_exponent_49 d 77 l1 l2 l3 u4 s0 77 h K E := by
  show Ex d [] tb_X7_exponent (49, [some (.ref 77), some (.int l1), some (.int l2), some (.int l3), u4], [.int s0, .ref 77]) h _
  refine Ex.ask (rest := []) (j := m_X7_holds) (as := [.ref 77, .int s0]) (vst (a := 114) (b := 2) (c := 6) (rest := []) (vs := [.int s0]) rfl ⟨Nat.le_of_ble_eq_true rfl, Nat.le_of_ble_eq_true rfl⟩ rfl rfl (sg_77 hs)) ((t_X7_holds hs).mono (by omega) (fun _ _ z => z)) ?_
  rintro _ h1 ⟨rfl, e1⟩
  replace H := H h1 e1
  replace hs : Sg h1.1 y := by rw [e1]; exact hs
  show Ex d [] tb_X7_exponent (52, [some (.ref 77), some (.int l1), some (.int l2), some (.int l3), u4], [.int (bi (s0 = 0))]) h1 _
  refine Ex.br (x := (77, [some (.ref 77), some (.int l1), some (.int l2), some (.int l3), u4], [])) (y := (55, [some (.ref 77), some (.int l1), some (.int l2), some (.int l3), u4], [])) (b := (bi (s0 = 0)) = 0) rfl (fun hb => ?_) (fun hb => ?_)
  · replace H := H.2 (bi_eq.mp hb)
    exact Ex.vret rfl H
  · replace H := H.1 (bi_neq.mp hb)
    refine Ex.pure 4 (fr2 := (59, [some (.ref 77), some (.int l1), some (.int l2), some (.int l3), u4], [.ref 77, .int 1, .int l1, .ref 77])) rfl ?_
    refine Ex.getQ rfl (sg_77 hs) rfl ?_
    refine Ex.pure 2 (fr2 := (65, [some (.ref 77), some (.int l1), some (.int l2), some (.int l3), u4], [.ref 77, .int 8, .ref 80, .int 1, .int l1, .ref 77])) rfl ?_
    refine Ex.getQ rfl (sg_77 hs) rfl ?_
    refine Ex.pure 1 (fr2 := (69, [some (.ref 77), some (.int l1), some (.int l2), some (.int l3), u4], [.int l2, .ref 79, .int 8, .ref 80, .int 1, .int l1, .ref 77])) rfl ?_
    refine Ex.iald rfl (Or.inl rfl) (sg_79 hs) H.1 ?_
    replace H := H.2
    refine Ex.pure 3 (fr2 := (73, [some (.ref 77), some (.int l1), some (.int l2), some (.int l3), u4], [.int ((8 * (h1.2.1 79 (ix l2))) + l3), .ref 80, .int 1, .int l1, .ref 77])) rfl ?_
    refine Ex.iald rfl (Or.inl rfl) (sg_80 hs) H.1 ?_
    replace H := H.2
    refine Ex.cal (rest := []) (j := m_X7_lays) (as := [.ref 77, .int l1, .int 1, .int (h1.2.1 80 (ix ((8 * (h1.2.1 79 (ix l2))) + l3)))]) (vst (a := 118) (b := 4) (c := 6) (rest := []) (vs := [.int l1, .int 1, .int (h1.2.1 80 (ix ((8 * (h1.2.1 79 (ix l2))) + l3)))]) rfl ⟨Nat.le_of_ble_eq_true rfl, Nat.le_of_ble_eq_true rfl⟩ rfl rfl (sg_77 hs)) (H.imp ?_)
    intro rv h2 H
    obtain ⟨rfl, H⟩ := H
    obtain ⟨hs, H⟩ := H
    show Ex d [] tb_X7_exponent (77, [some (.ref 77), some (.int l1), some (.int l2), some (.int l3), u4], []) h2 _
    exact Ex.vret rfl H
def b_X7_cuts_17 (d : Nat) (r_0 : Nat) (l1 : Int32) (l2 : Int32) (l3 : Int64) (l5 : Int64) (l7 : Int32) (l8 : Int32) (l9 : Int32) (l10 : Int32) (h : XH) (K : XK) (E : XE) : Prop := Ex d [] tb_X7_cuts (17, [some (.ref r_0), some (.int l1), some (.int l2), some (.long l3), none, some (.long l5), none, some (.int l7), some (.int l8), some (.int l9), some (.int l10)], []) h (Po K E)
def b_X7_cuts_52 (d : Nat) (r_0 : Nat) (l1 : Int32) (l2 : Int32) (l3 : Int64) (l5 : Int64) (l7 : Int32) (l8 : Int32) (u9 : Option Value) (l10 : Int32) (h : XH) (K : XK) (E : XE) : Prop := Ex d [] tb_X7_cuts (52, [some (.ref r_0), some (.int l1), some (.int l2), some (.long l3), none, some (.long l5), none, some (.int l7), some (.int l8), u9, some (.int l10)], []) h (Po K E)
def b_X7_cuts_53 (d : Nat) (r_0 : Nat) (l1 : Int32) (l2 : Int32) (l3 : Int64) (l5 : Int64) (l7 : Int32) (l8 : Int32) (u9 : Option Value) (l10 : Int32) (s0 : Int32) (h : XH) (K : XK) (E : XE) : Prop := Ex d [] tb_X7_cuts (53, [some (.ref r_0), some (.int l1), some (.int l2), some (.long l3), none, some (.long l5), none, some (.int l7), some (.int l8), u9, some (.int l10)], [.int s0]) h (Po K E)
def b_X7_cuts_73 (d : Nat) (r_0 : Nat) (l1 : Int32) (l2 : Int32) (u3 : Option Value) (u4 : Option Value) (l5 : Int64) (u7 : Option Value) (l8 : Int32) (l9 : Int32) (l10 : Int32) (h : XH) (K : XK) (E : XE) : Prop := Ex d [] tb_X7_cuts (73, [some (.ref r_0), some (.int l1), some (.int l2), u3, u4, some (.long l5), none, u7, some (.int l8), some (.int l9), some (.int l10)], []) h (Po K E)
def b_X7_cuts_85 (d : Nat) (r_0 : Nat) (l1 : Int32) (l2 : Int32) (u3 : Option Value) (u4 : Option Value) (l5 : Int64) (u7 : Option Value) (l8 : Int32) (l9 : Int32) (l10 : Int32) (s0 : Int64) (h : XH) (K : XK) (E : XE) : Prop := Ex d [] tb_X7_cuts (85, [some (.ref r_0), some (.int l1), some (.int l2), u3, u4, some (.long l5), none, u7, some (.int l8), some (.int l9), some (.int l10)], [.long s0]) h (Po K E)
def b_X7_cuts_89 (d : Nat) (r_0 : Nat) (l1 : Int32) (l2 : Int32) (l3 : Int64) (l5 : Int64) (l7 : Int32) (l8 : Int32) (l9 : Int32) (l10 : Int32) (h : XH) (K : XK) (E : XE) : Prop := Ex d [] tb_X7_cuts (89, [some (.ref r_0), some (.int l1), some (.int l2), some (.long l3), none, some (.long l5), none, some (.int l7), some (.int l8), some (.int l9), some (.int l10)], []) h (Po K E)
def b_X7_cuts_117 (d : Nat) (r_0 : Nat) (l1 : Int32) (l2 : Int32) (l3 : Int64) (l5 : Int64) (l7 : Int32) (l8 : Int32) (u9 : Option Value) (l10 : Int32) (h : XH) (K : XK) (E : XE) : Prop := Ex d [] tb_X7_cuts (117, [some (.ref r_0), some (.int l1), some (.int l2), some (.long l3), none, some (.long l5), none, some (.int l7), some (.int l8), u9, some (.int l10)], []) h (Po K E)
def b_X7_cuts_118 (d : Nat) (r_0 : Nat) (l1 : Int32) (l2 : Int32) (l3 : Int64) (l5 : Int64) (l7 : Int32) (l8 : Int32) (u9 : Option Value) (l10 : Int32) (s0 : Int32) (h : XH) (K : XK) (E : XE) : Prop := Ex d [] tb_X7_cuts (118, [some (.ref r_0), some (.int l1), some (.int l2), some (.long l3), none, some (.long l5), none, some (.int l7), some (.int l8), u9, some (.int l10)], [.int s0]) h (Po K E)
def b_X7_cuts_139 (d : Nat) (r_0 : Nat) (l1 : Int32) (l2 : Int32) (l3 : Int64) (u5 : Option Value) (u6 : Option Value) (l7 : Int32) (u8 : Option Value) (l9 : Int32) (l10 : Int32) (h : XH) (K : XK) (E : XE) : Prop := Ex d [] tb_X7_cuts (139, [some (.ref r_0), some (.int l1), some (.int l2), some (.long l3), none, u5, u6, some (.int l7), u8, some (.int l9), some (.int l10)], []) h (Po K E)
def b_X7_cuts_152 (d : Nat) (r_0 : Nat) (l1 : Int32) (l2 : Int32) (l3 : Int64) (u5 : Option Value) (u6 : Option Value) (l7 : Int32) (u8 : Option Value) (l9 : Int32) (l10 : Int32) (s0 : Int64) (h : XH) (K : XK) (E : XE) : Prop := Ex d [] tb_X7_cuts (152, [some (.ref r_0), some (.int l1), some (.int l2), some (.long l3), none, u5, u6, some (.int l7), u8, some (.int l9), some (.int l10)], [.long s0]) h (Po K E)
def b_X7_cuts_157 (d : Nat) (r_0 : Nat) (l1 : Int32) (l2 : Int32) (l3 : Int64) (l5 : Int64) (l7 : Int32) (l8 : Int32) (l9 : Int32) (l10 : Int32) (h : XH) (K : XK) (E : XE) : Prop := Ex d [] tb_X7_cuts (157, [some (.ref r_0), some (.int l1), some (.int l2), some (.long l3), none, some (.long l5), none, some (.int l7), some (.int l8), some (.int l9), some (.int l10)], []) h (Po K E)
def b_X7_cuts_185 (d : Nat) (r_0 : Nat) (u1 : Option Value) (u2 : Option Value) (l3 : Int64) (l5 : Int64) (l7 : Int32) (l8 : Int32) (u9 : Option Value) (u10 : Option Value) (h : XH) (K : XK) (E : XE) : Prop := Ex d [] tb_X7_cuts (185, [some (.ref r_0), u1, u2, some (.long l3), none, some (.long l5), none, some (.int l7), some (.int l8), u9, u10], []) h (Po K E)
theorem w_X7_cuts {d : Nat} {h : XH} {y : Nat → Nat} {K : XK} {E : XE} {a : Int32} {b : Int32} (hd : 20 ≤ d) (hs : Sg h.1 y) (H : b_X7_cuts_17 d 77 a b 0 0 0 0 1 0 h K E) : Ca (d + 1) m_X7_cuts [.ref 77, .int a, .int b] h K E := by
  refine Ca.of ⟨by show 3 ≤ 11; omega, rfl⟩ ?_
  show Ex d [] tb_X7_cuts (0, [some (.ref 77), some (.int a), some (.int b), none, none, none, none, none, none, none, none], []) h _
  refine Ex.pure 12 (fr2 := (17, [some (.ref 77), some (.int a), some (.int b), some (.long 0), none, some (.long 0), none, some (.int 0), some (.int 0), some (.int 1), some (.int 0)], [])) rfl ?_
  exact H
theorem w_X7_cuts_17 {d : Nat} {h : XH} {y : Nat → Nat} {K : XK} {E : XE} {l1 : Int32} {l2 : Int32} {l3 : Int64} {l5 : Int64} {l7 : Int32} {l8 : Int32} {l9 : Int32} {l10 : Int32} (hd : 20 ≤ d) (hs : Sg h.1 y) (H : (16 ≤ l10 → (l9 = 0 → K (some (.int 0)) h) ∧ (¬ (l9 = 0) → (l7 = 0 → b_X7_cuts_185 d 77 (some (.int l1)) (some (.int l2)) l3 l5 l7 l8 (some (.int l9)) (some (.int l10)) h K E) ∧ (¬ (l7 = 0) → (l8 = 0 → b_X7_cuts_185 d 77 (some (.int l1)) (some (.int l2)) l3 l5 l7 l8 (some (.int l9)) (some (.int l10)) h K E) ∧ (¬ (l8 = 0) → (l5 ≤ l3 → K (some (.int 0)) h) ∧ (¬ (l5 ≤ l3) → b_X7_cuts_185 d 77 (some (.int l1)) (some (.int l2)) l3 l5 l7 l8 (some (.int l9)) (some (.int l10)) h K E))))) ∧ (¬ (16 ≤ l10) → (((l1 >>> (l10 &&& 31)) &&& 1 = 1) → (l9 = 0 → b_X7_cuts_52 d 77 l1 l2 l3 l5 l7 l8 (some (.int l9)) l10 h K E) ∧ (¬ (l9 = 0) → (Ca d m_X7_isKind [.ref 77, .int l10, .int 2] h (fun rv h2 => ∃ x3, rv = some (.int x3) ∧ Sg h2.1 y ∧ (x3 = 0 → b_X7_cuts_52 d 77 l1 l2 l3 l5 l7 l8 (some (.int l9)) l10 h2 K E) ∧ (¬ (x3 = 0) → b_X7_cuts_53 d 77 l1 l2 l3 l5 l7 l8 (some (.int l9)) l10 1 h2 K E)) E))) ∧ (¬ ((l1 >>> (l10 &&& 31)) &&& 1 = 1) → b_X7_cuts_89 d 77 l1 l2 l3 l5 l7 l8 l9 l10 h K E))) : b_X7_cuts_17 d 77 l1 l2 l3 l5 l7 l8 l9 l10 h K E := by
  show Ex d [] tb_X7_cuts (17, [some (.ref 77), some (.int l1), some (.int l2), some (.long l3), none, some (.long l5), none, some (.int l7), some (.int l8), some (.int l9), some (.int l10)], []) h _
  refine Ex.pure 2 (fr2 := (21, [some (.ref 77), some (.int l1), some (.int l2), some (.long l3), none, some (.long l5), none, some (.int l7), some (.int l8), some (.int l9), some (.int l10)], [.int 16, .int l10])) rfl ?_
  refine Ex.br (x := (163, [some (.ref 77), some (.int l1), some (.int l2), some (.long l3), none, some (.long l5), none, some (.int l7), some (.int l8), some (.int l9), some (.int l10)], [])) (y := (24, [some (.ref 77), some (.int l1), some (.int l2), some (.long l3), none, some (.long l5), none, some (.int l7), some (.int l8), some (.int l9), some (.int l10)], [])) (b := 16 ≤ l10) rfl (fun hb => ?_) (fun hb => ?_)
  · replace H := H.1 (hb)
    refine Ex.pure 1 (fr2 := (165, [some (.ref 77), some (.int l1), some (.int l2), some (.long l3), none, some (.long l5), none, some (.int l7), some (.int l8), some (.int l9), some (.int l10)], [.int l9])) rfl ?_
    refine Ex.br (x := (203, [some (.ref 77), some (.int l1), some (.int l2), some (.long l3), none, some (.long l5), none, some (.int l7), some (.int l8), some (.int l9), some (.int l10)], [])) (y := (168, [some (.ref 77), some (.int l1), some (.int l2), some (.long l3), none, some (.long l5), none, some (.int l7), some (.int l8), some (.int l9), some (.int l10)], [])) (b := l9 = 0) rfl (fun hb => ?_) (fun hb => ?_)
    · replace H := H.1 (hb)
      refine Ex.pure 1 (fr2 := (204, [some (.ref 77), some (.int l1), some (.int l2), some (.long l3), none, some (.long l5), none, some (.int l7), some (.int l8), some (.int l9), some (.int l10)], [.int 0])) rfl ?_
      exact Ex.iret rfl (Or.inr ⟨rfl, by decide⟩) H
    · replace H := H.2 (hb)
      refine Ex.pure 1 (fr2 := (170, [some (.ref 77), some (.int l1), some (.int l2), some (.long l3), none, some (.long l5), none, some (.int l7), some (.int l8), some (.int l9), some (.int l10)], [.int l7])) rfl ?_
      refine Ex.br (x := (185, [some (.ref 77), some (.int l1), some (.int l2), some (.long l3), none, some (.long l5), none, some (.int l7), some (.int l8), some (.int l9), some (.int l10)], [])) (y := (173, [some (.ref 77), some (.int l1), some (.int l2), some (.long l3), none, some (.long l5), none, some (.int l7), some (.int l8), some (.int l9), some (.int l10)], [])) (b := l7 = 0) rfl (fun hb => ?_) (fun hb => ?_)
      · replace H := H.1 (hb)
        exact H
      · replace H := H.2 (hb)
        refine Ex.pure 1 (fr2 := (175, [some (.ref 77), some (.int l1), some (.int l2), some (.long l3), none, some (.long l5), none, some (.int l7), some (.int l8), some (.int l9), some (.int l10)], [.int l8])) rfl ?_
        refine Ex.br (x := (185, [some (.ref 77), some (.int l1), some (.int l2), some (.long l3), none, some (.long l5), none, some (.int l7), some (.int l8), some (.int l9), some (.int l10)], [])) (y := (178, [some (.ref 77), some (.int l1), some (.int l2), some (.long l3), none, some (.long l5), none, some (.int l7), some (.int l8), some (.int l9), some (.int l10)], [])) (b := l8 = 0) rfl (fun hb => ?_) (fun hb => ?_)
        · replace H := H.1 (hb)
          exact H
        · replace H := H.2 (hb)
          refine Ex.pure 3 (fr2 := (182, [some (.ref 77), some (.int l1), some (.int l2), some (.long l3), none, some (.long l5), none, some (.int l7), some (.int l8), some (.int l9), some (.int l10)], [.int (lg_cmp l3 l5)])) rfl ?_
          refine Ex.br (x := (203, [some (.ref 77), some (.int l1), some (.int l2), some (.long l3), none, some (.long l5), none, some (.int l7), some (.int l8), some (.int l9), some (.int l10)], [])) (y := (185, [some (.ref 77), some (.int l1), some (.int l2), some (.long l3), none, some (.long l5), none, some (.int l7), some (.int l8), some (.int l9), some (.int l10)], [])) (b := 0 ≤ (lg_cmp l3 l5)) rfl (fun hb => ?_) (fun hb => ?_)
          · replace H := H.1 ((lg_cmp_ge _ _).mp hb)
            refine Ex.pure 1 (fr2 := (204, [some (.ref 77), some (.int l1), some (.int l2), some (.long l3), none, some (.long l5), none, some (.int l7), some (.int l8), some (.int l9), some (.int l10)], [.int 0])) rfl ?_
            exact Ex.iret rfl (Or.inr ⟨rfl, by decide⟩) H
          · replace H := H.2 (fun z => hb ((lg_cmp_ge _ _).mpr z))
            exact H
  · replace H := H.2 (hb)
    refine Ex.pure 2 (fr2 := (27, [some (.ref 77), some (.int l1), some (.int l2), some (.long l3), none, some (.long l5), none, some (.int l7), some (.int l8), some (.int l9), some (.int l10)], [.int l10, .int l1])) rfl ?_
    refine Ex.ask (rest := []) (j := m_X7_hasPlace) (as := [.int l1, .int l10]) (fun c => rfl) ((t_X7_hasPlace hs).mono (by omega) (fun _ _ z => z)) ?_
    rintro _ h0 ⟨rfl, e0⟩
    rw [e0]
    show Ex d [] tb_X7_cuts (30, [some (.ref 77), some (.int l1), some (.int l2), some (.long l3), none, some (.long l5), none, some (.int l7), some (.int l8), some (.int l9), some (.int l10)], [.int (bi ((l1 >>> (l10 &&& 31)) &&& 1 = 1))]) h _
    refine Ex.br (x := (89, [some (.ref 77), some (.int l1), some (.int l2), some (.long l3), none, some (.long l5), none, some (.int l7), some (.int l8), some (.int l9), some (.int l10)], [])) (y := (33, [some (.ref 77), some (.int l1), some (.int l2), some (.long l3), none, some (.long l5), none, some (.int l7), some (.int l8), some (.int l9), some (.int l10)], [])) (b := (bi ((l1 >>> (l10 &&& 31)) &&& 1 = 1)) = 0) rfl (fun hb => ?_) (fun hb => ?_)
    · replace H := H.2 (bi_eq.mp hb)
      exact H
    · replace H := H.1 (bi_neq.mp hb)
      refine Ex.pure 1 (fr2 := (35, [some (.ref 77), some (.int l1), some (.int l2), some (.long l3), none, some (.long l5), none, some (.int l7), some (.int l8), some (.int l9), some (.int l10)], [.int l9])) rfl ?_
      refine Ex.br (x := (52, [some (.ref 77), some (.int l1), some (.int l2), some (.long l3), none, some (.long l5), none, some (.int l7), some (.int l8), some (.int l9), some (.int l10)], [])) (y := (38, [some (.ref 77), some (.int l1), some (.int l2), some (.long l3), none, some (.long l5), none, some (.int l7), some (.int l8), some (.int l9), some (.int l10)], [])) (b := l9 = 0) rfl (fun hb => ?_) (fun hb => ?_)
      · replace H := H.1 (hb)
        exact H
      · replace H := H.2 (hb)
        refine Ex.pure 3 (fr2 := (42, [some (.ref 77), some (.int l1), some (.int l2), some (.long l3), none, some (.long l5), none, some (.int l7), some (.int l8), some (.int l9), some (.int l10)], [.int 2, .int l10, .ref 77])) rfl ?_
        refine Ex.cal (rest := []) (j := m_X7_isKind) (as := [.ref 77, .int l10, .int 2]) (vst (a := 153) (b := 3) (c := 6) (rest := []) (vs := [.int l10, .int 2]) rfl ⟨Nat.le_of_ble_eq_true rfl, Nat.le_of_ble_eq_true rfl⟩ rfl rfl (sg_77 hs)) (H.imp ?_)
        intro rv h2 H
        obtain ⟨x3, rfl, H⟩ := H
        obtain ⟨hs, H⟩ := H
        show Ex d [] tb_X7_cuts (45, [some (.ref 77), some (.int l1), some (.int l2), some (.long l3), none, some (.long l5), none, some (.int l7), some (.int l8), some (.int l9), some (.int l10)], [.int x3]) h2 _
        refine Ex.br (x := (52, [some (.ref 77), some (.int l1), some (.int l2), some (.long l3), none, some (.long l5), none, some (.int l7), some (.int l8), some (.int l9), some (.int l10)], [])) (y := (48, [some (.ref 77), some (.int l1), some (.int l2), some (.long l3), none, some (.long l5), none, some (.int l7), some (.int l8), some (.int l9), some (.int l10)], [])) (b := x3 = 0) rfl (fun hb => ?_) (fun hb => ?_)
        · replace H := H.1 (hb)
          exact H
        · replace H := H.2 (hb)
          refine Ex.pure 2 (fr2 := (53, [some (.ref 77), some (.int l1), some (.int l2), some (.long l3), none, some (.long l5), none, some (.int l7), some (.int l8), some (.int l9), some (.int l10)], [.int 1])) rfl ?_
          exact H
theorem w_X7_cuts_52 {d : Nat} {h : XH} {y : Nat → Nat} {K : XK} {E : XE} {l1 : Int32} {l2 : Int32} {l3 : Int64} {l5 : Int64} {l7 : Int32} {l8 : Int32} {u9 : Option Value} {l10 : Int32} (hd : 20 ≤ d) (hs : Sg h.1 y) (H : b_X7_cuts_53 d 77 l1 l2 l3 l5 l7 l8 (u9) l10 0 h K E) : b_X7_cuts_52 d 77 l1 l2 l3 l5 l7 l8 u9 l10 h K E := by
  show Ex d [] tb_X7_cuts (52, [some (.ref 77), some (.int l1), some (.int l2), some (.long l3), none, some (.long l5), none, some (.int l7), some (.int l8), u9, some (.int l10)], []) h _
  refine Ex.pure 1 (fr2 := (53, [some (.ref 77), some (.int l1), some (.int l2), some (.long l3), none, some (.long l5), none, some (.int l7), some (.int l8), u9, some (.int l10)], [.int 0])) rfl ?_
  exact H
theorem w_X7_cuts_53 {d : Nat} {h : XH} {y : Nat → Nat} {K : XK} {E : XE} {l1 : Int32} {l2 : Int32} {l3 : Int64} {l5 : Int64} {l7 : Int32} {l8 : Int32} {u9 : Option Value} {l10 : Int32} {s0 : Int32} (hd : 20 ≤ d) (hs : Sg h.1 y) (H : (l7 = 0 → b_X7_cuts_73 d 77 l1 l2 (some (.long l3)) none l5 (some (.int l7)) l8 s0 l10 h K E) ∧ (¬ (l7 = 0) → (Ix l10 16 ∧ ((((h.2.1 79 (ix l10)) : Int32).toInt64) ≤ l3 → b_X7_cuts_85 d 77 l1 l2 (some (.long l3)) none l5 (some (.int l7)) l8 s0 l10 l3 h K E) ∧ (¬ ((((h.2.1 79 (ix l10)) : Int32).toInt64) ≤ l3) → b_X7_cuts_73 d 77 l1 l2 (some (.long l3)) none l5 (some (.int l7)) l8 s0 l10 h K E)))) : b_X7_cuts_53 d 77 l1 l2 l3 l5 l7 l8 u9 l10 s0 h K E := by
  show Ex d [] tb_X7_cuts (53, [some (.ref 77), some (.int l1), some (.int l2), some (.long l3), none, some (.long l5), none, some (.int l7), some (.int l8), u9, some (.int l10)], [.int s0]) h _
  refine Ex.pure 2 (fr2 := (57, [some (.ref 77), some (.int l1), some (.int l2), some (.long l3), none, some (.long l5), none, some (.int l7), some (.int l8), some (.int s0), some (.int l10)], [.int l7])) rfl ?_
  refine Ex.br (x := (73, [some (.ref 77), some (.int l1), some (.int l2), some (.long l3), none, some (.long l5), none, some (.int l7), some (.int l8), some (.int s0), some (.int l10)], [])) (y := (60, [some (.ref 77), some (.int l1), some (.int l2), some (.long l3), none, some (.long l5), none, some (.int l7), some (.int l8), some (.int s0), some (.int l10)], [])) (b := l7 = 0) rfl (fun hb => ?_) (fun hb => ?_)
  · replace H := H.1 (hb)
    exact H
  · replace H := H.2 (hb)
    refine Ex.pure 1 (fr2 := (61, [some (.ref 77), some (.int l1), some (.int l2), some (.long l3), none, some (.long l5), none, some (.int l7), some (.int l8), some (.int s0), some (.int l10)], [.ref 77])) rfl ?_
    refine Ex.getQ rfl (sg_77 hs) rfl ?_
    refine Ex.pure 1 (fr2 := (66, [some (.ref 77), some (.int l1), some (.int l2), some (.long l3), none, some (.long l5), none, some (.int l7), some (.int l8), some (.int s0), some (.int l10)], [.int l10, .ref 79])) rfl ?_
    refine Ex.iald rfl (Or.inl rfl) (sg_79 hs) H.1 ?_
    replace H := H.2
    refine Ex.pure 3 (fr2 := (70, [some (.ref 77), some (.int l1), some (.int l2), some (.long l3), none, some (.long l5), none, some (.int l7), some (.int l8), some (.int s0), some (.int l10)], [.int (lg_cmp (((h.2.1 79 (ix l10)) : Int32).toInt64) l3)])) rfl ?_
    refine Ex.br (x := (84, [some (.ref 77), some (.int l1), some (.int l2), some (.long l3), none, some (.long l5), none, some (.int l7), some (.int l8), some (.int s0), some (.int l10)], [])) (y := (73, [some (.ref 77), some (.int l1), some (.int l2), some (.long l3), none, some (.long l5), none, some (.int l7), some (.int l8), some (.int s0), some (.int l10)], [])) (b := (lg_cmp (((h.2.1 79 (ix l10)) : Int32).toInt64) l3) ≤ 0) rfl (fun hb => ?_) (fun hb => ?_)
    · replace H := H.1 ((lg_cmp_le _ _).mp hb)
      refine Ex.pure 1 (fr2 := (85, [some (.ref 77), some (.int l1), some (.int l2), some (.long l3), none, some (.long l5), none, some (.int l7), some (.int l8), some (.int s0), some (.int l10)], [.long l3])) rfl ?_
      exact H
    · replace H := H.2 (fun z => hb ((lg_cmp_le _ _).mpr z))
      exact H
theorem w_X7_cuts_73 {d : Nat} {h : XH} {y : Nat → Nat} {K : XK} {E : XE} {l1 : Int32} {l2 : Int32} {u3 : Option Value} {u4 : Option Value} {l5 : Int64} {u7 : Option Value} {l8 : Int32} {l9 : Int32} {l10 : Int32} (hd : 20 ≤ d) (hs : Sg h.1 y) (H : (Ix l10 16 ∧ b_X7_cuts_85 d 77 l1 l2 (u3) (u4) l5 (u7) l8 l9 l10 (((h.2.1 79 (ix l10)) : Int32).toInt64) h K E)) : b_X7_cuts_73 d 77 l1 l2 u3 u4 l5 u7 l8 l9 l10 h K E := by
  show Ex d [] tb_X7_cuts (73, [some (.ref 77), some (.int l1), some (.int l2), u3, u4, some (.long l5), none, u7, some (.int l8), some (.int l9), some (.int l10)], []) h _
  refine Ex.pure 1 (fr2 := (74, [some (.ref 77), some (.int l1), some (.int l2), u3, u4, some (.long l5), none, u7, some (.int l8), some (.int l9), some (.int l10)], [.ref 77])) rfl ?_
  refine Ex.getQ rfl (sg_77 hs) rfl ?_
  refine Ex.pure 1 (fr2 := (79, [some (.ref 77), some (.int l1), some (.int l2), u3, u4, some (.long l5), none, u7, some (.int l8), some (.int l9), some (.int l10)], [.int l10, .ref 79])) rfl ?_
  refine Ex.iald rfl (Or.inl rfl) (sg_79 hs) H.1 ?_
  replace H := H.2
  refine Ex.pure 2 (fr2 := (85, [some (.ref 77), some (.int l1), some (.int l2), u3, u4, some (.long l5), none, u7, some (.int l8), some (.int l9), some (.int l10)], [.long (((h.2.1 79 (ix l10)) : Int32).toInt64)])) rfl ?_
  exact H
theorem w_X7_cuts_85 {d : Nat} {h : XH} {y : Nat → Nat} {K : XK} {E : XE} {l1 : Int32} {l2 : Int32} {u3 : Option Value} {u4 : Option Value} {l5 : Int64} {u7 : Option Value} {l8 : Int32} {l9 : Int32} {l10 : Int32} {s0 : Int64} (hd : 20 ≤ d) (hs : Sg h.1 y) (H : b_X7_cuts_89 d 77 l1 l2 s0 l5 1 l8 l9 l10 h K E) : b_X7_cuts_85 d 77 l1 l2 u3 u4 l5 u7 l8 l9 l10 s0 h K E := by
  show Ex d [] tb_X7_cuts (85, [some (.ref 77), some (.int l1), some (.int l2), u3, u4, some (.long l5), none, u7, some (.int l8), some (.int l9), some (.int l10)], [.long s0]) h _
  refine Ex.pure 3 (fr2 := (89, [some (.ref 77), some (.int l1), some (.int l2), some (.long s0), none, some (.long l5), none, some (.int 1), some (.int l8), some (.int l9), some (.int l10)], [])) rfl ?_
  exact H
theorem w_X7_cuts_89 {d : Nat} {h : XH} {y : Nat → Nat} {K : XK} {E : XE} {l1 : Int32} {l2 : Int32} {l3 : Int64} {l5 : Int64} {l7 : Int32} {l8 : Int32} {l9 : Int32} {l10 : Int32} (hd : 20 ≤ d) (hs : Sg h.1 y) (H : (((l2 >>> (l10 &&& 31)) &&& 1 = 1) → (l9 = 0 → b_X7_cuts_117 d 77 l1 l2 l3 l5 l7 l8 (some (.int l9)) l10 h K E) ∧ (¬ (l9 = 0) → (Ca d m_X7_isKind [.ref 77, .int l10, .int 2] h (fun rv h2 => ∃ x3, rv = some (.int x3) ∧ Sg h2.1 y ∧ (x3 = 0 → b_X7_cuts_117 d 77 l1 l2 l3 l5 l7 l8 (some (.int l9)) l10 h2 K E) ∧ (¬ (x3 = 0) → b_X7_cuts_118 d 77 l1 l2 l3 l5 l7 l8 (some (.int l9)) l10 1 h2 K E)) E))) ∧ (¬ ((l2 >>> (l10 &&& 31)) &&& 1 = 1) → b_X7_cuts_157 d 77 l1 l2 l3 l5 l7 l8 l9 l10 h K E)) : b_X7_cuts_89 d 77 l1 l2 l3 l5 l7 l8 l9 l10 h K E := by
  show Ex d [] tb_X7_cuts (89, [some (.ref 77), some (.int l1), some (.int l2), some (.long l3), none, some (.long l5), none, some (.int l7), some (.int l8), some (.int l9), some (.int l10)], []) h _
  refine Ex.pure 2 (fr2 := (92, [some (.ref 77), some (.int l1), some (.int l2), some (.long l3), none, some (.long l5), none, some (.int l7), some (.int l8), some (.int l9), some (.int l10)], [.int l10, .int l2])) rfl ?_
  refine Ex.ask (rest := []) (j := m_X7_hasPlace) (as := [.int l2, .int l10]) (fun c => rfl) ((t_X7_hasPlace hs).mono (by omega) (fun _ _ z => z)) ?_
  rintro _ h0 ⟨rfl, e0⟩
  rw [e0]
  show Ex d [] tb_X7_cuts (95, [some (.ref 77), some (.int l1), some (.int l2), some (.long l3), none, some (.long l5), none, some (.int l7), some (.int l8), some (.int l9), some (.int l10)], [.int (bi ((l2 >>> (l10 &&& 31)) &&& 1 = 1))]) h _
  refine Ex.br (x := (157, [some (.ref 77), some (.int l1), some (.int l2), some (.long l3), none, some (.long l5), none, some (.int l7), some (.int l8), some (.int l9), some (.int l10)], [])) (y := (98, [some (.ref 77), some (.int l1), some (.int l2), some (.long l3), none, some (.long l5), none, some (.int l7), some (.int l8), some (.int l9), some (.int l10)], [])) (b := (bi ((l2 >>> (l10 &&& 31)) &&& 1 = 1)) = 0) rfl (fun hb => ?_) (fun hb => ?_)
  · replace H := H.2 (bi_eq.mp hb)
    exact H
  · replace H := H.1 (bi_neq.mp hb)
    refine Ex.pure 1 (fr2 := (100, [some (.ref 77), some (.int l1), some (.int l2), some (.long l3), none, some (.long l5), none, some (.int l7), some (.int l8), some (.int l9), some (.int l10)], [.int l9])) rfl ?_
    refine Ex.br (x := (117, [some (.ref 77), some (.int l1), some (.int l2), some (.long l3), none, some (.long l5), none, some (.int l7), some (.int l8), some (.int l9), some (.int l10)], [])) (y := (103, [some (.ref 77), some (.int l1), some (.int l2), some (.long l3), none, some (.long l5), none, some (.int l7), some (.int l8), some (.int l9), some (.int l10)], [])) (b := l9 = 0) rfl (fun hb => ?_) (fun hb => ?_)
    · replace H := H.1 (hb)
      exact H
    · replace H := H.2 (hb)
      refine Ex.pure 3 (fr2 := (107, [some (.ref 77), some (.int l1), some (.int l2), some (.long l3), none, some (.long l5), none, some (.int l7), some (.int l8), some (.int l9), some (.int l10)], [.int 2, .int l10, .ref 77])) rfl ?_
      refine Ex.cal (rest := []) (j := m_X7_isKind) (as := [.ref 77, .int l10, .int 2]) (vst (a := 153) (b := 3) (c := 6) (rest := []) (vs := [.int l10, .int 2]) rfl ⟨Nat.le_of_ble_eq_true rfl, Nat.le_of_ble_eq_true rfl⟩ rfl rfl (sg_77 hs)) (H.imp ?_)
      intro rv h2 H
      obtain ⟨x3, rfl, H⟩ := H
      obtain ⟨hs, H⟩ := H
      show Ex d [] tb_X7_cuts (110, [some (.ref 77), some (.int l1), some (.int l2), some (.long l3), none, some (.long l5), none, some (.int l7), some (.int l8), some (.int l9), some (.int l10)], [.int x3]) h2 _
      refine Ex.br (x := (117, [some (.ref 77), some (.int l1), some (.int l2), some (.long l3), none, some (.long l5), none, some (.int l7), some (.int l8), some (.int l9), some (.int l10)], [])) (y := (113, [some (.ref 77), some (.int l1), some (.int l2), some (.long l3), none, some (.long l5), none, some (.int l7), some (.int l8), some (.int l9), some (.int l10)], [])) (b := x3 = 0) rfl (fun hb => ?_) (fun hb => ?_)
      · replace H := H.1 (hb)
        exact H
      · replace H := H.2 (hb)
        refine Ex.pure 2 (fr2 := (118, [some (.ref 77), some (.int l1), some (.int l2), some (.long l3), none, some (.long l5), none, some (.int l7), some (.int l8), some (.int l9), some (.int l10)], [.int 1])) rfl ?_
        exact H
theorem w_X7_cuts_117 {d : Nat} {h : XH} {y : Nat → Nat} {K : XK} {E : XE} {l1 : Int32} {l2 : Int32} {l3 : Int64} {l5 : Int64} {l7 : Int32} {l8 : Int32} {u9 : Option Value} {l10 : Int32} (hd : 20 ≤ d) (hs : Sg h.1 y) (H : b_X7_cuts_118 d 77 l1 l2 l3 l5 l7 l8 (u9) l10 0 h K E) : b_X7_cuts_117 d 77 l1 l2 l3 l5 l7 l8 u9 l10 h K E := by
  show Ex d [] tb_X7_cuts (117, [some (.ref 77), some (.int l1), some (.int l2), some (.long l3), none, some (.long l5), none, some (.int l7), some (.int l8), u9, some (.int l10)], []) h _
  refine Ex.pure 1 (fr2 := (118, [some (.ref 77), some (.int l1), some (.int l2), some (.long l3), none, some (.long l5), none, some (.int l7), some (.int l8), u9, some (.int l10)], [.int 0])) rfl ?_
  exact H
theorem w_X7_cuts_118 {d : Nat} {h : XH} {y : Nat → Nat} {K : XK} {E : XE} {l1 : Int32} {l2 : Int32} {l3 : Int64} {l5 : Int64} {l7 : Int32} {l8 : Int32} {u9 : Option Value} {l10 : Int32} {s0 : Int32} (hd : 20 ≤ d) (hs : Sg h.1 y) (H : (l8 = 0 → b_X7_cuts_139 d 77 l1 l2 l3 (some (.long l5)) none l7 (some (.int l8)) s0 l10 h K E) ∧ (¬ (l8 = 0) → (Ix l10 16 ∧ (l5 ≤ (((h.2.1 79 (ix l10)) : Int32).toInt64) → b_X7_cuts_152 d 77 l1 l2 l3 (some (.long l5)) none l7 (some (.int l8)) s0 l10 l5 h K E) ∧ (¬ (l5 ≤ (((h.2.1 79 (ix l10)) : Int32).toInt64)) → b_X7_cuts_139 d 77 l1 l2 l3 (some (.long l5)) none l7 (some (.int l8)) s0 l10 h K E)))) : b_X7_cuts_118 d 77 l1 l2 l3 l5 l7 l8 u9 l10 s0 h K E := by
  show Ex d [] tb_X7_cuts (118, [some (.ref 77), some (.int l1), some (.int l2), some (.long l3), none, some (.long l5), none, some (.int l7), some (.int l8), u9, some (.int l10)], [.int s0]) h _
  refine Ex.pure 2 (fr2 := (122, [some (.ref 77), some (.int l1), some (.int l2), some (.long l3), none, some (.long l5), none, some (.int l7), some (.int l8), some (.int s0), some (.int l10)], [.int l8])) rfl ?_
  refine Ex.br (x := (139, [some (.ref 77), some (.int l1), some (.int l2), some (.long l3), none, some (.long l5), none, some (.int l7), some (.int l8), some (.int s0), some (.int l10)], [])) (y := (125, [some (.ref 77), some (.int l1), some (.int l2), some (.long l3), none, some (.long l5), none, some (.int l7), some (.int l8), some (.int s0), some (.int l10)], [])) (b := l8 = 0) rfl (fun hb => ?_) (fun hb => ?_)
  · replace H := H.1 (hb)
    exact H
  · replace H := H.2 (hb)
    refine Ex.pure 1 (fr2 := (126, [some (.ref 77), some (.int l1), some (.int l2), some (.long l3), none, some (.long l5), none, some (.int l7), some (.int l8), some (.int s0), some (.int l10)], [.ref 77])) rfl ?_
    refine Ex.getQ rfl (sg_77 hs) rfl ?_
    refine Ex.pure 1 (fr2 := (131, [some (.ref 77), some (.int l1), some (.int l2), some (.long l3), none, some (.long l5), none, some (.int l7), some (.int l8), some (.int s0), some (.int l10)], [.int l10, .ref 79])) rfl ?_
    refine Ex.iald rfl (Or.inl rfl) (sg_79 hs) H.1 ?_
    replace H := H.2
    refine Ex.pure 3 (fr2 := (136, [some (.ref 77), some (.int l1), some (.int l2), some (.long l3), none, some (.long l5), none, some (.int l7), some (.int l8), some (.int s0), some (.int l10)], [.int (lg_cmp (((h.2.1 79 (ix l10)) : Int32).toInt64) l5)])) rfl ?_
    refine Ex.br (x := (150, [some (.ref 77), some (.int l1), some (.int l2), some (.long l3), none, some (.long l5), none, some (.int l7), some (.int l8), some (.int s0), some (.int l10)], [])) (y := (139, [some (.ref 77), some (.int l1), some (.int l2), some (.long l3), none, some (.long l5), none, some (.int l7), some (.int l8), some (.int s0), some (.int l10)], [])) (b := 0 ≤ (lg_cmp (((h.2.1 79 (ix l10)) : Int32).toInt64) l5)) rfl (fun hb => ?_) (fun hb => ?_)
    · replace H := H.1 ((lg_cmp_ge _ _).mp hb)
      refine Ex.pure 1 (fr2 := (152, [some (.ref 77), some (.int l1), some (.int l2), some (.long l3), none, some (.long l5), none, some (.int l7), some (.int l8), some (.int s0), some (.int l10)], [.long l5])) rfl ?_
      exact H
    · replace H := H.2 (fun z => hb ((lg_cmp_ge _ _).mpr z))
      exact H
theorem w_X7_cuts_139 {d : Nat} {h : XH} {y : Nat → Nat} {K : XK} {E : XE} {l1 : Int32} {l2 : Int32} {l3 : Int64} {u5 : Option Value} {u6 : Option Value} {l7 : Int32} {u8 : Option Value} {l9 : Int32} {l10 : Int32} (hd : 20 ≤ d) (hs : Sg h.1 y) (H : (Ix l10 16 ∧ b_X7_cuts_152 d 77 l1 l2 l3 (u5) (u6) l7 (u8) l9 l10 (((h.2.1 79 (ix l10)) : Int32).toInt64) h K E)) : b_X7_cuts_139 d 77 l1 l2 l3 u5 u6 l7 u8 l9 l10 h K E := by
  show Ex d [] tb_X7_cuts (139, [some (.ref 77), some (.int l1), some (.int l2), some (.long l3), none, u5, u6, some (.int l7), u8, some (.int l9), some (.int l10)], []) h _
  refine Ex.pure 1 (fr2 := (140, [some (.ref 77), some (.int l1), some (.int l2), some (.long l3), none, u5, u6, some (.int l7), u8, some (.int l9), some (.int l10)], [.ref 77])) rfl ?_
  refine Ex.getQ rfl (sg_77 hs) rfl ?_
  refine Ex.pure 1 (fr2 := (145, [some (.ref 77), some (.int l1), some (.int l2), some (.long l3), none, u5, u6, some (.int l7), u8, some (.int l9), some (.int l10)], [.int l10, .ref 79])) rfl ?_
  refine Ex.iald rfl (Or.inl rfl) (sg_79 hs) H.1 ?_
  replace H := H.2
  refine Ex.pure 2 (fr2 := (152, [some (.ref 77), some (.int l1), some (.int l2), some (.long l3), none, u5, u6, some (.int l7), u8, some (.int l9), some (.int l10)], [.long (((h.2.1 79 (ix l10)) : Int32).toInt64)])) rfl ?_
  exact H
theorem w_X7_cuts_152 {d : Nat} {h : XH} {y : Nat → Nat} {K : XK} {E : XE} {l1 : Int32} {l2 : Int32} {l3 : Int64} {u5 : Option Value} {u6 : Option Value} {l7 : Int32} {u8 : Option Value} {l9 : Int32} {l10 : Int32} {s0 : Int64} (hd : 20 ≤ d) (hs : Sg h.1 y) (H : b_X7_cuts_157 d 77 l1 l2 l3 s0 l7 1 l9 l10 h K E) : b_X7_cuts_152 d 77 l1 l2 l3 u5 u6 l7 u8 l9 l10 s0 h K E := by
  show Ex d [] tb_X7_cuts (152, [some (.ref 77), some (.int l1), some (.int l2), some (.long l3), none, u5, u6, some (.int l7), u8, some (.int l9), some (.int l10)], [.long s0]) h _
  refine Ex.pure 3 (fr2 := (157, [some (.ref 77), some (.int l1), some (.int l2), some (.long l3), none, some (.long s0), none, some (.int l7), some (.int 1), some (.int l9), some (.int l10)], [])) rfl ?_
  exact H
theorem w_X7_cuts_157 {d : Nat} {h : XH} {y : Nat → Nat} {K : XK} {E : XE} {l1 : Int32} {l2 : Int32} {l3 : Int64} {l5 : Int64} {l7 : Int32} {l8 : Int32} {l9 : Int32} {l10 : Int32} (hd : 20 ≤ d) (hs : Sg h.1 y) (H : b_X7_cuts_17 d 77 l1 l2 l3 l5 l7 l8 l9 (l10 + 1) h K E) : b_X7_cuts_157 d 77 l1 l2 l3 l5 l7 l8 l9 l10 h K E := by
  show Ex d [] tb_X7_cuts (157, [some (.ref 77), some (.int l1), some (.int l2), some (.long l3), none, some (.long l5), none, some (.int l7), some (.int l8), some (.int l9), some (.int l10)], []) h _
  refine Ex.pure 2 (fr2 := (17, [some (.ref 77), some (.int l1), some (.int l2), some (.long l3), none, some (.long l5), none, some (.int l7), some (.int l8), some (.int l9), some (.int (l10 + 1))], [])) rfl ?_
  exact H
theorem w_X7_cuts_185 {d : Nat} {h : XH} {y : Nat → Nat} {K : XK} {E : XE} {u1 : Option Value} {u2 : Option Value} {l3 : Int64} {l5 : Int64} {l7 : Int32} {l8 : Int32} {u9 : Option Value} {u10 : Option Value} (hd : 20 ≤ d) (hs : Sg h.1 y) (H : (Ca d m_X7_finds [.ref 77, .int l7, .long l3, .int l8, .long l5] h (fun rv h1 => ∃ x2, rv = some (.int x2) ∧ Sg h1.1 y ∧ (x2 = 0 → K (some (.int 0)) h1) ∧ (¬ (x2 = 0) → K (some (.int 1)) h1)) E)) : b_X7_cuts_185 d 77 u1 u2 l3 l5 l7 l8 u9 u10 h K E := by
  show Ex d [] tb_X7_cuts (185, [some (.ref 77), u1, u2, some (.long l3), none, some (.long l5), none, some (.int l7), some (.int l8), u9, u10], []) h _
  refine Ex.pure 5 (fr2 := (193, [some (.ref 77), u1, u2, some (.long l3), none, some (.long l5), none, some (.int l7), some (.int l8), u9, u10], [.long l5, .int l8, .long l3, .int l7, .ref 77])) rfl ?_
  refine Ex.cal (rest := []) (j := m_X7_finds) (as := [.ref 77, .int l7, .long l3, .int l8, .long l5]) (vst (a := 146) (b := 5) (c := 6) (rest := []) (vs := [.int l7, .long l3, .int l8, .long l5]) rfl ⟨Nat.le_of_ble_eq_true rfl, Nat.le_of_ble_eq_true rfl⟩ rfl rfl (sg_77 hs)) (H.imp ?_)
  intro rv h1 H
  obtain ⟨x2, rfl, H⟩ := H
  obtain ⟨hs, H⟩ := H
  show Ex d [] tb_X7_cuts (196, [some (.ref 77), u1, u2, some (.long l3), none, some (.long l5), none, some (.int l7), some (.int l8), u9, u10], [.int x2]) h1 _
  refine Ex.br (x := (203, [some (.ref 77), u1, u2, some (.long l3), none, some (.long l5), none, some (.int l7), some (.int l8), u9, u10], [])) (y := (199, [some (.ref 77), u1, u2, some (.long l3), none, some (.long l5), none, some (.int l7), some (.int l8), u9, u10], [])) (b := x2 = 0) rfl (fun hb => ?_) (fun hb => ?_)
  · replace H := H.1 (hb)
    refine Ex.pure 1 (fr2 := (204, [some (.ref 77), u1, u2, some (.long l3), none, some (.long l5), none, some (.int l7), some (.int l8), u9, u10], [.int 0])) rfl ?_
    exact Ex.iret rfl (Or.inr ⟨rfl, by decide⟩) H
  · replace H := H.2 (hb)
    refine Ex.pure 2 (fr2 := (204, [some (.ref 77), u1, u2, some (.long l3), none, some (.long l5), none, some (.int l7), some (.int l8), u9, u10], [.int 1])) rfl ?_
    exact Ex.iret rfl (Or.inr ⟨rfl, by decide⟩) H
def b_X7_cut_34 (d : Nat) (r_0 : Nat) (l1 : Int32) (l2 : Int32) (l3 : Int32) (l4 : Int32) (u5 : Option Value) (h : XH) (K : XK) (E : XE) : Prop := Ex d [] tb_X7_cut (34, [some (.ref r_0), some (.int l1), some (.int l2), some (.int l3), some (.int l4), u5], []) h (Po K E)
def b_X7_cut_35 (d : Nat) (r_0 : Nat) (l1 : Int32) (l2 : Int32) (l3 : Int32) (l4 : Int32) (u5 : Option Value) (s0 : Int32) (h : XH) (K : XK) (E : XE) : Prop := Ex d [] tb_X7_cut (35, [some (.ref r_0), some (.int l1), some (.int l2), some (.int l3), some (.int l4), u5], [.int s0]) h (Po K E)
def b_X7_cut_70 (d : Nat) (r_0 : Nat) (l1 : Int32) (u2 : Option Value) (u3 : Option Value) (u4 : Option Value) (u5 : Option Value) (s0 : Int32) (r_7 : Nat) (h : XH) (K : XK) (E : XE) : Prop := Ex d [] tb_X7_cut (70, [some (.ref r_0), some (.int l1), u2, u3, u4, u5], [.int s0, .ref r_7]) h (Po K E)
theorem w_X7_cut {d : Nat} {h : XH} {y : Nat → Nat} {K : XK} {E : XE} {a : Int32} {b : Int32} {c : Int32} (hd : 20 ≤ d) (hs : Sg h.1 y) (H : ((0 ≤ ((b : Int32).toInt64) ∧ ((b : Int32).toInt64) ≤ 65535) → ((0 ≤ ((c : Int32).toInt64) ∧ ((c : Int32).toInt64) ≤ 65535) → b_X7_cut_35 d 77 a b c (bi (isp a)) none 1 h K E) ∧ (¬ (0 ≤ ((c : Int32).toInt64) ∧ ((c : Int32).toInt64) ≤ 65535) → b_X7_cut_34 d 77 a b c (bi (isp a)) none h K E)) ∧ (¬ (0 ≤ ((b : Int32).toInt64) ∧ ((b : Int32).toInt64) ≤ 65535) → b_X7_cut_34 d 77 a b c (bi (isp a)) none h K E)) : Ca (d + 1) m_X7_cut [.ref 77, .int a, .int b, .int c] h K E := by
  refine Ca.of ⟨by show 4 ≤ 6; omega, rfl⟩ ?_
  show Ex d [] tb_X7_cut (0, [some (.ref 77), some (.int a), some (.int b), some (.int c), none, none], []) h _
  refine Ex.pure 1 (fr2 := (1, [some (.ref 77), some (.int a), some (.int b), some (.int c), none, none], [.int a])) rfl ?_
  refine Ex.ask (rest := []) (j := m_X7_isPlace) (as := [.int a]) (fun c => rfl) ((t_X7_isPlace hs).mono (by omega) (fun _ _ z => z)) ?_
  rintro _ h0 ⟨rfl, e0⟩
  rw [e0]
  show Ex d [] tb_X7_cut (4, [some (.ref 77), some (.int a), some (.int b), some (.int c), none, none], [.int (bi (isp a))]) h _
  refine Ex.pure 5 (fr2 := (12, [some (.ref 77), some (.int a), some (.int b), some (.int c), some (.int (bi (isp a))), none], [.long 65535, .long 0, .long ((b : Int32).toInt64)])) rfl ?_
  refine Ex.ask (rest := []) (j := m_X7_isIn) (as := [.long ((b : Int32).toInt64), .long 0, .long 65535]) (fun c => rfl) ((t_X7_isIn hs).mono (by omega) (fun _ _ z => z)) ?_
  rintro _ h0 ⟨rfl, e0⟩
  rw [e0]
  show Ex d [] tb_X7_cut (15, [some (.ref 77), some (.int a), some (.int b), some (.int c), some (.int (bi (isp a))), none], [.int (bi (0 ≤ ((b : Int32).toInt64) ∧ ((b : Int32).toInt64) ≤ 65535))]) h _
  refine Ex.br (x := (34, [some (.ref 77), some (.int a), some (.int b), some (.int c), some (.int (bi (isp a))), none], [])) (y := (18, [some (.ref 77), some (.int a), some (.int b), some (.int c), some (.int (bi (isp a))), none], [])) (b := (bi (0 ≤ ((b : Int32).toInt64) ∧ ((b : Int32).toInt64) ≤ 65535)) = 0) rfl (fun hb => ?_) (fun hb => ?_)
  · replace H := H.2 (bi_eq.mp hb)
    exact H
  · replace H := H.1 (bi_neq.mp hb)
    refine Ex.pure 4 (fr2 := (24, [some (.ref 77), some (.int a), some (.int b), some (.int c), some (.int (bi (isp a))), none], [.long 65535, .long 0, .long ((c : Int32).toInt64)])) rfl ?_
    refine Ex.ask (rest := []) (j := m_X7_isIn) (as := [.long ((c : Int32).toInt64), .long 0, .long 65535]) (fun c => rfl) ((t_X7_isIn hs).mono (by omega) (fun _ _ z => z)) ?_
    rintro _ h0 ⟨rfl, e0⟩
    rw [e0]
    show Ex d [] tb_X7_cut (27, [some (.ref 77), some (.int a), some (.int b), some (.int c), some (.int (bi (isp a))), none], [.int (bi (0 ≤ ((c : Int32).toInt64) ∧ ((c : Int32).toInt64) ≤ 65535))]) h _
    refine Ex.br (x := (34, [some (.ref 77), some (.int a), some (.int b), some (.int c), some (.int (bi (isp a))), none], [])) (y := (30, [some (.ref 77), some (.int a), some (.int b), some (.int c), some (.int (bi (isp a))), none], [])) (b := (bi (0 ≤ ((c : Int32).toInt64) ∧ ((c : Int32).toInt64) ≤ 65535)) = 0) rfl (fun hb => ?_) (fun hb => ?_)
    · replace H := H.2 (bi_eq.mp hb)
      exact H
    · replace H := H.1 (bi_neq.mp hb)
      refine Ex.pure 2 (fr2 := (35, [some (.ref 77), some (.int a), some (.int b), some (.int c), some (.int (bi (isp a))), none], [.int 1])) rfl ?_
      exact H
theorem w_X7_cut_34 {d : Nat} {h : XH} {y : Nat → Nat} {K : XK} {E : XE} {l1 : Int32} {l2 : Int32} {l3 : Int32} {l4 : Int32} {u5 : Option Value} (hd : 20 ≤ d) (hs : Sg h.1 y) (H : b_X7_cut_35 d 77 l1 l2 l3 l4 (u5) 0 h K E) : b_X7_cut_34 d 77 l1 l2 l3 l4 u5 h K E := by
  show Ex d [] tb_X7_cut (34, [some (.ref 77), some (.int l1), some (.int l2), some (.int l3), some (.int l4), u5], []) h _
  refine Ex.pure 1 (fr2 := (35, [some (.ref 77), some (.int l1), some (.int l2), some (.int l3), some (.int l4), u5], [.int 0])) rfl ?_
  exact H
theorem w_X7_cut_35 {d : Nat} {h : XH} {y : Nat → Nat} {K : XK} {E : XE} {l1 : Int32} {l2 : Int32} {l3 : Int32} {l4 : Int32} {u5 : Option Value} {s0 : Int32} (hd : 20 ≤ d) (hs : Sg h.1 y) (H : (¬ l4 = 0 → (¬ s0 = 0 → (Ca d m_X7_cuts [.ref 77, .int l2, .int l3] h (fun rv h1 => ∃ x2, rv = some (.int x2) ∧ Sg h1.1 y ∧ (¬ x2 = 0 → b_X7_cut_70 d 77 l1 (some (.int l2)) (some (.int l3)) (some (.int l4)) (some (.int s0)) 0 77 h1 K E) ∧ (¬ (¬ x2 = 0) → b_X7_cut_70 d 77 l1 (some (.int l2)) (some (.int l3)) (some (.int l4)) (some (.int s0)) 3 77 h1 K E)) E)) ∧ (¬ (¬ s0 = 0) → b_X7_cut_70 d 77 l1 (some (.int l2)) (some (.int l3)) (some (.int l4)) (some (.int s0)) 2 77 h K E)) ∧ (¬ (¬ l4 = 0) → b_X7_cut_70 d 77 l1 (some (.int l2)) (some (.int l3)) (some (.int l4)) (some (.int s0)) 1 77 h K E)) : b_X7_cut_35 d 77 l1 l2 l3 l4 u5 s0 h K E := by
  show Ex d [] tb_X7_cut (35, [some (.ref 77), some (.int l1), some (.int l2), some (.int l3), some (.int l4), u5], [.int s0]) h _
  refine Ex.pure 3 (fr2 := (40, [some (.ref 77), some (.int l1), some (.int l2), some (.int l3), some (.int l4), some (.int s0)], [.int l4, .ref 77])) rfl ?_
  refine Ex.br (x := (47, [some (.ref 77), some (.int l1), some (.int l2), some (.int l3), some (.int l4), some (.int s0)], [.ref 77])) (y := (43, [some (.ref 77), some (.int l1), some (.int l2), some (.int l3), some (.int l4), some (.int s0)], [.ref 77])) (b := ¬ l4 = 0) rfl (fun hb => ?_) (fun hb => ?_)
  · replace H := H.1 (hb)
    refine Ex.pure 1 (fr2 := (49, [some (.ref 77), some (.int l1), some (.int l2), some (.int l3), some (.int l4), some (.int s0)], [.int s0, .ref 77])) rfl ?_
    refine Ex.br (x := (56, [some (.ref 77), some (.int l1), some (.int l2), some (.int l3), some (.int l4), some (.int s0)], [.ref 77])) (y := (52, [some (.ref 77), some (.int l1), some (.int l2), some (.int l3), some (.int l4), some (.int s0)], [.ref 77])) (b := ¬ s0 = 0) rfl (fun hb => ?_) (fun hb => ?_)
    · replace H := H.1 (hb)
      refine Ex.pure 3 (fr2 := (59, [some (.ref 77), some (.int l1), some (.int l2), some (.int l3), some (.int l4), some (.int s0)], [.int l3, .int l2, .ref 77, .ref 77])) rfl ?_
      refine Ex.cal (rest := [.ref 77]) (j := m_X7_cuts) (as := [.ref 77, .int l2, .int l3]) (vst (a := 184) (b := 3) (c := 6) (rest := [.ref 77]) (vs := [.int l2, .int l3]) rfl ⟨Nat.le_of_ble_eq_true rfl, Nat.le_of_ble_eq_true rfl⟩ rfl rfl (sg_77 hs)) (H.imp ?_)
      intro rv h1 H
      obtain ⟨x2, rfl, H⟩ := H
      obtain ⟨hs, H⟩ := H
      show Ex d [] tb_X7_cut (62, [some (.ref 77), some (.int l1), some (.int l2), some (.int l3), some (.int l4), some (.int s0)], [.int x2, .ref 77]) h1 _
      refine Ex.br (x := (69, [some (.ref 77), some (.int l1), some (.int l2), some (.int l3), some (.int l4), some (.int s0)], [.ref 77])) (y := (65, [some (.ref 77), some (.int l1), some (.int l2), some (.int l3), some (.int l4), some (.int s0)], [.ref 77])) (b := ¬ x2 = 0) rfl (fun hb => ?_) (fun hb => ?_)
      · replace H := H.1 (hb)
        refine Ex.pure 1 (fr2 := (70, [some (.ref 77), some (.int l1), some (.int l2), some (.int l3), some (.int l4), some (.int s0)], [.int 0, .ref 77])) rfl ?_
        exact H
      · replace H := H.2 (hb)
        refine Ex.pure 2 (fr2 := (70, [some (.ref 77), some (.int l1), some (.int l2), some (.int l3), some (.int l4), some (.int s0)], [.int 3, .ref 77])) rfl ?_
        exact H
    · replace H := H.2 (hb)
      refine Ex.pure 2 (fr2 := (70, [some (.ref 77), some (.int l1), some (.int l2), some (.int l3), some (.int l4), some (.int s0)], [.int 2, .ref 77])) rfl ?_
      exact H
  · replace H := H.2 (hb)
    refine Ex.pure 2 (fr2 := (70, [some (.ref 77), some (.int l1), some (.int l2), some (.int l3), some (.int l4), some (.int s0)], [.int 1, .ref 77])) rfl ?_
    exact H
theorem w_X7_cut_70 {d : Nat} {h : XH} {y : Nat → Nat} {K : XK} {E : XE} {l1 : Int32} {u2 : Option Value} {u3 : Option Value} {u4 : Option Value} {u5 : Option Value} {s0 : Int32} (hd : 20 ≤ d) (hs : Sg h.1 y) (H : (∀ h1 : XH, h1 = (x_setI h 77 0 s0) → ((s0 = 0) → (Ca d m_X7_lays [.ref 77, .int l1, .int 2, .int (((h1.2.2.1 77 25) : Int64).toInt32)] h1 (fun rv h2 => rv = none ∧ Sg h2.1 y ∧ K (some (.int (h2.2.1 77 26))) h2) E)) ∧ (¬ (s0 = 0) → K (some (.int 0)) h1))) : b_X7_cut_70 d 77 l1 u2 u3 u4 u5 s0 77 h K E := by
  show Ex d [] tb_X7_cut (70, [some (.ref 77), some (.int l1), u2, u3, u4, u5], [.int s0, .ref 77]) h _
  refine Ex.ask (rest := []) (j := m_X7_holds) (as := [.ref 77, .int s0]) (vst (a := 114) (b := 2) (c := 6) (rest := []) (vs := [.int s0]) rfl ⟨Nat.le_of_ble_eq_true rfl, Nat.le_of_ble_eq_true rfl⟩ rfl rfl (sg_77 hs)) ((t_X7_holds hs).mono (by omega) (fun _ _ z => z)) ?_
  rintro _ h1 ⟨rfl, e1⟩
  replace H := H h1 e1
  replace hs : Sg h1.1 y := by rw [e1]; exact hs
  show Ex d [] tb_X7_cut (73, [some (.ref 77), some (.int l1), u2, u3, u4, u5], [.int (bi (s0 = 0))]) h1 _
  refine Ex.br (x := (78, [some (.ref 77), some (.int l1), u2, u3, u4, u5], [])) (y := (76, [some (.ref 77), some (.int l1), u2, u3, u4, u5], [])) (b := ¬ (bi (s0 = 0)) = 0) rfl (fun hb => ?_) (fun hb => ?_)
  · replace H := H.1 (bi_ne.mp hb)
    refine Ex.pure 4 (fr2 := (82, [some (.ref 77), some (.int l1), u2, u3, u4, u5], [.ref 77, .int 2, .int l1, .ref 77])) rfl ?_
    refine Ex.getJ rfl (sg_77 hs) ?_
    refine Ex.pure 1 (fr2 := (86, [some (.ref 77), some (.int l1), u2, u3, u4, u5], [.int (((h1.2.2.1 77 25) : Int64).toInt32), .int 2, .int l1, .ref 77])) rfl ?_
    refine Ex.cal (rest := []) (j := m_X7_lays) (as := [.ref 77, .int l1, .int 2, .int (((h1.2.2.1 77 25) : Int64).toInt32)]) (vst (a := 118) (b := 4) (c := 6) (rest := []) (vs := [.int l1, .int 2, .int (((h1.2.2.1 77 25) : Int64).toInt32)]) rfl ⟨Nat.le_of_ble_eq_true rfl, Nat.le_of_ble_eq_true rfl⟩ rfl rfl (sg_77 hs)) (H.imp ?_)
    intro rv h2 H
    obtain ⟨rfl, H⟩ := H
    obtain ⟨hs, H⟩ := H
    show Ex d [] tb_X7_cut (89, [some (.ref 77), some (.int l1), u2, u3, u4, u5], []) h2 _
    refine Ex.pure 1 (fr2 := (90, [some (.ref 77), some (.int l1), u2, u3, u4, u5], [.ref 77])) rfl ?_
    refine Ex.getI rfl (Or.inl rfl) (sg_77 hs) ?_
    exact Ex.iret rfl (Or.inl rfl) H
  · replace H := H.2 (bi_nne.mp hb)
    refine Ex.pure 1 (fr2 := (77, [some (.ref 77), some (.int l1), u2, u3, u4, u5], [.int 0])) rfl ?_
    exact Ex.iret rfl (Or.inl rfl) H
theorem w_X7_birthdayOf {d : Nat} {h : XH} {y : Nat → Nat} {K : XK} {E : XE} {a : Int32} (hd : 20 ≤ d) (hs : Sg h.1 y) (H : (Ix a 16 ∧ (Ca d m_X7_goesTo [.ref 77, .long (((h.2.1 79 (ix a)) : Int32).toInt64), .int 1000] h (fun rv h1 => ∃ x2, rv = some (.int x2) ∧ Sg h1.1 y ∧ K (some (.int (h1.2.1 77 26))) h1) E))) : Ca (d + 1) m_X7_birthdayOf [.ref 77, .int a] h K E := by
  refine Ca.of ⟨by show 2 ≤ 3; omega, rfl⟩ ?_
  show Ex d [] tb_X7_birthdayOf (0, [some (.ref 77), some (.int a), none], []) h _
  refine Ex.pure 2 (fr2 := (2, [some (.ref 77), some (.int a), none], [.ref 77, .ref 77])) rfl ?_
  refine Ex.getQ rfl (sg_77 hs) rfl ?_
  refine Ex.pure 1 (fr2 := (6, [some (.ref 77), some (.int a), none], [.int a, .ref 79, .ref 77])) rfl ?_
  refine Ex.iald rfl (Or.inl rfl) (sg_79 hs) H.1 ?_
  replace H := H.2
  refine Ex.pure 2 (fr2 := (11, [some (.ref 77), some (.int a), none], [.int 1000, .long (((h.2.1 79 (ix a)) : Int32).toInt64), .ref 77])) rfl ?_
  refine Ex.cal (rest := []) (j := m_X7_goesTo) (as := [.ref 77, .long (((h.2.1 79 (ix a)) : Int32).toInt64), .int 1000]) (vst (a := 145) (b := 3) (c := 6) (rest := []) (vs := [.long (((h.2.1 79 (ix a)) : Int32).toInt64), .int 1000]) rfl ⟨Nat.le_of_ble_eq_true rfl, Nat.le_of_ble_eq_true rfl⟩ rfl rfl (sg_77 hs)) (H.imp ?_)
  intro rv h1 H
  obtain ⟨x2, rfl, H⟩ := H
  obtain ⟨hs, H⟩ := H
  show Ex d [] tb_X7_birthdayOf (14, [some (.ref 77), some (.int a), none], [.int x2]) h1 _
  refine Ex.pure 2 (fr2 := (16, [some (.ref 77), some (.int a), some (.int x2)], [.ref 77])) rfl ?_
  refine Ex.getI rfl (Or.inl rfl) (sg_77 hs) ?_
  exact Ex.iret rfl (Or.inl rfl) H
def b_X7_birthday_28 (d : Nat) (r_0 : Nat) (l1 : Int32) (u2 : Option Value) (s0 : Int32) (r_4 : Nat) (h : XH) (K : XK) (E : XE) : Prop := Ex d [] tb_X7_birthday (28, [some (.ref r_0), some (.int l1), u2], [.int s0, .ref r_4]) h (Po K E)
theorem w_X7_birthday {d : Nat} {h : XH} {y : Nat → Nat} {K : XK} {E : XE} {a : Int32} (hd : 20 ≤ d) (hs : Sg h.1 y) (H : ((isp a) → (Ca d m_X7_isKind [.ref 77, .int a, .int 2] h (fun rv h2 => ∃ x3, rv = some (.int x3) ∧ Sg h2.1 y ∧ (¬ x3 = 0 → b_X7_birthday_28 d 77 a (some (.int (bi (isp a)))) 0 77 h2 K E) ∧ (¬ (¬ x3 = 0) → b_X7_birthday_28 d 77 a (some (.int (bi (isp a)))) 2 77 h2 K E)) E)) ∧ (¬ (isp a) → b_X7_birthday_28 d 77 a (some (.int (bi (isp a)))) 1 77 h K E)) : Ca (d + 1) m_X7_birthday [.ref 77, .int a] h K E := by
  refine Ca.of ⟨by show 2 ≤ 3; omega, rfl⟩ ?_
  show Ex d [] tb_X7_birthday (0, [some (.ref 77), some (.int a), none], []) h _
  refine Ex.pure 1 (fr2 := (1, [some (.ref 77), some (.int a), none], [.int a])) rfl ?_
  refine Ex.ask (rest := []) (j := m_X7_isPlace) (as := [.int a]) (fun c => rfl) ((t_X7_isPlace hs).mono (by omega) (fun _ _ z => z)) ?_
  rintro _ h0 ⟨rfl, e0⟩
  rw [e0]
  show Ex d [] tb_X7_birthday (4, [some (.ref 77), some (.int a), none], [.int (bi (isp a))]) h _
  refine Ex.pure 3 (fr2 := (7, [some (.ref 77), some (.int a), some (.int (bi (isp a)))], [.int (bi (isp a)), .ref 77])) rfl ?_
  refine Ex.br (x := (14, [some (.ref 77), some (.int a), some (.int (bi (isp a)))], [.ref 77])) (y := (10, [some (.ref 77), some (.int a), some (.int (bi (isp a)))], [.ref 77])) (b := ¬ (bi (isp a)) = 0) rfl (fun hb => ?_) (fun hb => ?_)
  · replace H := H.1 (bi_ne.mp hb)
    refine Ex.pure 3 (fr2 := (17, [some (.ref 77), some (.int a), some (.int (bi (isp a)))], [.int 2, .int a, .ref 77, .ref 77])) rfl ?_
    refine Ex.cal (rest := [.ref 77]) (j := m_X7_isKind) (as := [.ref 77, .int a, .int 2]) (vst (a := 153) (b := 3) (c := 6) (rest := [.ref 77]) (vs := [.int a, .int 2]) rfl ⟨Nat.le_of_ble_eq_true rfl, Nat.le_of_ble_eq_true rfl⟩ rfl rfl (sg_77 hs)) (H.imp ?_)
    intro rv h2 H
    obtain ⟨x3, rfl, H⟩ := H
    obtain ⟨hs, H⟩ := H
    show Ex d [] tb_X7_birthday (20, [some (.ref 77), some (.int a), some (.int (bi (isp a)))], [.int x3, .ref 77]) h2 _
    refine Ex.br (x := (27, [some (.ref 77), some (.int a), some (.int (bi (isp a)))], [.ref 77])) (y := (23, [some (.ref 77), some (.int a), some (.int (bi (isp a)))], [.ref 77])) (b := ¬ x3 = 0) rfl (fun hb => ?_) (fun hb => ?_)
    · replace H := H.1 (hb)
      refine Ex.pure 1 (fr2 := (28, [some (.ref 77), some (.int a), some (.int (bi (isp a)))], [.int 0, .ref 77])) rfl ?_
      exact H
    · replace H := H.2 (hb)
      refine Ex.pure 2 (fr2 := (28, [some (.ref 77), some (.int a), some (.int (bi (isp a)))], [.int 2, .ref 77])) rfl ?_
      exact H
  · replace H := H.2 (bi_nne.mp hb)
    refine Ex.pure 2 (fr2 := (28, [some (.ref 77), some (.int a), some (.int (bi (isp a)))], [.int 1, .ref 77])) rfl ?_
    exact H
theorem w_X7_birthday_28 {d : Nat} {h : XH} {y : Nat → Nat} {K : XK} {E : XE} {l1 : Int32} {u2 : Option Value} {s0 : Int32} (hd : 20 ≤ d) (hs : Sg h.1 y) (H : (∀ h1 : XH, h1 = (x_setI h 77 0 s0) → ((s0 = 0) → (Ca d m_X7_birthdayOf [.ref 77, .int l1] h1 (fun rv h2 => ∃ x3, rv = some (.int x3) ∧ Sg h2.1 y ∧ K (some (.int x3)) h2) E)) ∧ (¬ (s0 = 0) → K (some (.int 0)) h1))) : b_X7_birthday_28 d 77 l1 u2 s0 77 h K E := by
  show Ex d [] tb_X7_birthday (28, [some (.ref 77), some (.int l1), u2], [.int s0, .ref 77]) h _
  refine Ex.ask (rest := []) (j := m_X7_holds) (as := [.ref 77, .int s0]) (vst (a := 114) (b := 2) (c := 6) (rest := []) (vs := [.int s0]) rfl ⟨Nat.le_of_ble_eq_true rfl, Nat.le_of_ble_eq_true rfl⟩ rfl rfl (sg_77 hs)) ((t_X7_holds hs).mono (by omega) (fun _ _ z => z)) ?_
  rintro _ h1 ⟨rfl, e1⟩
  replace H := H h1 e1
  replace hs : Sg h1.1 y := by rw [e1]; exact hs
  show Ex d [] tb_X7_birthday (31, [some (.ref 77), some (.int l1), u2], [.int (bi (s0 = 0))]) h1 _
  refine Ex.br (x := (42, [some (.ref 77), some (.int l1), u2], [])) (y := (34, [some (.ref 77), some (.int l1), u2], [])) (b := (bi (s0 = 0)) = 0) rfl (fun hb => ?_) (fun hb => ?_)
  · replace H := H.2 (bi_eq.mp hb)
    refine Ex.pure 1 (fr2 := (43, [some (.ref 77), some (.int l1), u2], [.int 0])) rfl ?_
    exact Ex.iret rfl (Or.inl rfl) H
  · replace H := H.1 (bi_neq.mp hb)
    refine Ex.pure 2 (fr2 := (36, [some (.ref 77), some (.int l1), u2], [.int l1, .ref 77])) rfl ?_
    refine Ex.cal (rest := []) (j := m_X7_birthdayOf) (as := [.ref 77, .int l1]) (vst (a := 186) (b := 2) (c := 6) (rest := []) (vs := [.int l1]) rfl ⟨Nat.le_of_ble_eq_true rfl, Nat.le_of_ble_eq_true rfl⟩ rfl rfl (sg_77 hs)) (H.imp ?_)
    intro rv h2 H
    obtain ⟨x3, rfl, H⟩ := H
    obtain ⟨hs, H⟩ := H
    show Ex d [] tb_X7_birthday (39, [some (.ref 77), some (.int l1), u2], [.int x3]) h2 _
    refine Ex.pure 1 (fr2 := (43, [some (.ref 77), some (.int l1), u2], [.int x3])) rfl ?_
    exact Ex.iret rfl (Or.inl rfl) H
theorem w_X7_signAt {d : Nat} {h : XH} {y : Nat → Nat} {K : XK} {E : XE} {a : Int32} {b : Int32} (hd : 20 ≤ d) (hs : Sg h.1 y) (H : (Ca d m_X7_birthdayOf [.ref 77, .int a] h (fun rv h1 => ∃ x2, rv = some (.int x2) ∧ Sg h1.1 y ∧ (x2 ≤ b → K (some (.int 0)) h1) ∧ (¬ (x2 ≤ b) → (Ix a 16 ∧ (Ca d m_X7_goesTo [.ref 77, .long (((h1.2.1 79 (ix a)) : Int32).toInt64), .int (b + 1)] h1 (fun rv h3 => ∃ x4, rv = some (.int x4) ∧ Sg h3.1 y ∧ K (some (.int x4)) h3) E)))) E)) : Ca (d + 1) m_X7_signAt [.ref 77, .int a, .int b] h K E := by
  refine Ca.of ⟨by show 3 ≤ 3; omega, rfl⟩ ?_
  show Ex d [] tb_X7_signAt (0, [some (.ref 77), some (.int a), some (.int b)], []) h _
  refine Ex.pure 3 (fr2 := (3, [some (.ref 77), some (.int a), some (.int b)], [.int a, .ref 77, .int b])) rfl ?_
  refine Ex.cal (rest := [.int b]) (j := m_X7_birthdayOf) (as := [.ref 77, .int a]) (vst (a := 186) (b := 2) (c := 6) (rest := [.int b]) (vs := [.int a]) rfl ⟨Nat.le_of_ble_eq_true rfl, Nat.le_of_ble_eq_true rfl⟩ rfl rfl (sg_77 hs)) (H.imp ?_)
  intro rv h1 H
  obtain ⟨x2, rfl, H⟩ := H
  obtain ⟨hs, H⟩ := H
  show Ex d [] tb_X7_signAt (6, [some (.ref 77), some (.int a), some (.int b)], [.int x2, .int b]) h1 _
  refine Ex.br (x := (26, [some (.ref 77), some (.int a), some (.int b)], [])) (y := (9, [some (.ref 77), some (.int a), some (.int b)], [])) (b := x2 ≤ b) rfl (fun hb => ?_) (fun hb => ?_)
  · replace H := H.1 (hb)
    refine Ex.pure 1 (fr2 := (27, [some (.ref 77), some (.int a), some (.int b)], [.int 0])) rfl ?_
    exact Ex.iret rfl (Or.inl rfl) H
  · replace H := H.2 (hb)
    refine Ex.pure 2 (fr2 := (11, [some (.ref 77), some (.int a), some (.int b)], [.ref 77, .ref 77])) rfl ?_
    refine Ex.getQ rfl (sg_77 hs) rfl ?_
    refine Ex.pure 1 (fr2 := (15, [some (.ref 77), some (.int a), some (.int b)], [.int a, .ref 79, .ref 77])) rfl ?_
    refine Ex.iald rfl (Or.inl rfl) (sg_79 hs) H.1 ?_
    replace H := H.2
    refine Ex.pure 4 (fr2 := (20, [some (.ref 77), some (.int a), some (.int b)], [.int (b + 1), .long (((h1.2.1 79 (ix a)) : Int32).toInt64), .ref 77])) rfl ?_
    refine Ex.cal (rest := []) (j := m_X7_goesTo) (as := [.ref 77, .long (((h1.2.1 79 (ix a)) : Int32).toInt64), .int (b + 1)]) (vst (a := 145) (b := 3) (c := 6) (rest := []) (vs := [.long (((h1.2.1 79 (ix a)) : Int32).toInt64), .int (b + 1)]) rfl ⟨Nat.le_of_ble_eq_true rfl, Nat.le_of_ble_eq_true rfl⟩ rfl rfl (sg_77 hs)) (H.imp ?_)
    intro rv h3 H
    obtain ⟨x4, rfl, H⟩ := H
    obtain ⟨hs, H⟩ := H
    show Ex d [] tb_X7_signAt (23, [some (.ref 77), some (.int a), some (.int b)], [.int x4]) h3 _
    refine Ex.pure 1 (fr2 := (27, [some (.ref 77), some (.int a), some (.int b)], [.int x4])) rfl ?_
    exact Ex.iret rfl (Or.inl rfl) H
def b_X7_signOf_15 (d : Nat) (r_0 : Nat) (l1 : Int32) (l2 : Int32) (u3 : Option Value) (h : XH) (K : XK) (E : XE) : Prop := Ex d [] tb_X7_signOf (15, [some (.ref r_0), some (.int l1), some (.int l2), u3], []) h (Po K E)
def b_X7_signOf_16 (d : Nat) (r_0 : Nat) (l1 : Int32) (l2 : Int32) (u3 : Option Value) (s0 : Int32) (h : XH) (K : XK) (E : XE) : Prop := Ex d [] tb_X7_signOf (16, [some (.ref r_0), some (.int l1), some (.int l2), u3], [.int s0]) h (Po K E)
def b_X7_signOf_40 (d : Nat) (r_0 : Nat) (l1 : Int32) (l2 : Int32) (u3 : Option Value) (s0 : Int32) (r_5 : Nat) (h : XH) (K : XK) (E : XE) : Prop := Ex d [] tb_X7_signOf (40, [some (.ref r_0), some (.int l1), some (.int l2), u3], [.int s0, .ref r_5]) h (Po K E)
theorem w_X7_signOf {d : Nat} {h : XH} {y : Nat → Nat} {K : XK} {E : XE} {a : Int32} {b : Int32} (hd : 20 ≤ d) (hs : Sg h.1 y) (H : ((isp a) → (b < 0 → b_X7_signOf_15 d 77 a b none h K E) ∧ (¬ (b < 0) → b_X7_signOf_16 d 77 a b none 1 h K E)) ∧ (¬ (isp a) → b_X7_signOf_15 d 77 a b none h K E)) : Ca (d + 1) m_X7_signOf [.ref 77, .int a, .int b] h K E := by
  refine Ca.of ⟨by show 3 ≤ 4; omega, rfl⟩ ?_
  show Ex d [] tb_X7_signOf (0, [some (.ref 77), some (.int a), some (.int b), none], []) h _
  refine Ex.pure 1 (fr2 := (1, [some (.ref 77), some (.int a), some (.int b), none], [.int a])) rfl ?_
  refine Ex.ask (rest := []) (j := m_X7_isPlace) (as := [.int a]) (fun c => rfl) ((t_X7_isPlace hs).mono (by omega) (fun _ _ z => z)) ?_
  rintro _ h0 ⟨rfl, e0⟩
  rw [e0]
  show Ex d [] tb_X7_signOf (4, [some (.ref 77), some (.int a), some (.int b), none], [.int (bi (isp a))]) h _
  refine Ex.br (x := (15, [some (.ref 77), some (.int a), some (.int b), none], [])) (y := (7, [some (.ref 77), some (.int a), some (.int b), none], [])) (b := (bi (isp a)) = 0) rfl (fun hb => ?_) (fun hb => ?_)
  · replace H := H.2 (bi_eq.mp hb)
    exact H
  · replace H := H.1 (bi_neq.mp hb)
    refine Ex.pure 1 (fr2 := (8, [some (.ref 77), some (.int a), some (.int b), none], [.int b])) rfl ?_
    refine Ex.br (x := (15, [some (.ref 77), some (.int a), some (.int b), none], [])) (y := (11, [some (.ref 77), some (.int a), some (.int b), none], [])) (b := b < 0) rfl (fun hb => ?_) (fun hb => ?_)
    · replace H := H.1 (hb)
      exact H
    · replace H := H.2 (hb)
      refine Ex.pure 2 (fr2 := (16, [some (.ref 77), some (.int a), some (.int b), none], [.int 1])) rfl ?_
      exact H
theorem w_X7_signOf_15 {d : Nat} {h : XH} {y : Nat → Nat} {K : XK} {E : XE} {l1 : Int32} {l2 : Int32} {u3 : Option Value} (hd : 20 ≤ d) (hs : Sg h.1 y) (H : b_X7_signOf_16 d 77 l1 l2 (u3) 0 h K E) : b_X7_signOf_15 d 77 l1 l2 u3 h K E := by
  show Ex d [] tb_X7_signOf (15, [some (.ref 77), some (.int l1), some (.int l2), u3], []) h _
  refine Ex.pure 1 (fr2 := (16, [some (.ref 77), some (.int l1), some (.int l2), u3], [.int 0])) rfl ?_
  exact H
theorem w_X7_signOf_16 {d : Nat} {h : XH} {y : Nat → Nat} {K : XK} {E : XE} {l1 : Int32} {l2 : Int32} {u3 : Option Value} {s0 : Int32} (hd : 20 ≤ d) (hs : Sg h.1 y) (H : (¬ s0 = 0 → (Ca d m_X7_isKind [.ref 77, .int l1, .int 2] h (fun rv h1 => ∃ x2, rv = some (.int x2) ∧ Sg h1.1 y ∧ (¬ x2 = 0 → b_X7_signOf_40 d 77 l1 l2 (some (.int s0)) 0 77 h1 K E) ∧ (¬ (¬ x2 = 0) → b_X7_signOf_40 d 77 l1 l2 (some (.int s0)) 2 77 h1 K E)) E)) ∧ (¬ (¬ s0 = 0) → b_X7_signOf_40 d 77 l1 l2 (some (.int s0)) 1 77 h K E)) : b_X7_signOf_16 d 77 l1 l2 u3 s0 h K E := by
  show Ex d [] tb_X7_signOf (16, [some (.ref 77), some (.int l1), some (.int l2), u3], [.int s0]) h _
  refine Ex.pure 3 (fr2 := (19, [some (.ref 77), some (.int l1), some (.int l2), some (.int s0)], [.int s0, .ref 77])) rfl ?_
  refine Ex.br (x := (26, [some (.ref 77), some (.int l1), some (.int l2), some (.int s0)], [.ref 77])) (y := (22, [some (.ref 77), some (.int l1), some (.int l2), some (.int s0)], [.ref 77])) (b := ¬ s0 = 0) rfl (fun hb => ?_) (fun hb => ?_)
  · replace H := H.1 (hb)
    refine Ex.pure 3 (fr2 := (29, [some (.ref 77), some (.int l1), some (.int l2), some (.int s0)], [.int 2, .int l1, .ref 77, .ref 77])) rfl ?_
    refine Ex.cal (rest := [.ref 77]) (j := m_X7_isKind) (as := [.ref 77, .int l1, .int 2]) (vst (a := 153) (b := 3) (c := 6) (rest := [.ref 77]) (vs := [.int l1, .int 2]) rfl ⟨Nat.le_of_ble_eq_true rfl, Nat.le_of_ble_eq_true rfl⟩ rfl rfl (sg_77 hs)) (H.imp ?_)
    intro rv h1 H
    obtain ⟨x2, rfl, H⟩ := H
    obtain ⟨hs, H⟩ := H
    show Ex d [] tb_X7_signOf (32, [some (.ref 77), some (.int l1), some (.int l2), some (.int s0)], [.int x2, .ref 77]) h1 _
    refine Ex.br (x := (39, [some (.ref 77), some (.int l1), some (.int l2), some (.int s0)], [.ref 77])) (y := (35, [some (.ref 77), some (.int l1), some (.int l2), some (.int s0)], [.ref 77])) (b := ¬ x2 = 0) rfl (fun hb => ?_) (fun hb => ?_)
    · replace H := H.1 (hb)
      refine Ex.pure 1 (fr2 := (40, [some (.ref 77), some (.int l1), some (.int l2), some (.int s0)], [.int 0, .ref 77])) rfl ?_
      exact H
    · replace H := H.2 (hb)
      refine Ex.pure 2 (fr2 := (40, [some (.ref 77), some (.int l1), some (.int l2), some (.int s0)], [.int 2, .ref 77])) rfl ?_
      exact H
  · replace H := H.2 (hb)
    refine Ex.pure 2 (fr2 := (40, [some (.ref 77), some (.int l1), some (.int l2), some (.int s0)], [.int 1, .ref 77])) rfl ?_
    exact H
theorem w_X7_signOf_40 {d : Nat} {h : XH} {y : Nat → Nat} {K : XK} {E : XE} {l1 : Int32} {l2 : Int32} {u3 : Option Value} {s0 : Int32} (hd : 20 ≤ d) (hs : Sg h.1 y) (H : (∀ h1 : XH, h1 = (x_setI h 77 0 s0) → ((s0 = 0) → (Ca d m_X7_signAt [.ref 77, .int l1, .int l2] h1 (fun rv h2 => ∃ x3, rv = some (.int x3) ∧ Sg h2.1 y ∧ K (some (.int x3)) h2) E)) ∧ (¬ (s0 = 0) → K (some (.int 0)) h1))) : b_X7_signOf_40 d 77 l1 l2 u3 s0 77 h K E := by
  show Ex d [] tb_X7_signOf (40, [some (.ref 77), some (.int l1), some (.int l2), u3], [.int s0, .ref 77]) h _
  refine Ex.ask (rest := []) (j := m_X7_holds) (as := [.ref 77, .int s0]) (vst (a := 114) (b := 2) (c := 6) (rest := []) (vs := [.int s0]) rfl ⟨Nat.le_of_ble_eq_true rfl, Nat.le_of_ble_eq_true rfl⟩ rfl rfl (sg_77 hs)) ((t_X7_holds hs).mono (by omega) (fun _ _ z => z)) ?_
  rintro _ h1 ⟨rfl, e1⟩
  replace H := H h1 e1
  replace hs : Sg h1.1 y := by rw [e1]; exact hs
  show Ex d [] tb_X7_signOf (43, [some (.ref 77), some (.int l1), some (.int l2), u3], [.int (bi (s0 = 0))]) h1 _
  refine Ex.br (x := (55, [some (.ref 77), some (.int l1), some (.int l2), u3], [])) (y := (46, [some (.ref 77), some (.int l1), some (.int l2), u3], [])) (b := (bi (s0 = 0)) = 0) rfl (fun hb => ?_) (fun hb => ?_)
  · replace H := H.2 (bi_eq.mp hb)
    refine Ex.pure 1 (fr2 := (56, [some (.ref 77), some (.int l1), some (.int l2), u3], [.int 0])) rfl ?_
    exact Ex.iret rfl (Or.inl rfl) H
  · replace H := H.1 (bi_neq.mp hb)
    refine Ex.pure 3 (fr2 := (49, [some (.ref 77), some (.int l1), some (.int l2), u3], [.int l2, .int l1, .ref 77])) rfl ?_
    refine Ex.cal (rest := []) (j := m_X7_signAt) (as := [.ref 77, .int l1, .int l2]) (vst (a := 188) (b := 3) (c := 6) (rest := []) (vs := [.int l1, .int l2]) rfl ⟨Nat.le_of_ble_eq_true rfl, Nat.le_of_ble_eq_true rfl⟩ rfl rfl (sg_77 hs)) (H.imp ?_)
    intro rv h2 H
    obtain ⟨x3, rfl, H⟩ := H
    obtain ⟨hs, H⟩ := H
    show Ex d [] tb_X7_signOf (52, [some (.ref 77), some (.int l1), some (.int l2), u3], [.int x3]) h2 _
    refine Ex.pure 1 (fr2 := (56, [some (.ref 77), some (.int l1), some (.int l2), u3], [.int x3])) rfl ?_
    exact Ex.iret rfl (Or.inl rfl) H
def b_X7_parts_28 (d : Nat) (r_0 : Nat) (l1 : Int32) (u2 : Option Value) (s0 : Int32) (r_4 : Nat) (h : XH) (K : XK) (E : XE) : Prop := Ex d [] tb_X7_parts (28, [some (.ref r_0), some (.int l1), u2], [.int s0, .ref r_4]) h (Po K E)
theorem w_X7_parts {d : Nat} {h : XH} {y : Nat → Nat} {K : XK} {E : XE} {a : Int32} (hd : 20 ≤ d) (hs : Sg h.1 y) (H : ((isp a) → (Ca d m_X7_isKind [.ref 77, .int a, .int 2] h (fun rv h2 => ∃ x3, rv = some (.int x3) ∧ Sg h2.1 y ∧ (¬ x3 = 0 → b_X7_parts_28 d 77 a (some (.int (bi (isp a)))) 0 77 h2 K E) ∧ (¬ (¬ x3 = 0) → b_X7_parts_28 d 77 a (some (.int (bi (isp a)))) 2 77 h2 K E)) E)) ∧ (¬ (isp a) → b_X7_parts_28 d 77 a (some (.int (bi (isp a)))) 1 77 h K E)) : Ca (d + 1) m_X7_parts [.ref 77, .int a] h K E := by
  refine Ca.of ⟨by show 2 ≤ 3; omega, rfl⟩ ?_
  show Ex d [] tb_X7_parts (0, [some (.ref 77), some (.int a), none], []) h _
  refine Ex.pure 1 (fr2 := (1, [some (.ref 77), some (.int a), none], [.int a])) rfl ?_
  refine Ex.ask (rest := []) (j := m_X7_isPlace) (as := [.int a]) (fun c => rfl) ((t_X7_isPlace hs).mono (by omega) (fun _ _ z => z)) ?_
  rintro _ h0 ⟨rfl, e0⟩
  rw [e0]
  show Ex d [] tb_X7_parts (4, [some (.ref 77), some (.int a), none], [.int (bi (isp a))]) h _
  refine Ex.pure 3 (fr2 := (7, [some (.ref 77), some (.int a), some (.int (bi (isp a)))], [.int (bi (isp a)), .ref 77])) rfl ?_
  refine Ex.br (x := (14, [some (.ref 77), some (.int a), some (.int (bi (isp a)))], [.ref 77])) (y := (10, [some (.ref 77), some (.int a), some (.int (bi (isp a)))], [.ref 77])) (b := ¬ (bi (isp a)) = 0) rfl (fun hb => ?_) (fun hb => ?_)
  · replace H := H.1 (bi_ne.mp hb)
    refine Ex.pure 3 (fr2 := (17, [some (.ref 77), some (.int a), some (.int (bi (isp a)))], [.int 2, .int a, .ref 77, .ref 77])) rfl ?_
    refine Ex.cal (rest := [.ref 77]) (j := m_X7_isKind) (as := [.ref 77, .int a, .int 2]) (vst (a := 153) (b := 3) (c := 6) (rest := [.ref 77]) (vs := [.int a, .int 2]) rfl ⟨Nat.le_of_ble_eq_true rfl, Nat.le_of_ble_eq_true rfl⟩ rfl rfl (sg_77 hs)) (H.imp ?_)
    intro rv h2 H
    obtain ⟨x3, rfl, H⟩ := H
    obtain ⟨hs, H⟩ := H
    show Ex d [] tb_X7_parts (20, [some (.ref 77), some (.int a), some (.int (bi (isp a)))], [.int x3, .ref 77]) h2 _
    refine Ex.br (x := (27, [some (.ref 77), some (.int a), some (.int (bi (isp a)))], [.ref 77])) (y := (23, [some (.ref 77), some (.int a), some (.int (bi (isp a)))], [.ref 77])) (b := ¬ x3 = 0) rfl (fun hb => ?_) (fun hb => ?_)
    · replace H := H.1 (hb)
      refine Ex.pure 1 (fr2 := (28, [some (.ref 77), some (.int a), some (.int (bi (isp a)))], [.int 0, .ref 77])) rfl ?_
      exact H
    · replace H := H.2 (hb)
      refine Ex.pure 2 (fr2 := (28, [some (.ref 77), some (.int a), some (.int (bi (isp a)))], [.int 2, .ref 77])) rfl ?_
      exact H
  · replace H := H.2 (bi_nne.mp hb)
    refine Ex.pure 2 (fr2 := (28, [some (.ref 77), some (.int a), some (.int (bi (isp a)))], [.int 1, .ref 77])) rfl ?_
    exact H
theorem w_X7_parts_28 {d : Nat} {h : XH} {y : Nat → Nat} {K : XK} {E : XE} {l1 : Int32} {u2 : Option Value} {s0 : Int32} (hd : 20 ≤ d) (hs : Sg h.1 y) (H : (∀ h1 : XH, h1 = (x_setI h 77 0 s0) → ((s0 = 0) → (Ix l1 16 ∧ K (some (.long (((h1.2.1 79 (ix l1)) : Int32).toInt64))) h1)) ∧ (¬ (s0 = 0) → K (some (.long 0)) h1))) : b_X7_parts_28 d 77 l1 u2 s0 77 h K E := by
  show Ex d [] tb_X7_parts (28, [some (.ref 77), some (.int l1), u2], [.int s0, .ref 77]) h _
  refine Ex.ask (rest := []) (j := m_X7_holds) (as := [.ref 77, .int s0]) (vst (a := 114) (b := 2) (c := 6) (rest := []) (vs := [.int s0]) rfl ⟨Nat.le_of_ble_eq_true rfl, Nat.le_of_ble_eq_true rfl⟩ rfl rfl (sg_77 hs)) ((t_X7_holds hs).mono (by omega) (fun _ _ z => z)) ?_
  rintro _ h1 ⟨rfl, e1⟩
  replace H := H h1 e1
  replace hs : Sg h1.1 y := by rw [e1]; exact hs
  show Ex d [] tb_X7_parts (31, [some (.ref 77), some (.int l1), u2], [.int (bi (s0 = 0))]) h1 _
  refine Ex.br (x := (44, [some (.ref 77), some (.int l1), u2], [])) (y := (34, [some (.ref 77), some (.int l1), u2], [])) (b := (bi (s0 = 0)) = 0) rfl (fun hb => ?_) (fun hb => ?_)
  · replace H := H.2 (bi_eq.mp hb)
    refine Ex.pure 1 (fr2 := (45, [some (.ref 77), some (.int l1), u2], [.long 0])) rfl ?_
    exact Ex.lret rfl H
  · replace H := H.1 (bi_neq.mp hb)
    refine Ex.pure 1 (fr2 := (35, [some (.ref 77), some (.int l1), u2], [.ref 77])) rfl ?_
    refine Ex.getQ rfl (sg_77 hs) rfl ?_
    refine Ex.pure 1 (fr2 := (39, [some (.ref 77), some (.int l1), u2], [.int l1, .ref 79])) rfl ?_
    refine Ex.iald rfl (Or.inl rfl) (sg_79 hs) H.1 ?_
    replace H := H.2
    refine Ex.pure 2 (fr2 := (45, [some (.ref 77), some (.int l1), u2], [.long (((h1.2.1 79 (ix l1)) : Int32).toInt64)])) rfl ?_
    exact Ex.lret rfl H
theorem w_X7_tendsTo {d : Nat} {h : XH} {y : Nat → Nat} {K : XK} {E : XE} {a : Int32} (hd : 20 ≤ d) (hs : Sg h.1 y) (H : (Ix a 16 ∧ ((h.2.1 79 (ix a)) = 0 → K (some (.int 0)) h) ∧ (¬ ((h.2.1 79 (ix a)) = 0) → (Ix (20 * a) 320 ∧ (lvl ≤ (h.2.2.1 90 (ix (20 * a))) → (Ix (20 * a) 320 ∧ (¬ (h.2.2.1 90 (ix (20 * a))) = lvl → (Ix (20 * a) 320 ∧ ((h.2.1 91 (ix (20 * a))) ≤ 0 → K (some (.int 3)) h) ∧ (¬ ((h.2.1 91 (ix (20 * a))) ≤ 0) → K (some (.int 2)) h))) ∧ (¬ (¬ (h.2.2.1 90 (ix (20 * a))) = lvl) → K (some (.int 1)) h))) ∧ (¬ (lvl ≤ (h.2.2.1 90 (ix (20 * a)))) → K (some (.int 0)) h))))) : Ca (d + 1) m_X7_tendsTo [.ref 77, .int a] h K E := by
  refine Ca.of ⟨by show 2 ≤ 3; omega, rfl⟩ ?_
  show Ex d [] tb_X7_tendsTo (0, [some (.ref 77), some (.int a), none], []) h _
  refine Ex.pure 5 (fr2 := (6, [some (.ref 77), some (.int a), some (.int (20 * a))], [.ref 77])) rfl ?_
  refine Ex.getQ rfl (sg_77 hs) rfl ?_
  refine Ex.pure 1 (fr2 := (10, [some (.ref 77), some (.int a), some (.int (20 * a))], [.int a, .ref 79])) rfl ?_
  refine Ex.iald rfl (Or.inl rfl) (sg_79 hs) H.1 ?_
  replace H := H.2
  refine Ex.br (x := (27, [some (.ref 77), some (.int a), some (.int (20 * a))], [])) (y := (14, [some (.ref 77), some (.int a), some (.int (20 * a))], [])) (b := (h.2.1 79 (ix a)) = 0) rfl (fun hb => ?_) (fun hb => ?_)
  · replace H := H.1 (hb)
    refine Ex.pure 1 (fr2 := (28, [some (.ref 77), some (.int a), some (.int (20 * a))], [.int 0])) rfl ?_
    exact Ex.iret rfl (Or.inl rfl) H
  · replace H := H.2 (hb)
    refine Ex.pure 1 (fr2 := (15, [some (.ref 77), some (.int a), some (.int (20 * a))], [.ref 77])) rfl ?_
    refine Ex.getQ rfl (sg_77 hs) rfl ?_
    refine Ex.pure 1 (fr2 := (19, [some (.ref 77), some (.int a), some (.int (20 * a))], [.int (20 * a), .ref 90])) rfl ?_
    refine Ex.lald rfl (sg_90 hs) H.1 ?_
    replace H := H.2
    refine Ex.ask (rest := [.long (h.2.2.1 90 (ix (20 * a)))]) (j := m_X7_level) (as := []) (fun c => rfl) ((t_X7_level hs).mono (by omega) (fun _ _ z => z)) ?_
    rintro _ h0 ⟨rfl, e0⟩
    rw [e0]
    show Ex d [] tb_X7_tendsTo (23, [some (.ref 77), some (.int a), some (.int (20 * a))], [.long lvl, .long (h.2.2.1 90 (ix (20 * a)))]) h _
    refine Ex.pure 1 (fr2 := (24, [some (.ref 77), some (.int a), some (.int (20 * a))], [.int (lg_cmp (h.2.2.1 90 (ix (20 * a))) lvl)])) rfl ?_
    refine Ex.br (x := (29, [some (.ref 77), some (.int a), some (.int (20 * a))], [])) (y := (27, [some (.ref 77), some (.int a), some (.int (20 * a))], [])) (b := 0 ≤ (lg_cmp (h.2.2.1 90 (ix (20 * a))) lvl)) rfl (fun hb => ?_) (fun hb => ?_)
    · replace H := H.1 ((lg_cmp_ge _ _).mp hb)
      refine Ex.pure 1 (fr2 := (30, [some (.ref 77), some (.int a), some (.int (20 * a))], [.ref 77])) rfl ?_
      refine Ex.getQ rfl (sg_77 hs) rfl ?_
      refine Ex.pure 1 (fr2 := (34, [some (.ref 77), some (.int a), some (.int (20 * a))], [.int (20 * a), .ref 90])) rfl ?_
      refine Ex.lald rfl (sg_90 hs) H.1 ?_
      replace H := H.2
      refine Ex.ask (rest := [.long (h.2.2.1 90 (ix (20 * a)))]) (j := m_X7_level) (as := []) (fun c => rfl) ((t_X7_level hs).mono (by omega) (fun _ _ z => z)) ?_
      rintro _ h0 ⟨rfl, e0⟩
      rw [e0]
      show Ex d [] tb_X7_tendsTo (38, [some (.ref 77), some (.int a), some (.int (20 * a))], [.long lvl, .long (h.2.2.1 90 (ix (20 * a)))]) h _
      refine Ex.pure 1 (fr2 := (39, [some (.ref 77), some (.int a), some (.int (20 * a))], [.int (lg_cmp (h.2.2.1 90 (ix (20 * a))) lvl)])) rfl ?_
      refine Ex.br (x := (46, [some (.ref 77), some (.int a), some (.int (20 * a))], [])) (y := (42, [some (.ref 77), some (.int a), some (.int (20 * a))], [])) (b := ¬ (lg_cmp (h.2.2.1 90 (ix (20 * a))) lvl) = 0) rfl (fun hb => ?_) (fun hb => ?_)
      · replace H := H.1 (fun z => hb ((lg_cmp_eq _ _).mpr z))
        refine Ex.pure 1 (fr2 := (47, [some (.ref 77), some (.int a), some (.int (20 * a))], [.ref 77])) rfl ?_
        refine Ex.getQ rfl (sg_77 hs) rfl ?_
        refine Ex.pure 1 (fr2 := (51, [some (.ref 77), some (.int a), some (.int (20 * a))], [.int (20 * a), .ref 91])) rfl ?_
        refine Ex.iald rfl (Or.inl rfl) (sg_91 hs) H.1 ?_
        replace H := H.2
        refine Ex.br (x := (59, [some (.ref 77), some (.int a), some (.int (20 * a))], [])) (y := (55, [some (.ref 77), some (.int a), some (.int (20 * a))], [])) (b := (h.2.1 91 (ix (20 * a))) ≤ 0) rfl (fun hb => ?_) (fun hb => ?_)
        · replace H := H.1 (hb)
          refine Ex.pure 1 (fr2 := (60, [some (.ref 77), some (.int a), some (.int (20 * a))], [.int 3])) rfl ?_
          exact Ex.iret rfl (Or.inl rfl) H
        · replace H := H.2 (hb)
          refine Ex.pure 2 (fr2 := (60, [some (.ref 77), some (.int a), some (.int (20 * a))], [.int 2])) rfl ?_
          exact Ex.iret rfl (Or.inl rfl) H
      · replace H := H.2 (fun z => hb (fun w => z ((lg_cmp_eq _ _).mp w)))
        refine Ex.pure 2 (fr2 := (60, [some (.ref 77), some (.int a), some (.int (20 * a))], [.int 1])) rfl ?_
        exact Ex.iret rfl (Or.inl rfl) H
    · replace H := H.2 (fun z => hb ((lg_cmp_ge _ _).mpr z))
      refine Ex.pure 1 (fr2 := (28, [some (.ref 77), some (.int a), some (.int (20 * a))], [.int 0])) rfl ?_
      exact Ex.iret rfl (Or.inl rfl) H
def b_X7_tends_28 (d : Nat) (r_0 : Nat) (l1 : Int32) (u2 : Option Value) (s0 : Int32) (r_4 : Nat) (h : XH) (K : XK) (E : XE) : Prop := Ex d [] tb_X7_tends (28, [some (.ref r_0), some (.int l1), u2], [.int s0, .ref r_4]) h (Po K E)
theorem w_X7_tends {d : Nat} {h : XH} {y : Nat → Nat} {K : XK} {E : XE} {a : Int32} (hd : 20 ≤ d) (hs : Sg h.1 y) (H : ((isp a) → (Ca d m_X7_isKind [.ref 77, .int a, .int 3] h (fun rv h2 => ∃ x3, rv = some (.int x3) ∧ Sg h2.1 y ∧ (¬ x3 = 0 → b_X7_tends_28 d 77 a (some (.int (bi (isp a)))) 0 77 h2 K E) ∧ (¬ (¬ x3 = 0) → b_X7_tends_28 d 77 a (some (.int (bi (isp a)))) 2 77 h2 K E)) E)) ∧ (¬ (isp a) → b_X7_tends_28 d 77 a (some (.int (bi (isp a)))) 1 77 h K E)) : Ca (d + 1) m_X7_tends [.ref 77, .int a] h K E := by
  refine Ca.of ⟨by show 2 ≤ 3; omega, rfl⟩ ?_
  show Ex d [] tb_X7_tends (0, [some (.ref 77), some (.int a), none], []) h _
  refine Ex.pure 1 (fr2 := (1, [some (.ref 77), some (.int a), none], [.int a])) rfl ?_
  refine Ex.ask (rest := []) (j := m_X7_isPlace) (as := [.int a]) (fun c => rfl) ((t_X7_isPlace hs).mono (by omega) (fun _ _ z => z)) ?_
  rintro _ h0 ⟨rfl, e0⟩
  rw [e0]
  show Ex d [] tb_X7_tends (4, [some (.ref 77), some (.int a), none], [.int (bi (isp a))]) h _
  refine Ex.pure 3 (fr2 := (7, [some (.ref 77), some (.int a), some (.int (bi (isp a)))], [.int (bi (isp a)), .ref 77])) rfl ?_
  refine Ex.br (x := (14, [some (.ref 77), some (.int a), some (.int (bi (isp a)))], [.ref 77])) (y := (10, [some (.ref 77), some (.int a), some (.int (bi (isp a)))], [.ref 77])) (b := ¬ (bi (isp a)) = 0) rfl (fun hb => ?_) (fun hb => ?_)
  · replace H := H.1 (bi_ne.mp hb)
    refine Ex.pure 3 (fr2 := (17, [some (.ref 77), some (.int a), some (.int (bi (isp a)))], [.int 3, .int a, .ref 77, .ref 77])) rfl ?_
    refine Ex.cal (rest := [.ref 77]) (j := m_X7_isKind) (as := [.ref 77, .int a, .int 3]) (vst (a := 153) (b := 3) (c := 6) (rest := [.ref 77]) (vs := [.int a, .int 3]) rfl ⟨Nat.le_of_ble_eq_true rfl, Nat.le_of_ble_eq_true rfl⟩ rfl rfl (sg_77 hs)) (H.imp ?_)
    intro rv h2 H
    obtain ⟨x3, rfl, H⟩ := H
    obtain ⟨hs, H⟩ := H
    show Ex d [] tb_X7_tends (20, [some (.ref 77), some (.int a), some (.int (bi (isp a)))], [.int x3, .ref 77]) h2 _
    refine Ex.br (x := (27, [some (.ref 77), some (.int a), some (.int (bi (isp a)))], [.ref 77])) (y := (23, [some (.ref 77), some (.int a), some (.int (bi (isp a)))], [.ref 77])) (b := ¬ x3 = 0) rfl (fun hb => ?_) (fun hb => ?_)
    · replace H := H.1 (hb)
      refine Ex.pure 1 (fr2 := (28, [some (.ref 77), some (.int a), some (.int (bi (isp a)))], [.int 0, .ref 77])) rfl ?_
      exact H
    · replace H := H.2 (hb)
      refine Ex.pure 2 (fr2 := (28, [some (.ref 77), some (.int a), some (.int (bi (isp a)))], [.int 2, .ref 77])) rfl ?_
      exact H
  · replace H := H.2 (bi_nne.mp hb)
    refine Ex.pure 2 (fr2 := (28, [some (.ref 77), some (.int a), some (.int (bi (isp a)))], [.int 1, .ref 77])) rfl ?_
    exact H
theorem w_X7_tends_28 {d : Nat} {h : XH} {y : Nat → Nat} {K : XK} {E : XE} {l1 : Int32} {u2 : Option Value} {s0 : Int32} (hd : 20 ≤ d) (hs : Sg h.1 y) (H : (∀ h1 : XH, h1 = (x_setI h 77 0 s0) → ((s0 = 0) → (Ca d m_X7_tendsTo [.ref 77, .int l1] h1 (fun rv h2 => ∃ x3, rv = some (.int x3) ∧ Sg h2.1 y ∧ K (some (.int x3)) h2) E)) ∧ (¬ (s0 = 0) → K (some (.int 0)) h1))) : b_X7_tends_28 d 77 l1 u2 s0 77 h K E := by
  show Ex d [] tb_X7_tends (28, [some (.ref 77), some (.int l1), u2], [.int s0, .ref 77]) h _
  refine Ex.ask (rest := []) (j := m_X7_holds) (as := [.ref 77, .int s0]) (vst (a := 114) (b := 2) (c := 6) (rest := []) (vs := [.int s0]) rfl ⟨Nat.le_of_ble_eq_true rfl, Nat.le_of_ble_eq_true rfl⟩ rfl rfl (sg_77 hs)) ((t_X7_holds hs).mono (by omega) (fun _ _ z => z)) ?_
  rintro _ h1 ⟨rfl, e1⟩
  replace H := H h1 e1
  replace hs : Sg h1.1 y := by rw [e1]; exact hs
  show Ex d [] tb_X7_tends (31, [some (.ref 77), some (.int l1), u2], [.int (bi (s0 = 0))]) h1 _
  refine Ex.br (x := (42, [some (.ref 77), some (.int l1), u2], [])) (y := (34, [some (.ref 77), some (.int l1), u2], [])) (b := (bi (s0 = 0)) = 0) rfl (fun hb => ?_) (fun hb => ?_)
  · replace H := H.2 (bi_eq.mp hb)
    refine Ex.pure 1 (fr2 := (43, [some (.ref 77), some (.int l1), u2], [.int 0])) rfl ?_
    exact Ex.iret rfl (Or.inl rfl) H
  · replace H := H.1 (bi_neq.mp hb)
    refine Ex.pure 2 (fr2 := (36, [some (.ref 77), some (.int l1), u2], [.int l1, .ref 77])) rfl ?_
    refine Ex.cal (rest := []) (j := m_X7_tendsTo) (as := [.ref 77, .int l1]) (vst (a := 191) (b := 2) (c := 6) (rest := []) (vs := [.int l1]) rfl ⟨Nat.le_of_ble_eq_true rfl, Nat.le_of_ble_eq_true rfl⟩ rfl rfl (sg_77 hs)) (H.imp ?_)
    intro rv h2 H
    obtain ⟨x3, rfl, H⟩ := H
    obtain ⟨hs, H⟩ := H
    show Ex d [] tb_X7_tends (39, [some (.ref 77), some (.int l1), u2], [.int x3]) h2 _
    refine Ex.pure 1 (fr2 := (43, [some (.ref 77), some (.int l1), u2], [.int x3])) rfl ?_
    exact Ex.iret rfl (Or.inl rfl) H
def b_X7_terms_28 (d : Nat) (r_0 : Nat) (l1 : Int32) (u2 : Option Value) (s0 : Int32) (r_4 : Nat) (h : XH) (K : XK) (E : XE) : Prop := Ex d [] tb_X7_terms (28, [some (.ref r_0), some (.int l1), u2], [.int s0, .ref r_4]) h (Po K E)
theorem w_X7_terms {d : Nat} {h : XH} {y : Nat → Nat} {K : XK} {E : XE} {a : Int32} (hd : 20 ≤ d) (hs : Sg h.1 y) (H : ((isp a) → (Ca d m_X7_isKind [.ref 77, .int a, .int 3] h (fun rv h2 => ∃ x3, rv = some (.int x3) ∧ Sg h2.1 y ∧ (¬ x3 = 0 → b_X7_terms_28 d 77 a (some (.int (bi (isp a)))) 0 77 h2 K E) ∧ (¬ (¬ x3 = 0) → b_X7_terms_28 d 77 a (some (.int (bi (isp a)))) 2 77 h2 K E)) E)) ∧ (¬ (isp a) → b_X7_terms_28 d 77 a (some (.int (bi (isp a)))) 1 77 h K E)) : Ca (d + 1) m_X7_terms [.ref 77, .int a] h K E := by
  refine Ca.of ⟨by show 2 ≤ 3; omega, rfl⟩ ?_
  show Ex d [] tb_X7_terms (0, [some (.ref 77), some (.int a), none], []) h _
  refine Ex.pure 1 (fr2 := (1, [some (.ref 77), some (.int a), none], [.int a])) rfl ?_
  refine Ex.ask (rest := []) (j := m_X7_isPlace) (as := [.int a]) (fun c => rfl) ((t_X7_isPlace hs).mono (by omega) (fun _ _ z => z)) ?_
  rintro _ h0 ⟨rfl, e0⟩
  rw [e0]
  show Ex d [] tb_X7_terms (4, [some (.ref 77), some (.int a), none], [.int (bi (isp a))]) h _
  refine Ex.pure 3 (fr2 := (7, [some (.ref 77), some (.int a), some (.int (bi (isp a)))], [.int (bi (isp a)), .ref 77])) rfl ?_
  refine Ex.br (x := (14, [some (.ref 77), some (.int a), some (.int (bi (isp a)))], [.ref 77])) (y := (10, [some (.ref 77), some (.int a), some (.int (bi (isp a)))], [.ref 77])) (b := ¬ (bi (isp a)) = 0) rfl (fun hb => ?_) (fun hb => ?_)
  · replace H := H.1 (bi_ne.mp hb)
    refine Ex.pure 3 (fr2 := (17, [some (.ref 77), some (.int a), some (.int (bi (isp a)))], [.int 3, .int a, .ref 77, .ref 77])) rfl ?_
    refine Ex.cal (rest := [.ref 77]) (j := m_X7_isKind) (as := [.ref 77, .int a, .int 3]) (vst (a := 153) (b := 3) (c := 6) (rest := [.ref 77]) (vs := [.int a, .int 3]) rfl ⟨Nat.le_of_ble_eq_true rfl, Nat.le_of_ble_eq_true rfl⟩ rfl rfl (sg_77 hs)) (H.imp ?_)
    intro rv h2 H
    obtain ⟨x3, rfl, H⟩ := H
    obtain ⟨hs, H⟩ := H
    show Ex d [] tb_X7_terms (20, [some (.ref 77), some (.int a), some (.int (bi (isp a)))], [.int x3, .ref 77]) h2 _
    refine Ex.br (x := (27, [some (.ref 77), some (.int a), some (.int (bi (isp a)))], [.ref 77])) (y := (23, [some (.ref 77), some (.int a), some (.int (bi (isp a)))], [.ref 77])) (b := ¬ x3 = 0) rfl (fun hb => ?_) (fun hb => ?_)
    · replace H := H.1 (hb)
      refine Ex.pure 1 (fr2 := (28, [some (.ref 77), some (.int a), some (.int (bi (isp a)))], [.int 0, .ref 77])) rfl ?_
      exact H
    · replace H := H.2 (hb)
      refine Ex.pure 2 (fr2 := (28, [some (.ref 77), some (.int a), some (.int (bi (isp a)))], [.int 2, .ref 77])) rfl ?_
      exact H
  · replace H := H.2 (bi_nne.mp hb)
    refine Ex.pure 2 (fr2 := (28, [some (.ref 77), some (.int a), some (.int (bi (isp a)))], [.int 1, .ref 77])) rfl ?_
    exact H
theorem w_X7_terms_28 {d : Nat} {h : XH} {y : Nat → Nat} {K : XK} {E : XE} {l1 : Int32} {u2 : Option Value} {s0 : Int32} (hd : 20 ≤ d) (hs : Sg h.1 y) (H : (∀ h1 : XH, h1 = (x_setI h 77 0 s0) → ((s0 = 0) → (Ix l1 16 ∧ K (some (.int (h1.2.1 79 (ix l1)))) h1)) ∧ (¬ (s0 = 0) → K (some (.int 0)) h1))) : b_X7_terms_28 d 77 l1 u2 s0 77 h K E := by
  show Ex d [] tb_X7_terms (28, [some (.ref 77), some (.int l1), u2], [.int s0, .ref 77]) h _
  refine Ex.ask (rest := []) (j := m_X7_holds) (as := [.ref 77, .int s0]) (vst (a := 114) (b := 2) (c := 6) (rest := []) (vs := [.int s0]) rfl ⟨Nat.le_of_ble_eq_true rfl, Nat.le_of_ble_eq_true rfl⟩ rfl rfl (sg_77 hs)) ((t_X7_holds hs).mono (by omega) (fun _ _ z => z)) ?_
  rintro _ h1 ⟨rfl, e1⟩
  replace H := H h1 e1
  replace hs : Sg h1.1 y := by rw [e1]; exact hs
  show Ex d [] tb_X7_terms (31, [some (.ref 77), some (.int l1), u2], [.int (bi (s0 = 0))]) h1 _
  refine Ex.br (x := (43, [some (.ref 77), some (.int l1), u2], [])) (y := (34, [some (.ref 77), some (.int l1), u2], [])) (b := (bi (s0 = 0)) = 0) rfl (fun hb => ?_) (fun hb => ?_)
  · replace H := H.2 (bi_eq.mp hb)
    refine Ex.pure 1 (fr2 := (44, [some (.ref 77), some (.int l1), u2], [.int 0])) rfl ?_
    exact Ex.iret rfl (Or.inl rfl) H
  · replace H := H.1 (bi_neq.mp hb)
    refine Ex.pure 1 (fr2 := (35, [some (.ref 77), some (.int l1), u2], [.ref 77])) rfl ?_
    refine Ex.getQ rfl (sg_77 hs) rfl ?_
    refine Ex.pure 1 (fr2 := (39, [some (.ref 77), some (.int l1), u2], [.int l1, .ref 79])) rfl ?_
    refine Ex.iald rfl (Or.inl rfl) (sg_79 hs) H.1 ?_
    replace H := H.2
    refine Ex.pure 1 (fr2 := (44, [some (.ref 77), some (.int l1), u2], [.int (h1.2.1 79 (ix l1))])) rfl ?_
    exact Ex.iret rfl (Or.inl rfl) H
theorem w_X7_toldPart {d : Nat} {h : XH} {y : Nat → Nat} {K : XK} {E : XE} {a : Int32} {b : Int32} (hd : 20 ≤ d) (hs : Sg h.1 y) (H : (¬ b = 0 → (Ix a 320 ∧ K (some (.long (xpn4 (h.2.2.1 90 (ix a)) b))) h)) ∧ (¬ (¬ b = 0) → (Ix a 320 ∧ K (some (.long (((h.2.1 91 (ix a)) : Int32).toInt64))) h))) : Ca (d + 1) m_X7_toldPart [.ref 77, .int a, .int b] h K E := by
  refine Ca.of ⟨by show 3 ≤ 3; omega, rfl⟩ ?_
  show Ex d [] tb_X7_toldPart (0, [some (.ref 77), some (.int a), some (.int b)], []) h _
  refine Ex.pure 1 (fr2 := (1, [some (.ref 77), some (.int a), some (.int b)], [.int b])) rfl ?_
  refine Ex.br (x := (14, [some (.ref 77), some (.int a), some (.int b)], [])) (y := (4, [some (.ref 77), some (.int a), some (.int b)], [])) (b := ¬ b = 0) rfl (fun hb => ?_) (fun hb => ?_)
  · replace H := H.1 (hb)
    refine Ex.pure 1 (fr2 := (15, [some (.ref 77), some (.int a), some (.int b)], [.ref 77])) rfl ?_
    refine Ex.getQ rfl (sg_77 hs) rfl ?_
    refine Ex.pure 1 (fr2 := (19, [some (.ref 77), some (.int a), some (.int b)], [.int a, .ref 90])) rfl ?_
    refine Ex.lald rfl (sg_90 hs) H.1 ?_
    replace H := H.2
    refine Ex.pure 1 (fr2 := (21, [some (.ref 77), some (.int a), some (.int b)], [.int b, .long (h.2.2.1 90 (ix a))])) rfl ?_
    refine Ex.ask (rest := []) (j := m_X7_exponentOf) (as := [.long (h.2.2.1 90 (ix a)), .int b]) (fun c => rfl) ((t_X7_exponentOf hs).mono (by omega) (fun _ _ z => z)) ?_
    rintro _ h0 ⟨rfl, e0⟩
    rw [e0]
    show Ex d [] tb_X7_toldPart (24, [some (.ref 77), some (.int a), some (.int b)], [.long (xpn4 (h.2.2.1 90 (ix a)) b)]) h _
    exact Ex.lret rfl H
  · replace H := H.2 (hb)
    refine Ex.pure 1 (fr2 := (5, [some (.ref 77), some (.int a), some (.int b)], [.ref 77])) rfl ?_
    refine Ex.getQ rfl (sg_77 hs) rfl ?_
    refine Ex.pure 1 (fr2 := (9, [some (.ref 77), some (.int a), some (.int b)], [.int a, .ref 91])) rfl ?_
    refine Ex.iald rfl (Or.inl rfl) (sg_91 hs) H.1 ?_
    replace H := H.2
    refine Ex.pure 2 (fr2 := (24, [some (.ref 77), some (.int a), some (.int b)], [.long (((h.2.1 91 (ix a)) : Int32).toInt64)])) rfl ?_
    exact Ex.lret rfl H
def b_X7_part_15 (d : Nat) (r_0 : Nat) (l1 : Int32) (l2 : Int32) (l3 : Int32) (u4 : Option Value) (h : XH) (K : XK) (E : XE) : Prop := Ex d [] tb_X7_part (15, [some (.ref r_0), some (.int l1), some (.int l2), some (.int l3), u4], []) h (Po K E)
def b_X7_part_16 (d : Nat) (r_0 : Nat) (l1 : Int32) (l2 : Int32) (l3 : Int32) (u4 : Option Value) (s0 : Int32) (h : XH) (K : XK) (E : XE) : Prop := Ex d [] tb_X7_part (16, [some (.ref r_0), some (.int l1), some (.int l2), some (.int l3), u4], [.int s0]) h (Po K E)
def b_X7_part_63 (d : Nat) (r_0 : Nat) (l1 : Int32) (l2 : Int32) (l3 : Int32) (u4 : Option Value) (r_5 : Nat) (h : XH) (K : XK) (E : XE) : Prop := Ex d [] tb_X7_part (63, [some (.ref r_0), some (.int l1), some (.int l2), some (.int l3), u4], [.ref r_5]) h (Po K E)
def b_X7_part_68 (d : Nat) (r_0 : Nat) (l1 : Int32) (l2 : Int32) (l3 : Int32) (u4 : Option Value) (s0 : Int32) (r_6 : Nat) (h : XH) (K : XK) (E : XE) : Prop := Ex d [] tb_X7_part (68, [some (.ref r_0), some (.int l1), some (.int l2), some (.int l3), u4], [.int s0, .ref r_6]) h (Po K E)
theorem w_X7_part {d : Nat} {h : XH} {y : Nat → Nat} {K : XK} {E : XE} {a : Int32} {b : Int32} {c : Int32} (hd : 20 ≤ d) (hs : Sg h.1 y) (H : ((isp a) → (b < 0 → b_X7_part_15 d 77 a b c none h K E) ∧ (¬ (b < 0) → b_X7_part_16 d 77 a b c none 1 h K E)) ∧ (¬ (isp a) → b_X7_part_15 d 77 a b c none h K E)) : Ca (d + 1) m_X7_part [.ref 77, .int a, .int b, .int c] h K E := by
  refine Ca.of ⟨by show 4 ≤ 5; omega, rfl⟩ ?_
  show Ex d [] tb_X7_part (0, [some (.ref 77), some (.int a), some (.int b), some (.int c), none], []) h _
  refine Ex.pure 1 (fr2 := (1, [some (.ref 77), some (.int a), some (.int b), some (.int c), none], [.int a])) rfl ?_
  refine Ex.ask (rest := []) (j := m_X7_isPlace) (as := [.int a]) (fun c => rfl) ((t_X7_isPlace hs).mono (by omega) (fun _ _ z => z)) ?_
  rintro _ h0 ⟨rfl, e0⟩
  rw [e0]
  show Ex d [] tb_X7_part (4, [some (.ref 77), some (.int a), some (.int b), some (.int c), none], [.int (bi (isp a))]) h _
  refine Ex.br (x := (15, [some (.ref 77), some (.int a), some (.int b), some (.int c), none], [])) (y := (7, [some (.ref 77), some (.int a), some (.int b), some (.int c), none], [])) (b := (bi (isp a)) = 0) rfl (fun hb => ?_) (fun hb => ?_)
  · replace H := H.2 (bi_eq.mp hb)
    exact H
  · replace H := H.1 (bi_neq.mp hb)
    refine Ex.pure 1 (fr2 := (8, [some (.ref 77), some (.int a), some (.int b), some (.int c), none], [.int b])) rfl ?_
    refine Ex.br (x := (15, [some (.ref 77), some (.int a), some (.int b), some (.int c), none], [])) (y := (11, [some (.ref 77), some (.int a), some (.int b), some (.int c), none], [])) (b := b < 0) rfl (fun hb => ?_) (fun hb => ?_)
    · replace H := H.1 (hb)
      exact H
    · replace H := H.2 (hb)
      refine Ex.pure 2 (fr2 := (16, [some (.ref 77), some (.int a), some (.int b), some (.int c), none], [.int 1])) rfl ?_
      exact H
theorem w_X7_part_15 {d : Nat} {h : XH} {y : Nat → Nat} {K : XK} {E : XE} {l1 : Int32} {l2 : Int32} {l3 : Int32} {u4 : Option Value} (hd : 20 ≤ d) (hs : Sg h.1 y) (H : b_X7_part_16 d 77 l1 l2 l3 (u4) 0 h K E) : b_X7_part_15 d 77 l1 l2 l3 u4 h K E := by
  show Ex d [] tb_X7_part (15, [some (.ref 77), some (.int l1), some (.int l2), some (.int l3), u4], []) h _
  refine Ex.pure 1 (fr2 := (16, [some (.ref 77), some (.int l1), some (.int l2), some (.int l3), u4], [.int 0])) rfl ?_
  exact H
theorem w_X7_part_16 {d : Nat} {h : XH} {y : Nat → Nat} {K : XK} {E : XE} {l1 : Int32} {l2 : Int32} {l3 : Int32} {u4 : Option Value} {s0 : Int32} (hd : 20 ≤ d) (hs : Sg h.1 y) (H : (¬ s0 = 0 → ((0 ≤ ((l3 : Int32).toInt64) ∧ ((l3 : Int32).toInt64) ≤ 4) → (Ca d m_X7_isKind [.ref 77, .int l1, .int 3] h (fun rv h2 => ∃ x3, rv = some (.int x3) ∧ Sg h2.1 y ∧ (x3 = 0 → b_X7_part_63 d 77 l1 l2 l3 (some (.int s0)) 77 h2 K E) ∧ (¬ (x3 = 0) → (Ix l1 16 ∧ (l2 < (h2.2.1 79 (ix l1)) → b_X7_part_68 d 77 l1 l2 l3 (some (.int s0)) 0 77 h2 K E) ∧ (¬ (l2 < (h2.2.1 79 (ix l1))) → b_X7_part_63 d 77 l1 l2 l3 (some (.int s0)) 77 h2 K E)))) E)) ∧ (¬ (0 ≤ ((l3 : Int32).toInt64) ∧ ((l3 : Int32).toInt64) ≤ 4) → b_X7_part_68 d 77 l1 l2 l3 (some (.int s0)) 2 77 h K E)) ∧ (¬ (¬ s0 = 0) → b_X7_part_68 d 77 l1 l2 l3 (some (.int s0)) 1 77 h K E)) : b_X7_part_16 d 77 l1 l2 l3 u4 s0 h K E := by
  show Ex d [] tb_X7_part (16, [some (.ref 77), some (.int l1), some (.int l2), some (.int l3), u4], [.int s0]) h _
  refine Ex.pure 3 (fr2 := (21, [some (.ref 77), some (.int l1), some (.int l2), some (.int l3), some (.int s0)], [.int s0, .ref 77])) rfl ?_
  refine Ex.br (x := (28, [some (.ref 77), some (.int l1), some (.int l2), some (.int l3), some (.int s0)], [.ref 77])) (y := (24, [some (.ref 77), some (.int l1), some (.int l2), some (.int l3), some (.int s0)], [.ref 77])) (b := ¬ s0 = 0) rfl (fun hb => ?_) (fun hb => ?_)
  · replace H := H.1 (hb)
    refine Ex.pure 4 (fr2 := (34, [some (.ref 77), some (.int l1), some (.int l2), some (.int l3), some (.int s0)], [.long 4, .long 0, .long ((l3 : Int32).toInt64), .ref 77])) rfl ?_
    refine Ex.ask (rest := [.ref 77]) (j := m_X7_isIn) (as := [.long ((l3 : Int32).toInt64), .long 0, .long 4]) (fun c => rfl) ((t_X7_isIn hs).mono (by omega) (fun _ _ z => z)) ?_
    rintro _ h0 ⟨rfl, e0⟩
    rw [e0]
    show Ex d [] tb_X7_part (37, [some (.ref 77), some (.int l1), some (.int l2), some (.int l3), some (.int s0)], [.int (bi (0 ≤ ((l3 : Int32).toInt64) ∧ ((l3 : Int32).toInt64) ≤ 4)), .ref 77]) h _
    refine Ex.br (x := (44, [some (.ref 77), some (.int l1), some (.int l2), some (.int l3), some (.int s0)], [.ref 77])) (y := (40, [some (.ref 77), some (.int l1), some (.int l2), some (.int l3), some (.int s0)], [.ref 77])) (b := ¬ (bi (0 ≤ ((l3 : Int32).toInt64) ∧ ((l3 : Int32).toInt64) ≤ 4)) = 0) rfl (fun hb => ?_) (fun hb => ?_)
    · replace H := H.1 (bi_ne.mp hb)
      refine Ex.pure 3 (fr2 := (47, [some (.ref 77), some (.int l1), some (.int l2), some (.int l3), some (.int s0)], [.int 3, .int l1, .ref 77, .ref 77])) rfl ?_
      refine Ex.cal (rest := [.ref 77]) (j := m_X7_isKind) (as := [.ref 77, .int l1, .int 3]) (vst (a := 153) (b := 3) (c := 6) (rest := [.ref 77]) (vs := [.int l1, .int 3]) rfl ⟨Nat.le_of_ble_eq_true rfl, Nat.le_of_ble_eq_true rfl⟩ rfl rfl (sg_77 hs)) (H.imp ?_)
      intro rv h2 H
      obtain ⟨x3, rfl, H⟩ := H
      obtain ⟨hs, H⟩ := H
      show Ex d [] tb_X7_part (50, [some (.ref 77), some (.int l1), some (.int l2), some (.int l3), some (.int s0)], [.int x3, .ref 77]) h2 _
      refine Ex.br (x := (63, [some (.ref 77), some (.int l1), some (.int l2), some (.int l3), some (.int s0)], [.ref 77])) (y := (53, [some (.ref 77), some (.int l1), some (.int l2), some (.int l3), some (.int s0)], [.ref 77])) (b := x3 = 0) rfl (fun hb => ?_) (fun hb => ?_)
      · replace H := H.1 (hb)
        exact H
      · replace H := H.2 (hb)
        refine Ex.pure 2 (fr2 := (55, [some (.ref 77), some (.int l1), some (.int l2), some (.int l3), some (.int s0)], [.ref 77, .int l2, .ref 77])) rfl ?_
        refine Ex.getQ rfl (sg_77 hs) rfl ?_
        refine Ex.pure 1 (fr2 := (59, [some (.ref 77), some (.int l1), some (.int l2), some (.int l3), some (.int s0)], [.int l1, .ref 79, .int l2, .ref 77])) rfl ?_
        refine Ex.iald rfl (Or.inl rfl) (sg_79 hs) H.1 ?_
        replace H := H.2
        refine Ex.br (x := (67, [some (.ref 77), some (.int l1), some (.int l2), some (.int l3), some (.int s0)], [.ref 77])) (y := (63, [some (.ref 77), some (.int l1), some (.int l2), some (.int l3), some (.int s0)], [.ref 77])) (b := l2 < (h2.2.1 79 (ix l1))) rfl (fun hb => ?_) (fun hb => ?_)
        · replace H := H.1 (hb)
          refine Ex.pure 1 (fr2 := (68, [some (.ref 77), some (.int l1), some (.int l2), some (.int l3), some (.int s0)], [.int 0, .ref 77])) rfl ?_
          exact H
        · replace H := H.2 (hb)
          exact H
    · replace H := H.2 (bi_nne.mp hb)
      refine Ex.pure 2 (fr2 := (68, [some (.ref 77), some (.int l1), some (.int l2), some (.int l3), some (.int s0)], [.int 2, .ref 77])) rfl ?_
      exact H
  · replace H := H.2 (hb)
    refine Ex.pure 2 (fr2 := (68, [some (.ref 77), some (.int l1), some (.int l2), some (.int l3), some (.int s0)], [.int 1, .ref 77])) rfl ?_
    exact H
theorem w_X7_part_63 {d : Nat} {h : XH} {y : Nat → Nat} {K : XK} {E : XE} {l1 : Int32} {l2 : Int32} {l3 : Int32} {u4 : Option Value} (hd : 20 ≤ d) (hs : Sg h.1 y) (H : b_X7_part_68 d 77 l1 l2 l3 (u4) 3 77 h K E) : b_X7_part_63 d 77 l1 l2 l3 u4 77 h K E := by
  show Ex d [] tb_X7_part (63, [some (.ref 77), some (.int l1), some (.int l2), some (.int l3), u4], [.ref 77]) h _
  refine Ex.pure 2 (fr2 := (68, [some (.ref 77), some (.int l1), some (.int l2), some (.int l3), u4], [.int 3, .ref 77])) rfl ?_
  exact H
theorem w_X7_part_68 {d : Nat} {h : XH} {y : Nat → Nat} {K : XK} {E : XE} {l1 : Int32} {l2 : Int32} {l3 : Int32} {u4 : Option Value} {s0 : Int32} (hd : 20 ≤ d) (hs : Sg h.1 y) (H : (∀ h1 : XH, h1 = (x_setI h 77 0 s0) → ((s0 = 0) → (Ca d m_X7_toldPart [.ref 77, .int ((20 * l1) + l2), .int l3] h1 (fun rv h2 => ∃ x3, rv = some (.long x3) ∧ Sg h2.1 y ∧ K (some (.long x3)) h2) E)) ∧ (¬ (s0 = 0) → K (some (.long 0)) h1))) : b_X7_part_68 d 77 l1 l2 l3 u4 s0 77 h K E := by
  show Ex d [] tb_X7_part (68, [some (.ref 77), some (.int l1), some (.int l2), some (.int l3), u4], [.int s0, .ref 77]) h _
  refine Ex.ask (rest := []) (j := m_X7_holds) (as := [.ref 77, .int s0]) (vst (a := 114) (b := 2) (c := 6) (rest := []) (vs := [.int s0]) rfl ⟨Nat.le_of_ble_eq_true rfl, Nat.le_of_ble_eq_true rfl⟩ rfl rfl (sg_77 hs)) ((t_X7_holds hs).mono (by omega) (fun _ _ z => z)) ?_
  rintro _ h1 ⟨rfl, e1⟩
  replace H := H h1 e1
  replace hs : Sg h1.1 y := by rw [e1]; exact hs
  show Ex d [] tb_X7_part (71, [some (.ref 77), some (.int l1), some (.int l2), some (.int l3), u4], [.int (bi (s0 = 0))]) h1 _
  refine Ex.br (x := (88, [some (.ref 77), some (.int l1), some (.int l2), some (.int l3), u4], [])) (y := (74, [some (.ref 77), some (.int l1), some (.int l2), some (.int l3), u4], [])) (b := (bi (s0 = 0)) = 0) rfl (fun hb => ?_) (fun hb => ?_)
  · replace H := H.2 (bi_eq.mp hb)
    refine Ex.pure 1 (fr2 := (89, [some (.ref 77), some (.int l1), some (.int l2), some (.int l3), u4], [.long 0])) rfl ?_
    exact Ex.lret rfl H
  · replace H := H.1 (bi_neq.mp hb)
    refine Ex.pure 7 (fr2 := (82, [some (.ref 77), some (.int l1), some (.int l2), some (.int l3), u4], [.int l3, .int ((20 * l1) + l2), .ref 77])) rfl ?_
    refine Ex.cal (rest := []) (j := m_X7_toldPart) (as := [.ref 77, .int ((20 * l1) + l2), .int l3]) (vst (a := 194) (b := 3) (c := 6) (rest := []) (vs := [.int ((20 * l1) + l2), .int l3]) rfl ⟨Nat.le_of_ble_eq_true rfl, Nat.le_of_ble_eq_true rfl⟩ rfl rfl (sg_77 hs)) (H.imp ?_)
    intro rv h2 H
    obtain ⟨x3, rfl, H⟩ := H
    obtain ⟨hs, H⟩ := H
    show Ex d [] tb_X7_part (85, [some (.ref 77), some (.int l1), some (.int l2), some (.int l3), u4], [.long x3]) h2 _
    refine Ex.pure 1 (fr2 := (89, [some (.ref 77), some (.int l1), some (.int l2), some (.int l3), u4], [.long x3])) rfl ?_
    exact Ex.lret rfl H
