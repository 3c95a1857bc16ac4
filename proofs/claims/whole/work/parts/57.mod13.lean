/-! ===== layer 2: the model's descent ===== -/
/-- f steps on, from the s-th -/
def itr (n : Nat) : Nat → Nat → O → O
  | 0, _, x => x
  | f + 1, s, x => itr n f (s + 1) (stpF (n + s) 5 x)
/-- what is live is not too much, where x0 is kept too -/
def LB (kd : Nat → Int32) (T : Nat → O) (x0 : O) : Prop := ∀ (m : Nat) (ov : Nat → O), (∀ i j, i < m → j < m → ov i = ov j → i = j) → (∀ i, i < m → ov i = .leaf ∨ ov i = x0 ∨ inS x0 (ov i) ∨ ∃ p, p < 16 ∧ kd p = 1 ∧ (ov i = T p ∨ inS (T p) (ov i))) → m + 6 < 2000
/-- what a descent may change -/
def Fds (h h2 : XH) : Prop := h2.1 = h.1 ∧ h2.2.2.2 = h.2.2.2 ∧ (∀ r, (r ≤ 76 ∨ r = 78 ∨ 90 ≤ r) → h2.2.1 r = h.2.1 r ∧ h2.2.2.1 r = h.2.2.1 r) ∧ (∀ s, s ≠ 7 → s ≠ 11 → s ≠ 15 → s ≠ 27 → h2.2.1 77 s = h.2.1 77 s) ∧ h2.2.2.1 77 = h.2.2.1 77 ∧ ∀ p, p < 16 → ¬ h.2.1 78 p = 1 → h2.2.1 79 p = h.2.1 79 p
theorem Fds.tr {h h2 h3 : XH} (a : Fds h h2) (b : Fds h2 h3) : Fds h h3 := ⟨b.1.trans a.1, b.2.1.trans a.2.1, fun r hr => ⟨(b.2.2.1 r hr).1.trans (a.2.2.1 r hr).1, (b.2.2.1 r hr).2.trans (a.2.2.1 r hr).2⟩, fun s q1 q2 q3 q4 => (b.2.2.2.1 s q1 q2 q3 q4).trans (a.2.2.2.1 s q1 q2 q3 q4), b.2.2.2.2.1.trans a.2.2.2.2.1, fun p hp hk => (b.2.2.2.2.2 p hp (by rw [(a.2.2.1 78 (by omega)).1]; exact hk)).trans (a.2.2.2.2.2 p hp hk)⟩
theorem Fds.sg {h h2 : XH} {y : Nat → Nat} (a : Fds h h2) (hs : Sg h.1 y) : Sg h2.1 y := by rw [a.1]; exact hs
theorem Fds.I (h : XH) (k : Nat) (v : Int32) (hk : k = 15 ∨ k = 27) : Fds h (x_setI h 77 k v) := ⟨rfl, rfl, fun r hr => ⟨sI_nq _ _ (by omega), rfl⟩, fun s _ _ q1 q2 => sI_ne _ _ (by omega), rfl, fun p _ _ => by rw [sI_nq _ _ (by omega)]⟩
theorem Fmo.ds {h h2 : XH} (a : Fmo h h2) : Fds h h2 := ⟨a.1, a.2.1, fun r hr => a.2.2.1 r (by omega), fun s q1 q2 _ _ => a.2.2.2.1 s q1 q2, a.2.2.2.2, fun p _ _ => by rw [(a.2.2.1 79 (by omega)).1]⟩
section
variable {d : Nat} {h : XH} {y : Nat → Nat} {m : Nat} {ov T : Nat → O} {K : XK} {E : XE}
theorem t_X7_descends {a b n : Int32} {p0 nn most : Nat} {res : Option (O × Nat)} (hd : 30 ≤ d) (hs : Sg h.1 y) (M : Mo h m ov) (hP : Pl h m ov T) (ha : a.toInt = p0) (hp0 : p0 < 16) (hk0 : h.2.1 78 p0 = 1) (hb : b.toInt = nn) (hn : n.toInt = most) (h1 : 1 ≤ nn) (h2 : nn ≤ 99) (h3 : most ≤ 2000) (hR : dsR nn most 0 (T p0) res)
    (hB : ∀ f, f ≤ most → (∀ g, g < f → stpok (nn + g) 5 (itr nn g 0 (T p0))) → LB (h.2.1 78) T (itr nn f 0 (T p0)))
    (kk : ∀ (h2 : XH) (m2 : Nat) (ov2 : Nat → O) (r : Int32), Mo h2 m2 ov2 → Pl h2 m2 ov2 T → Fds h h2 → (res = none → r = 0) → (∀ x s, res = some (x, s) → r = 1 ∧ (x = .leaf → (h2.2.1 77 27).toInt = s) ∧ (¬ x = .leaf → (h2.2.1 77 27).toInt = -1)) → K (some (.int r)) h2) : Ca d m_X7_descends [.ref 77, .int a, .int b, .int n] h K E := by
  obtain ⟨d, rfl⟩ : ∃ e, d = e + 1 := ⟨d - 1, by omega⟩
  have fin : ∀ (u1 u2 u3 u4 : Option Value) (h1 : XH) (m1 : Nat) (ov1 : Nat → O) (i1 s : Nat), Mo h1 m1 ov1 → Pl h1 m1 ov1 T → Fds h h1 → (h1.2.1 77 15).toInt = i1 → i1 < m1 → (h1.2.1 77 27).toInt = s → res = some (ov1 i1, s) → b_X7_descends_77 d 77 u1 u2 u3 u4 h1 K E := by
    intro u1 u2 u3 u4 h1 m1 ov1 i1 s M1 P1 F1 k1 hi1 k2 hR2
    have hne := M1.ne hi1
    have mk : ∀ v : Int32, Mo (x_setI h1 77 27 v) m1 ov1 ∧ Pl (x_setI h1 77 27 v) m1 ov1 T := fun v => ⟨M1.fr (sI_ne _ _ (by omega)) (fun r _ _ => sI_nq _ _ (by omega)), P1.fr (sI_nq _ _ (by omega)) (sI_nq _ _ (by omega)) (Nat.le_refl _) (fun _ _ => rfl)⟩
    refine w_X7_descends_77 (by omega) (F1.sg hs) ⟨fun z h2 e2 => ?_, fun z h2 e2 => ?_⟩
    · obtain ⟨M2, P2⟩ := mk (-1)
      rw [← e2] at M2 P2
      refine kk h2 m1 ov1 1 M2 P2 (F1.tr (by rw [e2]; exact Fds.I _ _ _ (Or.inr rfl))) (fun w => by rw [hR2] at w; cases w) (fun x s2 w => ?_)
      rw [hR2] at w
      injection w with w
      injection w with w1 w2
      refine ⟨rfl, fun v => ?_, fun _ => by rw [e2, sI_eq]; rfl⟩
      have := hne.mp (w1.trans v)
      exact absurd (i_ne.mpr (by omega)) z
    · obtain ⟨M2, P2⟩ := mk (h1.2.1 77 27)
      rw [← e2] at M2 P2
      refine kk h2 m1 ov1 1 M2 P2 (F1.tr (by rw [e2]; exact Fds.I _ _ _ (Or.inr rfl))) (fun w => by rw [hR2] at w; cases w) (fun x s2 w => ?_)
      rw [hR2] at w
      injection w with w
      injection w with w1 w2
      refine ⟨rfl, fun _ => by rw [e2, sI_eq, k2, w2], fun v => ?_⟩
      have := i_ne.mp (Classical.not_not.mp z)
      exact absurd (w1.symm.trans (hne.mpr (by omega))) v
  have loop : ∀ (q s i1 : Nat) (u1 u4 : Option Value) (h1 : XH) (m1 : Nat) (ov1 : Nat → O), most - s ≤ q → s ≤ most → Mo h1 m1 ov1 → Pl h1 m1 ov1 T → Fds h h1 → (h1.2.1 77 15).toInt = i1 → i1 < m1 → (h1.2.1 77 27).toInt = s → dsR nn (most - s) s (ov1 i1) res → (∀ f, f ≤ most - s → (∀ g, g < f → stpok (nn + s + g) 5 (itr nn g s (ov1 i1))) → LB (h.2.1 78) T (itr nn f s (ov1 i1))) → b_X7_descends_15 d 77 u1 b n u4 h1 K E := by
    intro q
    induction q with
    | zero =>
      intro s i1 u1 u4 h1 m1 ov1 hq hsm M1 P1 F1 k1 hi1 k2 hR hB
      rw [show most - s = 0 by omega] at hR
      refine w_X7_descends_15 (by omega) (F1.sg hs) ⟨fun _ => fin _ _ _ _ h1 m1 ov1 i1 s M1 P1 F1 k1 hi1 k2 hR, fun _ => ⟨fun _ => fin _ _ _ _ h1 m1 ov1 i1 s M1 P1 F1 k1 hi1 k2 hR, fun w => absurd (i_le.mpr (by omega)) w⟩⟩
    | succ q ih =>
      intro s i1 u1 u4 h1 m1 ov1 hq hsm M1 P1 F1 k1 hi1 k2 hR hB
      have hs1 := F1.sg hs
      have hne := M1.ne hi1
      have a78 : h1.2.1 78 = h.2.1 78 := (F1.2.2.1 78 (by omega)).1
      refine w_X7_descends_15 (by omega) hs1 ⟨fun z => fin _ _ _ _ h1 m1 ov1 i1 s M1 P1 F1 k1 hi1 k2 ?_, fun z => ⟨fun w => fin _ _ _ _ h1 m1 ov1 i1 s M1 P1 F1 k1 hi1 k2 ?_, fun w => ?_⟩⟩
      · have hl : ov1 i1 = .leaf := hne.mpr (by have := i_ne.mp z; omega)
        cases hf : most - s with
        | zero => rw [hf] at hR; exact hR
        | succ f =>
          rw [hf] at hR
          rcases hR with v | v | v
          · exact v.2
          · exact absurd hl v.1
          · exact absurd hl v.1
      · rw [i_le] at w
        rw [show most - s = 0 by omega] at hR
        exact hR
      · rw [i_le] at w
        have hlt : s < most := by omega
        have hnl : ¬ ov1 i1 = .leaf := fun v => z (i_ne.mpr (by have := hne.mp v; omega))
        obtain ⟨f, hf⟩ : ∃ f, most - s = f + 1 := ⟨most - s - 1, by omega⟩
        rw [hf] at hR hB
        refine t_X7_gathers (kp := i1) (by omega) hs1 M1 k1 hi1 (fun p hp hk => ?_) (fun h2 m2 ov2 M2 hm F2 hkp hpl hnp hl => ?_)
        · obtain ⟨c, c1, c2, _⟩ := P1 p hp hk
          exact ⟨c, c1, c2⟩
        · obtain ⟨i2, hi2, k3, ho⟩ := hkp
          have G2 : Fds h1 h2 := ⟨F2.1, F2.2.1, fun r hr => ⟨F2.2.2.2.1 r (by omega) (by omega) (by omega), by rw [F2.2.2.1]⟩, fun s q1 _ q2 _ => F2.2.2.2.2 s q1 q2, by rw [F2.2.2.1], hnp⟩
          have b78 : h2.2.1 78 = h1.2.1 78 := (G2.2.2.1 78 (by omega)).1
          have P2 : Pl h2 m2 ov2 T := by
            intro p hp hk
            rw [b78] at hk
            obtain ⟨c, c1, c2, c3⟩ := P1 p hp hk
            obtain ⟨c4, d1, d2, d3⟩ := hpl p hp hk c c2
            exact ⟨c4, d1, d2, d3.trans c3⟩
          have k27 : h2.2.1 77 27 = h1.2.1 77 27 := F2.2.2.2.2 27 (by omega) (by omega)
          have hm6 : m2 + 6 < 2000 := by
            rcases hl with hl | hl
            · omega
            · refine hB 0 (by omega) (fun g hg => absurd hg (by omega)) m2 ov2 (fun i j q1 q2 q3 => M2.inj q1 q2 q3) (fun i hi => ?_)
              show ov2 i = .leaf ∨ ov2 i = ov1 i1 ∨ inS (ov1 i1) (ov2 i) ∨ _
              rcases hl i hi with w | ⟨c, c1, c2, c3⟩
              · exact Or.inl w
              · rcases c2 with c2 | ⟨p, hp, hk, hc⟩
                · have : c = i1 := by omega
                  rw [this] at c3
                  rcases c3 with c3 | c3
                  · exact Or.inr (Or.inl c3)
                  · exact Or.inr (Or.inr (Or.inl c3))
                · obtain ⟨c4, d1, d2, d3⟩ := P1 p hp hk
                  have : c = c4 := by omega
                  rw [this, d3] at c3
                  exact Or.inr (Or.inr (Or.inr ⟨p, hp, by rw [← a78]; exact hk, c3⟩))
          have hns : (b + h2.2.1 77 27).toInt = (nn + s : Nat) := by rw [k27, i_add (by omega) (by omega), hb, k2]; omega
          refine ⟨rfl, G2.sg hs1, t_X7_stepped (i := i2) (nn := nn + s) (by omega) (G2.sg hs1) M2 k3 hns (by omega) (by omega) hi2 (by rw [ho]; exact hnl) hm6 (fun r h3 m3 ov3 x1 x2 x3 x4 x5 x6 => ⟨r, rfl, (G2.tr x4.ds).sg hs1, fun v h5 e5 h6 e6 => ?_, fun v => ?_⟩)⟩
          · rw [ho] at x6
            rcases x6 with ⟨ok, r2, rr, hr2, hx⟩ | ⟨_, rr⟩
            · rcases hR with v2 | v2 | v2
              · exact absurd v2.1 hnl
              · have P3 : Pl h3 m3 ov3 T := P2.fr (x4.2.2.1 78 (by omega)).1 (x4.2.2.1 79 (by omega)).1 x2 x1
                have F5 : Fds h3 h5 := by rw [e5]; exact Fds.I _ _ _ (Or.inl rfl)
                have F6 : Fds h5 h6 := by rw [e6]; exact Fds.I _ _ _ (Or.inr rfl)
                have z7 : h6.2.1 77 7 = h3.2.1 77 7 := by rw [e6, sI_ne _ _ (by omega), e5, sI_ne _ _ (by omega)]
                have zr : ∀ q, q ≠ 77 → h6.2.1 q = h3.2.1 q := fun q hq => by rw [e6, sI_nq _ _ hq, e5, sI_nq _ _ hq]
                have z27 : h5.2.1 77 27 = h1.2.1 77 27 := by rw [e5, sI_ne _ _ (by omega), x4.2.2.2.1 27 (by omega) (by omega), k27]
                refine ih (s + 1) r2 _ _ h6 m3 ov3 (by omega) (by omega) (x5.fr z7 (fun q q1 q2 => zr q (by omega))) (P3.fr (zr 78 (by omega)) (zr 79 (by omega)) (Nat.le_refl _) (fun _ _ => rfl)) ((((F1.tr G2).tr x4.ds).tr F5).tr F6) ?_ hr2 ?_ ?_ ?_
                · rw [e6, sI_ne _ _ (by omega), e5, sI_eq]; exact rr
                · rw [e6, sI_eq, z27, i_add (by rw [i_1]; omega) (by rw [i_1]; omega), k2, i_1]; rfl
                · rw [show most - (s + 1) = f by omega, hx]
                  exact v2.2.2
                · intro f2 hf2 hg
                  rw [hx] at hg ⊢
                  refine hB (f2 + 1) (by omega) (fun g hgl => ?_)
                  cases g with
                  | zero => exact ok
                  | succ g =>
                    have := hg g (by omega)
                    rw [show nn + s + (g + 1) = nn + (s + 1) + g by omega]
                    exact this
              · exact absurd ok v2.2.1
            · exact absurd (Int32.toInt_inj.mp (by rw [rr]; rfl)) v
          · rw [ho] at x6
            have v := Classical.not_not.mp v
            rcases x6 with ⟨ok, r2, rr, hr2, hx⟩ | ⟨nok, rr⟩
            · rw [v] at rr
              have : ((-1 : Int32)).toInt = -1 := rfl
              omega
            · have P3 : Pl h3 m3 ov3 T := P2.fr (x4.2.2.1 78 (by omega)).1 (x4.2.2.1 79 (by omega)).1 x2 x1
              rcases hR with v2 | v2 | v2
              · exact absurd v2.1 hnl
              · exact absurd v2.2.1 nok
              · exact kk h3 m3 ov3 0 x5 P3 ((F1.tr G2).tr x4.ds) (fun _ => rfl) (fun x s2 w => by rw [v2.2.2] at w; cases w)
  obtain ⟨c, c1, c2, c3⟩ := hP p0 hp0 hk0
  refine w_X7_descends (by omega) hs ⟨i_Ix ha hp0, fun h1 e1 h2 e2 => loop most 0 c _ _ h2 m ov (by omega) (by omega) ?_ ?_ ?_ ?_ c1 ?_ ?_ ?_⟩
  · exact (M.fr (h2 := h1) (by rw [e1]; exact sI_ne _ _ (by omega)) (fun r _ _ => by rw [e1]; exact sI_nq _ _ (by omega))).fr (by rw [e2]; exact sI_ne _ _ (by omega)) (fun r _ _ => by rw [e2]; exact sI_nq _ _ (by omega))
  · exact (hP.fr (h2 := h1) (by rw [e1]; exact sI_nq _ _ (by omega)) (by rw [e1]; exact sI_nq _ _ (by omega)) (Nat.le_refl _) (fun _ _ => rfl)).fr (by rw [e2]; exact sI_nq _ _ (by omega)) (by rw [e2]; exact sI_nq _ _ (by omega)) (Nat.le_refl _) (fun _ _ => rfl)
  · have F5 : Fds h h1 := by rw [e1]; exact Fds.I _ _ _ (Or.inl rfl)
    have F6 : Fds h1 h2 := by rw [e2]; exact Fds.I _ _ _ (Or.inr rfl)
    exact F5.tr F6
  · rw [e2, sI_ne _ _ (by omega), e1, sI_eq, i_ix ha]; exact c2
  · rw [e2, sI_eq]; rfl
  · rw [c3]; exact hR
  · rw [c3]
    intro f hf hg
    exact hB f hf hg
end
