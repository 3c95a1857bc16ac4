/-! ===== layer 2: the model's places ===== -/
/-- what is live at a call's begin is not too much -/
def LB0 (kd : Nat → Int32) (T : Nat → O) : Prop := ∀ (m : Nat) (ov : Nat → O), (∀ i j, i < m → j < m → ov i = ov j → i = j) → (∀ i, i < m → ov i = .leaf ∨ ∃ p, p < 16 ∧ kd p = 1 ∧ (ov i = T p ∨ inS (T p) (ov i))) → m + 70 < 2000
/-- what comes where the model makes x for a place, if ok -/
def Kb (h : XH) (T : Nat → O) (ok : Prop) (x : O) (K : XK) : Prop :=
  ∀ (r : Int32) (h2 : XH) (m2 : Nat) (ov2 : Nat → O), Mo h2 m2 ov2 → Pl h2 m2 ov2 T → Fds h h2 → ((ok ∧ ∃ r2 : Nat, r.toInt = r2 ∧ r2 < m2 ∧ ov2 r2 = x) ∨ (¬ ok ∧ r.toInt = -1)) → K (some (.int r)) h2
section
variable {d : Nat} {h : XH} {y : Nat → Nat} {m : Nat} {ov T : Nat → O} {K : XK} {E : XE}
theorem t_beg (hd : 22 ≤ d) (hs : Sg h.1 y) (M : Mo h m ov) (hP : Pl h m ov T) (hL : LB0 (h.2.1 78) T)
    (kk : ∀ (h2 : XH) (m2 : Nat) (ov2 : Nat → O), Mo h2 m2 ov2 → Pl h2 m2 ov2 T → Fds h h2 → m2 + 70 < 2000 → K none h2) : Ca d m_X7_begin [.ref 77] h K E :=
  t_X7_begin hd hs M hP (fun h2 m2 ov2 M2 F2 P2 hn hl => kk h2 m2 ov2 M2 P2 ⟨F2.1, F2.2.1, fun r hr => ⟨F2.2.2.2.1 r (by omega) (by omega) (by omega), by rw [F2.2.2.1]⟩, fun s q1 _ q2 _ => F2.2.2.2.2 s q1 q2, by rw [F2.2.2.1], hn⟩ (by
    rcases hl with hl | hl
    · omega
    · exact hL m2 ov2 (fun i j q1 q2 q3 => M2.inj q1 q2 q3) hl))
theorem t_X7_isKind {a b : Int32} {p : Nat} (hd : 21 ≤ d) (hs : Sg h.1 y) (ha : a.toInt = p) (hp : p < 16) (k1 : h.2.1 78 p = b → K (some (.int 1)) h) (k0 : ¬ h.2.1 78 p = b → K (some (.int 0)) h) : Ca d m_X7_isKind [.ref 77, .int a, .int b] h K E := by
  obtain ⟨d, rfl⟩ : ∃ e, d = e + 1 := ⟨d - 1, by omega⟩
  refine w_X7_isKind (by omega) hs ⟨i_Ix ha hp, ?_⟩
  rw [i_ix ha]
  exact ⟨k0, fun w => k1 (Classical.not_not.mp w)⟩
theorem t_X7_areBoth {a b c : Int32} {p q : Nat} (hd : 21 ≤ d) (hs : Sg h.1 y) (ha : a.toInt = p) (hp : p < 16) (hb : b.toInt = q) (hq : q < 16) (k1 : h.2.1 78 p = c → h.2.1 78 q = c → K (some (.int 1)) h) (k0 : ¬ (h.2.1 78 p = c ∧ h.2.1 78 q = c) → K (some (.int 0)) h) : Ca d m_X7_areBoth [.ref 77, .int a, .int b, .int c] h K E := by
  obtain ⟨d, rfl⟩ : ∃ e, d = e + 1 := ⟨d - 1, by omega⟩
  refine w_X7_areBoth (by omega) hs ⟨i_Ix ha hp, ?_⟩
  rw [i_ix ha, i_ix hb]
  exact ⟨fun w => k0 (fun z => w z.1), fun w => ⟨i_Ix hb hq, fun z => k0 (fun v => z v.2), fun z => k1 (Classical.not_not.mp w) (Classical.not_not.mp z)⟩⟩
theorem t_X7_lays {a b c : Int32} {p : Nat} (hd : 21 ≤ d) (hs : Sg h.1 y) (ha : a.toInt = p) (hp : p < 16) (kk : ∀ h2, h2 = x_setI (x_setI h 78 p b) 79 p c → K none h2) : Ca d m_X7_lays [.ref 77, .int a, .int b, .int c] h K E := by
  obtain ⟨d, rfl⟩ : ∃ e, d = e + 1 := ⟨d - 1, by omega⟩
  refine w_X7_lays (by omega) hs ⟨i_Ix ha hp, fun h1 e1 => ⟨i_Ix ha hp, fun h2 e2 => kk h2 ?_⟩⟩
  rw [e2, e1, i_ix ha]
theorem t_X7_powerOf {a : Int32} {p : Nat} (hd : 25 ≤ d) (hs : Sg h.1 y) (M : Mo h m ov) (hP : Pl h m ov T) (hL : LB0 (h.2.1 78) T) (ha : a.toInt = p) (hp : p < 16) (hk : h.2.1 78 p = 1) (kk : Kb h T (okm (mk [(T p, 1)])) (mk [(T p, 1)]) K) : Ca d m_X7_powerOf [.ref 77, .int a] h K E := by
  obtain ⟨d, rfl⟩ : ∃ e, d = e + 1 := ⟨d - 1, by omega⟩
  refine w_X7_powerOf (by omega) hs (t_beg (by omega) hs M hP hL (fun h1 m1 ov1 M1 P1 F1 hm1 => ⟨rfl, F1.sg hs, fun h3 e3 => ?_⟩))
  obtain ⟨D3, F3⟩ := Dm.zero h1 m1 ov1
  have M3 := M1.zero
  rw [← e3] at D3 F3 M3
  have P3 : Pl h3 m1 ov1 T := P1.fr (F3.2.2.1 78 (by omega)).1 (F3.2.2.1 79 (by omega)).1 (Nat.le_refl _) (fun _ _ => rfl)
  have hs3 := F3.sg (F1.sg hs)
  obtain ⟨c, c1, c2, c3⟩ := P3 p hp (by rw [(F3.2.2.1 78 (by omega)).1, (F1.2.2.1 78 (by omega)).1]; exact hk)
  refine ⟨i_Ix ha hp, ?_⟩
  rw [i_ix ha]
  refine t_X7_adds (n := 1) (x := T p) (j := c) (by omega) hs3 D3 (by simp) c2 c1 c3 rfl (fun h4 D4 F4 a4 b4 => ⟨rfl, F4.sg hs3, t_X7_makes (by omega) (F4.sg hs3) (M3.add a4 b4) D4 ⟨by omega, top_nil _, ?_, trivial⟩ (by omega) (fun r h2 m2 ov2 x1 x2 x3 x4 x5 x6 => ?_)⟩)
  · rw [← c3]; exact (M1.good c1).1
  · have F5 : Fmk h3 h2 := F4.tr x4
    have P5 : Pl h2 m2 ov2 T := P3.fr (F5.2.2.1 78 (by omega)).1 (F5.2.2.1 79 (by omega)).1 x2 x1
    exact ⟨r, rfl, F5.sg hs3, kk r h2 m2 ov2 x5 P5 (F1.tr (F3.tr F5).mo.ds) x6⟩
theorem t_X7_stepOf {a b : Int32} {p nn : Nat} (hd : 30 ≤ d) (hs : Sg h.1 y) (M : Mo h m ov) (hP : Pl h m ov T) (hL : LB0 (h.2.1 78) T) (ha : a.toInt = p) (hp : p < 16) (hb : b.toInt = nn) (h1n : 1 ≤ nn) (hn2 : nn ≤ 1000000) (kk : Kb h T (h.2.1 78 p = 1 ∧ ¬ T p = .leaf ∧ stpok nn 5 (T p)) (stpF nn 5 (T p)) K) : Ca d m_X7_stepOf [.ref 77, .int a, .int b] h K E := by
  obtain ⟨d, rfl⟩ : ∃ e, d = e + 1 := ⟨d - 1, by omega⟩
  refine w_X7_stepOf (by omega) hs (t_beg (by omega) hs M hP hL (fun h1 m1 ov1 M1 P1 F1 hm1 => ⟨rfl, F1.sg hs, ?_⟩))
  have hs1 := F1.sg hs
  have a78 : h1.2.1 78 = h.2.1 78 := (F1.2.2.1 78 (by omega)).1
  refine t_X7_isKind (by omega) hs1 ha hp (fun z => ⟨1, rfl, hs1, fun w => absurd w (by decide), fun _ => ⟨i_Ix ha hp, ?_⟩⟩) (fun z => ⟨0, rfl, hs1, fun _ => kk (-1) h1 m1 ov1 M1 P1 F1 (Or.inr ⟨fun w => z (by rw [a78]; exact w.1), rfl⟩), fun w => absurd rfl w⟩)
  rw [i_ix ha]
  obtain ⟨c, c1, c2, c3⟩ := P1 p hp z
  have hne := M1.ne c1
  refine ⟨fun w => kk (-1) h1 m1 ov1 M1 P1 F1 (Or.inr ⟨fun v => v.2.1 (c3.symm.trans (hne.mpr (by have := i_ne.mp w; omega))), rfl⟩), fun w => ⟨i_Ix ha hp, ?_⟩⟩
  have hnl : ¬ ov1 c = .leaf := fun v => w (i_ne.mpr (by have := hne.mp v; omega))
  refine t_X7_stepped (i := c) (nn := nn) (by omega) hs1 M1 c2 hb h1n hn2 c1 hnl (by omega) (fun r h2 m2 ov2 x1 x2 x3 x4 x5 x6 => ⟨r, rfl, x4.sg hs1, ?_⟩)
  have P5 : Pl h2 m2 ov2 T := P1.fr (x4.2.2.1 78 (by omega)).1 (x4.2.2.1 79 (by omega)).1 x2 x1
  rw [c3] at x6 hnl
  refine kk r h2 m2 ov2 x5 P5 (F1.tr x4.ds) ?_
  rcases x6 with ⟨ok, q⟩ | ⟨nok, q⟩
  · exact Or.inl ⟨⟨by rw [← a78]; exact z, hnl, ok⟩, q⟩
  · exact Or.inr ⟨fun v => nok v.2.2, q⟩
end
