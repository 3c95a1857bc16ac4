/-! ===== layer 2: the model's exponent and step ===== -/
section
variable {d : Nat} {h : XH} {y : Nat → Nat} {m : Nat} {ov T : Nat → O} {K : XK} {E : XE}
theorem t_X7_hasPower {a c : Int32} {p : Nat} (hd : 22 ≤ d) (hs : Sg h.1 y) (M : Mo h m ov) (hP : Pl h m ov T) (ha : a.toInt = p) (hp : p < 16)
    (k1 : h.2.1 78 p = 1 → c.toInt < (pl (T p)).length → K (some (.int 1)) h) (k0 : ¬ (h.2.1 78 p = 1 ∧ c.toInt < (pl (T p)).length) → K (some (.int 0)) h) : Ca d m_X7_hasPower [.ref 77, .int a, .int c] h K E := by
  obtain ⟨d, rfl⟩ : ∃ e, d = e + 1 := ⟨d - 1, by omega⟩
  have hm := M.1.2.2
  refine w_X7_hasPower (by omega) hs (t_X7_isKind (by omega) hs ha hp (fun z => ⟨1, rfl, hs, fun w => absurd w (by decide), fun _ => ⟨i_Ix ha hp, ?_⟩⟩) (fun z => ⟨0, rfl, hs, fun _ => k0 (fun w => z w.1), fun w => absurd rfl w⟩))
  rw [i_ix ha]
  obtain ⟨i, i1, i2, i3⟩ := hP p hp z
  have s2 := M.2.2.1 i i1
  rw [i3] at s2
  refine ⟨i_Ix i2 (by omega), ?_⟩
  rw [i_ix i2]
  refine ⟨fun w => k0 (fun v => ?_), fun w => k1 z ?_⟩
  · have := i_le.mp w
    omega
  · exact Classical.byContradiction (fun q => w (i_le.mpr (by omega)))
theorem t_X7_exponent {a b c : Int32} {p q : Nat} (hd : 30 ≤ d) (hs : Sg h.1 y) (M : Mo h m ov) (hP : Pl h m ov T) (ha : isp a → a.toInt = p ∧ p < 16) (hb : isp b → b.toInt = q ∧ q < 16)
    (k0 : ∀ (k : Nat) (e : O) (n : Nat), isp a → isp b → c.toInt = k → h.2.1 78 q = 1 → (pl (T q))[k]? = some (e, n) → Kn (x_setI h 77 0 0) T p True e K) (k1 : ¬ (isp a ∧ isp b ∧ 0 ≤ c.toInt) → K none (x_setI h 77 0 1))
    (k2 : isp a → isp b → 0 ≤ c.toInt → ¬ (h.2.1 78 q = 1 ∧ c.toInt < (pl (T q)).length) → K none (x_setI h 77 0 2)) : Ca d m_X7_exponent [.ref 77, .int a, .int b, .int c] h K E := by
  obtain ⟨d, rfl⟩ : ∃ e, d = e + 1 := ⟨d - 1, by omega⟩
  have hm := M.1.2.2
  have no1 : ¬ (isp a ∧ isp b ∧ 0 ≤ c.toInt) → b_X7_exponent_22 d 77 a b c none h K E := fun z => by
    refine w_X7_exponent_22 (by omega) hs (w_X7_exponent_23 (by omega) hs ⟨fun v => absurd rfl v, fun _ => w_X7_exponent_49 (by omega) hs (fun h1 e1 => ⟨fun v => absurd v (by decide), fun _ => by rw [e1]; exact k1 z⟩)⟩)
  refine w_X7_exponent (by omega) hs ⟨fun z1 => ⟨fun z2 => ⟨fun z3 => no1 (fun w => ?_), fun z3 => ?_⟩, fun z2 => no1 (fun w => z2 w.2.1)⟩, fun z1 => no1 (fun w => z1 w.1)⟩
  · rw [i_lt, i_0] at z3
    omega
  rw [i_lt, i_0] at z3
  obtain ⟨a1, a2⟩ := ha z1
  obtain ⟨b1, b2⟩ := hb z2
  refine w_X7_exponent_23 (by omega) hs ⟨fun _ => t_X7_hasPower (by omega) hs M hP b1 b2 (fun hk hl => ⟨1, rfl, hs, fun _ => ?_, fun v => absurd (show ¬ (1 : Int32) = 0 by decide) v⟩) (fun hk => ⟨0, rfl, hs, fun v => absurd rfl v, fun _ => ?_⟩), fun v => absurd (show ¬ (1 : Int32) = 0 by decide) v⟩
  · refine w_X7_exponent_49 (by omega) hs (fun h1 e1 => ⟨fun _ => ?_, fun v => absurd rfl v⟩)
    have hs1 : Sg h1.1 y := by rw [e1]; exact hs
    have M1 := M.st 0
    have P1 := hP.st 0
    have F1 := Fds.rf (x_setI h 77 0 0)
    have a78 : h1.2.1 78 = h.2.1 78 := by rw [e1]; exact sI_nq _ _ (by omega)
    rw [← e1] at M1 P1
    obtain ⟨i, i1, i2, i3⟩ := P1 q b2 (by rw [a78]; exact hk)
    obtain ⟨k, hc⟩ : ∃ k : Nat, c.toInt = k := ⟨c.toInt.toNat, by omega⟩
    rw [hc] at hl
    obtain ⟨e, n, g⟩ := getc (A := pl (T q)) (m := k) (by omega)
    have li := M1.len i1
    rw [i3] at li
    have g2 := g
    rw [← i3] at g2
    obtain ⟨j, j1, j2, j3, _⟩ := M1.pw i1 g2
    refine ⟨i_Ix b1 b2, ?_⟩
    rw [i_ix b1]
    have e8 := e8k (h1.2.1 79 q) c i2 (by omega) hc (by omega)
    refine ⟨i_Ix e8 (by omega), ?_⟩
    rw [i_ix e8]
    refine t_X7_lays (by omega) hs1 a1 a2 (fun h4 e4 => ?_)
    obtain ⟨M4, P4, F4⟩ := laid M1 P1 (by rw [e1]; exact F1) j3 (by omega) j2 e4
    exact ⟨rfl, by rw [F4.1]; exact hs, (k0 k e n z1 z2 hc hk g).1 h4 m ov trivial M4 P4 F4⟩
  · exact w_X7_exponent_49 (by omega) hs (fun h1 e1 => ⟨fun v => absurd v (by decide), fun _ => by rw [e1]; exact k2 z1 z2 (by omega) hk⟩)
end
