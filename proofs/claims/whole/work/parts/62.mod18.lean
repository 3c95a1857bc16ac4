/-! ===== layer 2: the model's step ===== -/
section
variable {d : Nat} {h : XH} {y : Nat → Nat} {m : Nat} {ov T : Nat → O} {K : XK} {E : XE}
theorem t_X7_step {a b c : Int32} {p q : Nat} (hd : 33 ≤ d) (hs : Sg h.1 y) (M : Mo h m ov) (hP : Pl h m ov T) (hL : LB0 (h.2.1 78) T) (ha : isp a → a.toInt = p ∧ p < 16) (hb : isp b → b.toInt = q ∧ q < 16)
    (k0 : ∀ nn : Nat, isp a → isp b → c.toInt = nn → 1 ≤ nn → nn ≤ 99 → h.2.1 78 q = 1 → ¬ T q = .leaf → stpok nn 5 (T q) → Kn (x_setI h 77 0 0) T p True (stpF nn 5 (T q)) K) (k1 : ¬ (isp a ∧ isp b) → K none (x_setI h 77 0 1))
    (k2 : isp a → isp b → ¬ (1 ≤ c.toInt ∧ c.toInt ≤ 99) → K none (x_setI h 77 0 2))
    (k3 : ∀ nn : Nat, isp a → isp b → c.toInt = nn → 1 ≤ nn → nn ≤ 99 → ¬ (h.2.1 78 q = 1 ∧ ¬ T q = .leaf ∧ stpok nn 5 (T q)) → ∀ (h2 : XH) (m2 : Nat) (ov2 : Nat → O), Mo h2 m2 ov2 → Pl h2 m2 ov2 T → Fds (x_setI h 77 0 3) h2 → K none h2) : Ca d m_X7_step [.ref 77, .int a, .int b, .int c] h K E := by
  obtain ⟨d, rfl⟩ : ∃ e, d = e + 1 := ⟨d - 1, by omega⟩
  have e99 : (99 : Int64).toInt = 99 := rfl
  have e1 : (1 : Int64).toInt = 1 := rfl
  have cnd : (1 ≤ ((c : Int32).toInt64) ∧ ((c : Int32).toInt64) ≤ 99) ↔ (1 ≤ c.toInt ∧ c.toInt ≤ 99) := by
    rw [j_le, j_le, i_2j, e99, e1]
  have no1 : ¬ (isp a ∧ isp b) → b_X7_step_18 d 77 a b c none none none h K E := fun z => by
    refine w_X7_step_18 (by omega) hs (w_X7_step_19 (by omega) hs ⟨fun _ => w_X7_step_51 (by omega) hs (w_X7_step_52 (by omega) hs ⟨fun v => absurd rfl v, fun _ => w_X7_step_84 (by omega) hs (fun h1 e1 => ⟨fun v => absurd v (by decide), fun _ => by rw [e1]; exact k1 z⟩)⟩), fun v => absurd rfl v⟩)
  refine w_X7_step (by omega) hs ⟨fun z1 => ⟨fun z2 => ?_, fun z2 => no1 (fun w => z2 w.2)⟩, fun z1 => no1 (fun w => z1 w.1)⟩
  obtain ⟨a1, a2⟩ := ha z1
  obtain ⟨b1, b2⟩ := hb z2
  have n10 : ¬ (1 : Int32) = 0 := by decide
  refine w_X7_step_19 (by omega) hs ⟨fun v => absurd v n10, fun _ => ⟨fun w => ?_, fun w => ?_⟩⟩
  · have hbi := bi_ne.mpr w
    rw [cnd] at w
    obtain ⟨nn, hc⟩ : ∃ k : Nat, c.toInt = k := ⟨c.toInt.toNat, by omega⟩
    refine t_X7_stepOf (nn := nn) (by omega) hs M hP hL b1 b2 hc (by omega) (by omega) (fun r h2 m2 ov2 M2 P2 F2 hr => ⟨r, rfl, F2.sg hs, ?_⟩)
    have hs2 := F2.sg hs
    have em : (-1 : Int32).toInt = -1 := rfl
    rcases hr with ⟨ok, r2, q1, q2, q3⟩ | ⟨no, q1⟩
    · have hne : ¬ r = -1 := fun w => by rw [w, em] at q1; omega
      refine w_X7_step_52 (by omega) hs2 ⟨fun _ => ⟨fun _ => ⟨fun _ => w_X7_step_84 (by omega) hs2 (fun h3 e3 => ⟨fun _ => ?_, fun v => absurd rfl v⟩), fun v => absurd hne v⟩, fun v => absurd hbi v⟩, fun v => absurd n10 v⟩
      have hs3 : Sg h3.1 y := by rw [e3]; exact hs2
      have M3 := M2.st 0
      have P3 := P2.st 0
      have F3 := F2.st 0
      rw [← e3] at M3 P3 F3
      refine t_X7_lays (by omega) hs3 a1 a2 (fun h4 e4 => ?_)
      obtain ⟨M4, P4, F4⟩ := laid M3 P3 F3 q1 q2 q3 e4
      exact ⟨rfl, by rw [F4.1]; exact hs, (k0 nn z1 z2 hc (by omega) (by omega) ok.1 ok.2.1 ok.2.2).1 h4 m2 ov2 trivial M4 P4 F4⟩
    · have he : r = -1 := Int32.toInt_inj.mp q1
      refine w_X7_step_52 (by omega) hs2 ⟨fun _ => ⟨fun _ => ⟨fun v => absurd he v, fun _ => w_X7_step_84 (by omega) hs2 (fun h3 e3 => ⟨fun v => absurd v (by decide), fun _ => ?_⟩)⟩, fun v => absurd hbi v⟩, fun v => absurd n10 v⟩
      have M3 := M2.st 3
      have P3 := P2.st 3
      have F3 := F2.st 3
      rw [← e3] at M3 P3 F3
      exact k3 nn z1 z2 hc (by omega) (by omega) no h3 m2 ov2 M3 P3 F3
  · have hbi : ¬ ¬ bi (1 ≤ ((c : Int32).toInt64) ∧ ((c : Int32).toInt64) ≤ 99) = 0 := fun v => w (bi_ne.mp v)
    rw [cnd] at w
    exact w_X7_step_51 (by omega) hs (w_X7_step_52 (by omega) hs ⟨fun _ => ⟨fun v => absurd v hbi, fun _ => w_X7_step_84 (by omega) hs (fun h1 e1 => ⟨fun v => absurd v (by decide), fun _ => by rw [e1]; exact k2 z1 z2 w⟩)⟩, fun v => absurd n10 v⟩)
end
