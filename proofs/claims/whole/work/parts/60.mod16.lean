/-! ===== layer 2: the model's finite and omega ===== -/
/-- what comes where x is laid at p, if ok; nothing is told -/
def Kn (h : XH) (T : Nat → O) (p : Nat) (ok : Prop) (x : O) (K : XK) : Prop :=
  (∀ (h2 : XH) (m2 : Nat) (ov2 : Nat → O), ok → Mo h2 m2 ov2 → Pl h2 m2 ov2 (upw T p x) → Fla False p h h2 → K none h2) ∧
  (∀ (h2 : XH) (m2 : Nat) (ov2 : Nat → O), ¬ ok → Mo h2 m2 ov2 → Pl h2 m2 ov2 T → Fds h h2 → K none h2)
theorem Fds.st {h h1 : XH} (F : Fds h h1) (v : Int32) : Fds (x_setI h 77 0 v) (x_setI h1 77 0 v) := by
  refine ⟨F.1, F.2.1, fun r hr => ⟨?_, (F.2.2.1 r hr).2⟩, fun s q1 q2 q3 q4 => ?_, F.2.2.2.2.1, fun q hq hk => ?_⟩
  · rw [sI_nq _ _ (by omega), sI_nq _ _ (by omega)]; exact (F.2.2.1 r hr).1
  · by_cases z : s = 0
    · rw [z, sI_eq, sI_eq]
    · rw [sI_ne _ _ z, sI_ne _ _ z]; exact F.2.2.2.1 s q1 q2 q3 q4
  · rw [sI_nq _ _ (by omega)] at hk
    rw [sI_nq _ _ (by omega), sI_nq _ _ (by omega)]
    exact F.2.2.2.2.2 q hq hk
theorem Fds.rf (h : XH) : Fds h h := ⟨rfl, rfl, fun _ _ => ⟨rfl, rfl⟩, fun _ _ _ _ _ => rfl, rfl, fun _ _ _ => rfl⟩
theorem Mo.st {h : XH} {m : Nat} {ov : Nat → O} (M : Mo h m ov) (v : Int32) : Mo (x_setI h 77 0 v) m ov := M.fr (sI_ne _ _ (by omega)) (fun r _ _ => sI_nq _ _ (by omega))
theorem Pl.st {h : XH} {m : Nat} {ov T : Nat → O} (P : Pl h m ov T) (v : Int32) : Pl (x_setI h 77 0 v) m ov T := P.fr (sI_nq _ _ (by omega)) (sI_nq _ _ (by omega)) (Nat.le_refl _) (fun _ _ => rfl)
section
variable {d : Nat} {h : XH} {y : Nat → Nat} {m : Nat} {ov T : Nat → O} {K : XK} {E : XE}
theorem t_X7_finite {a b : Int32} {p n : Nat} (hd : 30 ≤ d) (hs : Sg h.1 y) (M : Mo h m ov) (hP : Pl h m ov T) (hL : LB0 (h.2.1 78) T) (ha : isp a → a.toInt = p ∧ p < 16) (hb : 0 ≤ b.toInt → b.toInt = n)
    (k0 : isp a → (0 ≤ b.toInt ∧ b.toInt ≤ 1000000) → Kn (x_setI h 77 0 0) T p True (mk (if 0 < n then [(.leaf, n)] else [])) K) (k1 : ¬ isp a → K none (x_setI h 77 0 1)) (k2 : isp a → ¬ (0 ≤ b.toInt ∧ b.toInt ≤ 1000000) → K none (x_setI h 77 0 2)) : Ca d m_X7_finite [.ref 77, .int a, .int b] h K E := by
  obtain ⟨d, rfl⟩ : ∃ e, d = e + 1 := ⟨d - 1, by omega⟩
  have eM : (1000000 : Int64).toInt = 1000000 := rfl
  have e0 : (0 : Int64).toInt = 0 := rfl
  have cnd : (0 ≤ ((b : Int32).toInt64) ∧ ((b : Int32).toInt64) ≤ 1000000) ↔ (0 ≤ b.toInt ∧ b.toInt ≤ 1000000) := by
    rw [j_le, j_le, i_2j, eM, e0]
  refine w_X7_finite (by omega) hs ⟨fun z => ⟨fun w => ?_, fun w => ?_⟩, fun z => ?_⟩
  · rw [cnd] at w
    obtain ⟨a1, a2⟩ := ha z
    have b1 := hb w.1
    refine w_X7_finite_29 (by omega) hs (fun h1 e1 => ⟨fun _ => ?_, fun v => absurd rfl v⟩)
    have hs1 : Sg h1.1 y := by rw [e1]; exact hs
    have M1 := M.st 0
    have P1 := hP.st 0
    rw [← e1] at M1 P1
    have k := k0 z w
    rw [← e1] at k
    refine t_beg (by omega) hs1 M1 P1 (by rw [e1, sI_nq _ _ (by omega)]; exact hL) (fun h2 m2 ov2 M2 P2 F2 hm2 => ⟨rfl, F2.sg hs1, t_X7_finiteOne (by omega) (F2.sg hs1) M2 b1 (by omega) (by omega) (fun r h3 m3 ov3 x1 x2 x3 x4 x5 x6 => ⟨r, rfl, x4.sg (F2.sg hs1), ?_⟩)⟩)
    have F3 : Fds h1 h3 := F2.tr x4.mo.ds
    have P3 : Pl h3 m3 ov3 T := P2.fr (x4.2.2.1 78 (by omega)).1 (x4.2.2.1 79 (by omega)).1 x2 x1
    rcases x6 with ⟨_, r2, q1, q2, q3⟩ | ⟨no, _⟩
    · refine t_X7_lays (by omega) (F3.sg hs1) a1 a2 (fun h4 e4 => ?_)
      obtain ⟨M4, P4, F4⟩ := laid x5 P3 F3 q1 q2 q3 e4
      exact ⟨rfl, by rw [F4.1]; exact hs1, k.1 h4 m3 ov3 trivial M4 P4 F4⟩
    · exact absurd trivial no
  · rw [cnd] at w
    exact w_X7_finite_29 (by omega) hs (fun h1 e1 => ⟨fun v => absurd v (by decide), fun _ => by rw [e1]; exact k2 z w⟩)
  · exact w_X7_finite_29 (by omega) hs (fun h1 e1 => ⟨fun v => absurd v (by decide), fun _ => by rw [e1]; exact k1 z⟩)
theorem t_X7_omega {a b : Int32} {p q : Nat} (hd : 30 ≤ d) (hs : Sg h.1 y) (M : Mo h m ov) (hP : Pl h m ov T) (hL : LB0 (h.2.1 78) T) (ha : isp a → a.toInt = p ∧ p < 16) (hb : isp b → b.toInt = q ∧ q < 16)
    (k0 : isp a → isp b → h.2.1 78 q = 1 → okm (mk [(T q, 1)]) → Kn (x_setI h 77 0 0) T p True (mk [(T q, 1)]) K) (k1 : ¬ (isp a ∧ isp b) → K none (x_setI h 77 0 1))
    (k2 : isp a → isp b → ¬ (h.2.1 78 q = 1 ∧ okm (mk [(T q, 1)])) → ∀ (h2 : XH) (m2 : Nat) (ov2 : Nat → O), Mo h2 m2 ov2 → Pl h2 m2 ov2 T → Fds (x_setI h 77 0 2) h2 → K none h2) : Ca d m_X7_omega [.ref 77, .int a, .int b] h K E := by
  obtain ⟨d, rfl⟩ : ∃ e, d = e + 1 := ⟨d - 1, by omega⟩
  have no1 : ¬ (isp a ∧ isp b) → b_X7_omega_18 d 77 a b none none h K E := fun z => by
    refine w_X7_omega_18 (by omega) hs (w_X7_omega_19 (by omega) hs ⟨fun _ => w_X7_omega_41 (by omega) hs (w_X7_omega_42 (by omega) hs ⟨fun v => absurd rfl v, fun _ => w_X7_omega_64 (by omega) hs (fun h1 e1 => ⟨fun v => absurd v (by decide), fun _ => by rw [e1]; exact k1 z⟩)⟩), fun v => absurd rfl v⟩)
  refine w_X7_omega (by omega) hs ⟨fun z1 => ⟨fun z2 => ?_, fun z2 => no1 (fun w => z2 w.2)⟩, fun z1 => no1 (fun w => z1 w.1)⟩
  obtain ⟨a1, a2⟩ := ha z1
  obtain ⟨b1, b2⟩ := hb z2
  refine w_X7_omega_19 (by omega) hs ⟨fun v => absurd v (by decide), fun _ => t_X7_isKind (by omega) hs b1 b2 (fun hk => ⟨1, rfl, hs, fun v => absurd v (by decide), fun _ => ?_⟩) (fun hk => ⟨0, rfl, hs, fun _ => ?_, fun v => absurd rfl v⟩)⟩
  · refine t_X7_powerOf (by omega) hs M hP hL b1 b2 hk (fun r h2 m2 ov2 M2 P2 F2 hr => ⟨r, rfl, F2.sg hs, ?_⟩)
    have hs2 := F2.sg hs
    have em : (-1 : Int32).toInt = -1 := rfl
    rcases hr with ⟨ok, r2, q1, q2, q3⟩ | ⟨no, q1⟩
    · have hne : ¬ r = -1 := fun w => by rw [w, em] at q1; omega
      refine w_X7_omega_42 (by omega) hs2 ⟨fun _ => ⟨fun _ => w_X7_omega_64 (by omega) hs2 (fun h3 e3 => ⟨fun _ => ?_, fun v => absurd rfl v⟩), fun v => absurd hne v⟩, fun v => absurd (show ¬ (1 : Int32) = 0 by decide) v⟩
      have hs3 : Sg h3.1 y := by rw [e3]; exact hs2
      have M3 := M2.st 0
      have P3 := P2.st 0
      have F3 := F2.st 0
      rw [← e3] at M3 P3 F3
      refine t_X7_lays (by omega) hs3 a1 a2 (fun h4 e4 => ?_)
      obtain ⟨M4, P4, F4⟩ := laid M3 P3 F3 q1 q2 q3 e4
      exact ⟨rfl, by rw [F4.1]; exact hs, (k0 z1 z2 hk ok).1 h4 m2 ov2 trivial M4 P4 F4⟩
    · have he : r = -1 := Int32.toInt_inj.mp q1
      refine w_X7_omega_42 (by omega) hs2 ⟨fun _ => ⟨fun v => absurd he v, fun _ => w_X7_omega_64 (by omega) hs2 (fun h3 e3 => ⟨fun v => absurd v (by decide), fun _ => ?_⟩)⟩, fun v => absurd (show ¬ (1 : Int32) = 0 by decide) v⟩
      have M3 := M2.st 2
      have P3 := P2.st 2
      have F3 := F2.st 2
      rw [← e3] at M3 P3 F3
      exact k2 z1 z2 (fun w => no w.2) h3 m2 ov2 M3 P3 F3
  · refine w_X7_omega_41 (by omega) hs (w_X7_omega_42 (by omega) hs ⟨fun _ => ⟨fun v => absurd rfl v, fun _ => w_X7_omega_64 (by omega) hs (fun h3 e3 => ⟨fun v => absurd v (by decide), fun _ => ?_⟩)⟩, fun v => absurd (show ¬ (1 : Int32) = 0 by decide) v⟩)
    rw [e3]
    exact k2 z1 z2 (fun w => hk w.1) _ m ov (M.st 2) (hP.st 2) (Fds.rf _)
end
