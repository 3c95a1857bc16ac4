/-! ===== layer 2: the model lays ordinals ===== -/
def upw {α : Type} (f : Nat → α) (p : Nat) (x : α) : Nat → α := fun q => if q = p then x else f q
/-- what laying at place p may change; w: the status too -/
def Fla (w : Prop) (p : Nat) (h h2 : XH) : Prop := h2.1 = h.1 ∧ h2.2.2.2 = h.2.2.2 ∧ (∀ r, (r ≤ 76 ∨ 90 ≤ r) → h2.2.1 r = h.2.1 r ∧ h2.2.2.1 r = h.2.2.1 r) ∧ (∀ s, (s = 0 → ¬ w) → s ≠ 7 → s ≠ 11 → s ≠ 15 → s ≠ 27 → h2.2.1 77 s = h.2.1 77 s) ∧ h2.2.2.1 77 = h.2.2.1 77 ∧ h2.2.1 78 = upw (h.2.1 78) p 1 ∧ h2.2.2.1 78 = h.2.2.1 78 ∧ ∀ q, q < 16 → q ≠ p → ¬ h.2.1 78 q = 1 → h2.2.1 79 q = h.2.1 79 q
/-- what comes where x is laid at p, if ok -/
def Kl (h : XH) (T : Nat → O) (p : Nat) (ok : Prop) (x : O) (K : XK) : Prop :=
  (∀ (h2 : XH) (m2 : Nat) (ov2 : Nat → O), ok → Mo h2 m2 ov2 → Pl h2 m2 ov2 (upw T p x) → Fla False p h h2 → K (some (.int 1)) h2) ∧
  (∀ (h2 : XH) (m2 : Nat) (ov2 : Nat → O), ¬ ok → Mo h2 m2 ov2 → Pl h2 m2 ov2 T → Fds h h2 → K (some (.int 0)) h2)
section
variable {d : Nat} {h : XH} {y : Nat → Nat} {m : Nat} {ov T : Nat → O} {K : XK} {E : XE}
theorem laid {h1 h2 : XH} {m1 : Nat} {ov1 : Nat → O} {p r2 : Nat} {c : Int32} {x : O} (M1 : Mo h1 m1 ov1) (P1 : Pl h1 m1 ov1 T) (F1 : Fds h h1) (hc : c.toInt = r2) (h2r : r2 < m1) (hx : ov1 r2 = x) (e2 : h2 = x_setI (x_setI h1 78 p 1) 79 p c) : Mo h2 m1 ov1 ∧ Pl h2 m1 ov1 (upw T p x) ∧ Fla False p h h2 := by
  have a78 : ∀ q, h2.2.1 78 q = if q = p then 1 else h1.2.1 78 q := fun q => by
    rw [e2, sI_nq _ _ (by omega)]
    by_cases z : q = p
    · rw [if_pos z, z, sI_eq]
    · rw [if_neg z, sI_ne _ _ z]
  have a79 : ∀ q, q ≠ p → h2.2.1 79 q = h1.2.1 79 q := fun q z => by rw [e2, sI_ne _ _ z, sI_nq _ _ (by omega)]
  have b79 : h2.2.1 79 p = c := by rw [e2, sI_eq]
  have ar : ∀ r, r ≠ 78 → r ≠ 79 → h2.2.1 r = h1.2.1 r := fun r q1 q2 => by rw [e2, sI_nq _ _ q2, sI_nq _ _ q1]
  have aj : h2.2.2.1 = h1.2.2.1 := by rw [e2]; rfl
  refine ⟨M1.fr (by rw [ar 77 (by omega) (by omega)]) (fun r _ _ => ar r (by omega) (by omega)), fun q hq hk => ?_, ?_⟩
  · by_cases z : q = p
    · exact ⟨r2, h2r, by rw [z, b79]; exact hc, by unfold upw; rw [if_pos z]; exact hx⟩
    · rw [a78, if_neg z] at hk
      obtain ⟨c, c1, c2, c3⟩ := P1 q hq hk
      exact ⟨c, c1, by rw [a79 q z]; exact c2, by unfold upw; rw [if_neg z]; exact c3⟩
  · refine ⟨by rw [e2]; exact F1.1, by rw [e2]; exact F1.2.1, fun r hr => ⟨(ar r (by omega) (by omega)).trans (F1.2.2.1 r (by omega)).1, by rw [aj]; exact (F1.2.2.1 r (by omega)).2⟩, fun s _ q1 q2 q3 q4 => by rw [ar 77 (by omega) (by omega)]; exact F1.2.2.2.1 s q1 q2 q3 q4, by rw [aj]; exact F1.2.2.2.2.1, ?_, by rw [aj]; exact (F1.2.2.1 78 (by omega)).2, fun q hq z hk => (a79 q z).trans (F1.2.2.2.2.2 q hq hk)⟩
    funext q
    rw [a78]
    unfold upw
    rw [(F1.2.2.1 78 (by omega)).1]
theorem t_X7_setsOrdinal {a r : Int32} {h1 : XH} {m1 p : Nat} {ov1 : Nat → O} {ok : Prop} {x : O} (hd : 23 ≤ d) (hs : Sg h.1 y) (M1 : Mo h1 m1 ov1) (P1 : Pl h1 m1 ov1 T) (F1 : Fds h h1) (ha : a.toInt = p) (hp : p < 16) (hr : (ok ∧ ∃ r2 : Nat, r.toInt = r2 ∧ r2 < m1 ∧ ov1 r2 = x) ∨ (¬ ok ∧ r.toInt = -1)) (kk : Kl h T p ok x K) : Ca d m_X7_setsOrdinal [.ref 77, .int a, .int r] h1 K E := by
  obtain ⟨d, rfl⟩ : ∃ e, d = e + 1 := ⟨d - 1, by omega⟩
  have hs1 := F1.sg hs
  have em : (-1 : Int32).toInt = -1 := rfl
  rcases hr with ⟨hok, r2, k1, k2, k3⟩ | ⟨nok, k1⟩
  · have hne : ¬ r = -1 := fun w => by rw [w, em] at k1; omega
    refine w_X7_setsOrdinal (by omega) hs1 ⟨fun w => absurd w hne, fun _ => t_X7_lays (by omega) hs1 ha hp (fun h2 e2 => ?_)⟩
    obtain ⟨M2, P2, F2⟩ := laid M1 P1 F1 k1 k2 k3 e2
    have hs2 : Sg h2.1 y := by rw [F2.1]; exact hs
    exact ⟨rfl, hs2, w_X7_setsOrdinal_12 (by omega) hs2 ⟨fun w => absurd w hne, fun _ => kk.1 h2 m1 ov1 hok M2 P2 F2⟩⟩
  · have he : r = -1 := Int32.toInt_inj.mp k1
    refine w_X7_setsOrdinal (by omega) hs1 ⟨fun _ => w_X7_setsOrdinal_12 (by omega) hs1 ⟨fun _ => kk.2 h1 m1 ov1 nok M1 P1 F1, fun w => absurd he w⟩, fun w => absurd he w⟩
theorem t_X7_setsNatural {a b c e : Int32} {p q r : Nat} (hd : 32 ≤ d) (hs : Sg h.1 y) (M : Mo h m ov) (hP : Pl h m ov T) (hL : LB0 (h.2.1 78) T) (ha : a.toInt = p) (hp : p < 16) (hb : b.toInt = q) (hq : q < 16) (hc : c.toInt = r) (hr : r < 16)
    (kk : Kl h T p (h.2.1 78 q = 1 ∧ h.2.1 78 r = 1 ∧ if e = 0 then okm (naO (T q) (T r)) else nmok (T q) (T r)) (if e = 0 then naO (T q) (T r) else nmO (T q) (T r)) K) : Ca d m_X7_setsNatural [.ref 77, .int a, .int b, .int c, .int e] h K E := by
  obtain ⟨d, rfl⟩ : ∃ e, d = e + 1 := ⟨d - 1, by omega⟩
  refine w_X7_setsNatural (by omega) hs (t_beg (by omega) hs M hP hL (fun h1 m1 ov1 M1 P1 F1 hm1 => ⟨rfl, F1.sg hs, ?_⟩))
  have hs1 := F1.sg hs
  have a78 : h1.2.1 78 = h.2.1 78 := (F1.2.2.1 78 (by omega)).1
  refine t_X7_areBoth (by omega) hs1 hb hq hc hr (fun z1 z2 => ⟨1, rfl, hs1, fun w => absurd w (by decide), fun _ => ?_⟩) (fun z => ⟨0, rfl, hs1, fun _ => kk.2 h1 m1 ov1 (fun w => z ⟨by rw [a78]; exact w.1, by rw [a78]; exact w.2.1⟩) M1 P1 F1, fun w => absurd rfl w⟩)
  obtain ⟨i, i1, i2, i3⟩ := P1 q hq z1
  obtain ⟨j, j1, j2, j3⟩ := P1 r hr z2
  rw [i_ix hb, i_ix hc]
  rw [a78] at z1 z2
  have fin : ∀ (x : O) (ok : Prop) (x6 : Int32) (h2 : XH) (m2 : Nat) (ov2 : Nat → O), Mo h2 m2 ov2 → Pl h2 m2 ov2 T → Fds h h2 → ((ok ∧ ∃ r2 : Nat, x6.toInt = r2 ∧ r2 < m2 ∧ ov2 r2 = x) ∨ (¬ ok ∧ x6.toInt = -1)) → Kl h T p ok x K → b_X7_setsNatural_56 d (some (.ref 77)) (some (.int a)) (some (.int b)) (some (.int c)) (some (.int e)) x6 a 77 h2 K E := by
    intro x ok x6 h2 m2 ov2 M2 P2 F2 hx kl
    refine w_X7_setsNatural_56 (by omega) (F2.sg hs) (t_X7_setsOrdinal (by omega) hs M2 P2 F2 ha hp hx ⟨fun h3 m3 ov3 o M3 P3 F3 => ⟨1, rfl, by rw [F3.1]; exact hs, fun z => absurd z (by decide), fun _ => kl.1 h3 m3 ov3 o M3 P3 F3⟩, fun h3 m3 ov3 o M3 P3 F3 => ⟨0, rfl, by rw [F3.1]; exact hs, fun _ => kl.2 h3 m3 ov3 o M3 P3 F3, fun z => absurd rfl z⟩⟩)
  refine ⟨fun z => ⟨i_Ix hb hq, i_Ix hc hr, ?_⟩, fun z => ⟨i_Ix hb hq, i_Ix hc hr, ?_⟩⟩
  · rw [if_pos z, if_pos z] at kk
    refine t_X7_summedNaturally (by omega) hs1 M1 i2 j2 i1 j1 (by omega) (fun x6 h2 m2 ov2 x1 x2 x3 x4 x5 x7 => ⟨x6, rfl, x4.sg hs1, ?_⟩)
    rw [i3, j3] at x7
    exact fin _ (h.2.1 78 q = 1 ∧ h.2.1 78 r = 1 ∧ okm (naO (T q) (T r))) x6 h2 m2 ov2 x5 (P1.fr (x4.2.2.1 78 (by omega)).1 (x4.2.2.1 79 (by omega)).1 x2 x1) (F1.tr x4.mo.ds) (by
      rcases x7 with ⟨o, w⟩ | ⟨o, w⟩
      · exact Or.inl ⟨⟨z1, z2, o⟩, w⟩
      · exact Or.inr ⟨fun v => o v.2.2, w⟩) kk
  · rw [if_neg z, if_neg z] at kk
    refine t_X7_multipliedNaturally (by omega) hs1 M1 i2 j2 i1 j1 (by omega) (fun x6 h2 m2 ov2 x1 x2 x3 x4 x5 x7 => ⟨x6, rfl, x4.sg hs1, ?_⟩)
    rw [i3, j3] at x7
    exact fin _ (h.2.1 78 q = 1 ∧ h.2.1 78 r = 1 ∧ nmok (T q) (T r)) x6 h2 m2 ov2 x5 (P1.fr (x4.2.2.1 78 (by omega)).1 (x4.2.2.1 79 (by omega)).1 x2 x1) (F1.tr x4.ds) (by
      rcases x7 with ⟨o, w⟩ | ⟨o, w⟩
      · exact Or.inl ⟨⟨z1, z2, o⟩, w⟩
      · exact Or.inr ⟨fun v => o v.2.2, w⟩) kk
end
