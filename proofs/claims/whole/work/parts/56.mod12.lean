/-! ===== layer 2: the model begins: gathered for what the places hold ===== -/
/-- each place of an ordinal holds T's -/
def Pl (h : XH) (m : Nat) (ov : Nat → O) (T : Nat → O) : Prop := ∀ p, p < 16 → h.2.1 78 p = 1 → ∃ c : Nat, c < m ∧ (h.2.1 79 p).toInt = c ∧ ov c = T p
/-- 0, or in what a place holds -/
def Lp (h : XH) (T : Nat → O) (x : O) : Prop := x = .leaf ∨ ∃ p, p < 16 ∧ h.2.1 78 p = 1 ∧ (x = T p ∨ inS (T p) x)
section
variable {d : Nat} {h : XH} {y : Nat → Nat} {m : Nat} {ov T : Nat → O} {K : XK} {E : XE}
theorem Pl.fr {h2 : XH} {m2 : Nat} {ov2 : Nat → O} (P : Pl h m ov T) (h1 : h2.2.1 78 = h.2.1 78) (h3 : h2.2.1 79 = h.2.1 79) (hm : m ≤ m2) (ho : ∀ i, i < m → ov2 i = ov i) : Pl h2 m2 ov2 T := by
  intro p hp hk
  rw [h1] at hk
  obtain ⟨c, c1, c2, c3⟩ := P p hp hk
  exact ⟨c, by omega, by rw [h3]; exact c2, by rw [ho c c1]; exact c3⟩
theorem t_X7_begin (hd : 22 ≤ d) (hs : Sg h.1 y) (M : Mo h m ov) (hP : Pl h m ov T)
    (kk : ∀ (h2 : XH) (m2 : Nat) (ov2 : Nat → O), Mo h2 m2 ov2 → Fga h h2 → Pl h2 m2 ov2 T → (∀ p, p < 16 → ¬ h.2.1 78 p = 1 → h2.2.1 79 p = h.2.1 79 p) → (m2 < 1500 ∨ ∀ i, i < m2 → Lp h T (ov2 i)) → K none h2) : Ca d m_X7_begin [.ref 77] h K E := by
  obtain ⟨d, rfl⟩ : ∃ e, d = e + 1 := ⟨d - 1, by omega⟩
  refine w_X7_begin (by omega) hs (fun h1 e1 => ?_)
  have a78 : h1.2.1 78 = h.2.1 78 := by rw [e1]; exact sI_nq _ _ (by omega)
  have a79 : h1.2.1 79 = h.2.1 79 := by rw [e1]; exact sI_nq _ _ (by omega)
  have a15 : (h1.2.1 77 15).toInt = (0 : Nat) := by rw [e1, sI_eq]; rfl
  have b1 : h1.1 = h.1 := by rw [e1]; rfl
  have M1 : Mo h1 m ov := M.fr (by rw [e1]; exact sI_ne _ _ (by omega)) (fun r q1 q2 => by rw [e1]; exact sI_nq _ _ (by omega))
  have F1 : Fga h h1 := ⟨b1, by rw [e1]; rfl, by rw [e1]; rfl, fun r q1 _ _ => by rw [e1]; exact sI_nq _ _ q1, fun s _ q2 => by rw [e1]; exact sI_ne _ _ q2⟩
  refine t_X7_gathers (kp := 0) (by omega) (by rw [b1]; exact hs) M1 a15 M.1.2.1 (fun p hp hk => ?_) (fun h2 m2 ov2 M2 hm F2 _ hpl hnp hl => ?_)
  · rw [a78] at hk
    obtain ⟨c, c1, c2, _⟩ := hP p hp hk
    exact ⟨c, c1, by rw [a79]; exact c2⟩
  · have F : Fga h h2 := ⟨F2.1.trans F1.1, F2.2.1.trans F1.2.1, F2.2.2.1.trans F1.2.2.1, fun r q1 q2 q3 => (F2.2.2.2.1 r q1 q2 q3).trans (F1.2.2.2.1 r q1 q2 q3), fun s q1 q2 => (F2.2.2.2.2 s q1 q2).trans (F1.2.2.2.2 s q1 q2)⟩
    have s2 : Sg h2.1 y := by rw [F.1]; exact hs
    refine ⟨rfl, s2, kk h2 m2 ov2 M2 F (fun p hp hk => ?_) (fun p hp hk => ?_) ?_⟩
    · have z : h2.2.1 78 = h.2.1 78 := F.2.2.2.1 78 (by omega) (by omega) (by omega)
      rw [z] at hk
      obtain ⟨c, c1, c2, c3⟩ := hP p hp hk
      obtain ⟨c4, d1, d2, d3⟩ := hpl p hp (by rw [a78]; exact hk) c (by rw [a79]; exact c2)
      exact ⟨c4, d1, d2, d3.trans c3⟩
    · rw [hnp p hp (by rw [a78]; exact hk), a79]
    · rcases hl with hl | hl
      · exact Or.inl hl
      · refine Or.inr (fun i hi => ?_)
        rcases hl i hi with w | ⟨c, c1, c2, c3⟩
        · exact Or.inl w
        · rcases c2 with c2 | ⟨p, hp, hk, hc⟩
          · have : c = 0 := by rw [a15] at c2; omega
            rw [this, M.2.1] at c3
            rcases c3 with c3 | c3
            · exact Or.inl c3
            · exact False.elim c3
          · rw [a78] at hk
            rw [a79] at hc
            obtain ⟨c4, d1, d2, d3⟩ := hP p hp hk
            have : c = c4 := by omega
            rw [this, d3] at c3
            exact Or.inr ⟨p, hp, hk, c3⟩
end
