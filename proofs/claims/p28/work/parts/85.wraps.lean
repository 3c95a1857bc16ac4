/-! ===== of wraps, what p28 needs ===== -/
/-- a call that may throw where the frame has handlers -/
theorem Ex.calh {d : Nat} {hs : XHs} {tb : List (Option XI)} {pc : Nat} {L : XL} {st rest : List Value} {h : XH} {K : XK} {E : XE} {j : Nat} {as : List Value} (h1 : ∀ c, xstp c hs tb (pc, L, st) h = x_back hs pc L rest (c j as h)) (H : Ca d j as h (fun v h3 => Ex d hs tb (pc + 3, L, v.toList ++ rest) h3 (Po K E)) (fun e h3 => Rs d hs tb (x_back hs pc L rest (some (.inr e, h3))) (Po K E))) : Ex d hs tb (pc, L, st) h (Po K E) :=
  Ex.ask h1 H (fun o h3 hq => by
    cases o with
    | inl v => exact hq
    | inr e => exact hq)
theorem out2_st {c1 c2 : Prop} {v : Int} {S S2 : XS} (h : ¬ (out2 c1 c2 v S S2).1 = 0) : (out2 c1 c2 v S S2).1 = 1 ∨ (out2 c1 c2 v S S2).1 = 2 := by
  by_cases a : c1
  · by_cases b : c2
    · rw [out2_0 a b] at h; exact absurd rfl h
    · rw [out2_2 a b]; exact Or.inr rfl
  · rw [out2_1 a]; exact Or.inl rfl
theorem out3_st {c1 c2 c3 : Prop} {v : Int} {S S2 : XS} (h : ¬ (out3 c1 c2 c3 v S S2).1 = 0) : (out3 c1 c2 c3 v S S2).1 = 1 ∨ (out3 c1 c2 c3 v S S2).1 = 2 ∨ (out3 c1 c2 c3 v S S2).1 = 3 := by
  by_cases a : c1
  · by_cases b : c2
    · by_cases c : c3
      · rw [out3_0 a b c] at h; exact absurd rfl h
      · rw [out3_3 a b c]; exact Or.inr (Or.inr rfl)
    · rw [out3_2 a b]; exact Or.inr (Or.inl rfl)
  · rw [out3_1 a]; exact Or.inl rfl
/-- what a wrapper may change -/
def FW (h : XH) (y : Nat → Nat) (h2 : XH) (y2 : Nat → Nat) : Prop := Sg h2.1 y2 ∧ (∀ r, (r = 0 ∨ 77 ≤ r) → r < 77 → h2.2.1 r = h.2.1 r ∧ h2.2.2.1 r = h.2.2.1 r) ∧ h2.1.length + Ty y ≤ h.1.length + Ty y2 + 1 ∧ h2.2.2.2 + 2 * Ty y ≤ h.2.2.2 + 2 * Ty y2 + 6
/-- the numbers, growths, kinds of S are right -/
def VA (S : XS) : Prop := VN S ∧ VG S ∧ VK S
theorem FC.fw {n : Nat} {h h2 : XH} {y y2 : Nat → Nat} (F : FC n h y h2 y2) (hn : n ≤ 1) : FW h y h2 y2 := ⟨F.1, fun r a b => F.2.1 r a (by omega), by have := F.2.2.1; omega, by have := F.2.2.2; omega⟩
section
variable {d c : Nat} {h : XH} {y : Nat → Nat} {S : XS} {K : XK} {E : XE}
end
