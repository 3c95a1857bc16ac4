/-! ===== layer 3: ways from 0 by signs: the two forms of where one is ===== -/
def pw2 (j : Nat) : Int := ((2 ^ j : Nat) : Int)
theorem pw2_s (j : Nat) : pw2 (j + 1) = 2 * pw2 j := by
  unfold pw2
  rw [Nat.pow_succ]
  omega
theorem pw2_1 (j : Nat) : 1 ≤ pw2 j := by
  unfold pw2
  have := Nat.one_le_two_pow (n := j)
  omega
theorem pw2_le {j k : Nat} (h : j ≤ k) : pw2 j ≤ pw2 k := by
  unfold pw2
  have := Nat.pow_le_pow_right (n := 2) (by omega) h
  omega
theorem pw2_19 : pw2 19 = 524288 := rfl
def wA (n : Int) : WS := (n * 1048576, (if 0 < n then some ((n - 1) * 1048576) else none), (if n < 0 then some ((n + 1) * 1048576) else none), n.natAbs)
def wB (j : Nat) (v : Int) (c : Nat) : WS := (v, some (v - pw2 j), some (v + pw2 j), c)
theorem wgo_t {w : WS} : wgo true w = match w.2.2.1 with
  | none => some (w.1 + 1048576, some w.1, w.2.2.1, w.2.2.2 + 1)
  | some b => if (b - w.1) % 2 = 0 then some ((w.1 + b) / 2, some w.1, w.2.2.1, w.2.2.2 + 1) else none := rfl
theorem wgo_f {w : WS} : wgo false w = match w.2.1 with
  | none => some (w.1 + -1048576, w.2.1, some w.1, w.2.2.2 + 1)
  | some b => if (b - w.1) % 2 = 0 then some ((w.1 + b) / 2, w.2.1, some w.1, w.2.2.2 + 1) else none := rfl
theorem go_Au {n : Int} (h : 0 ≤ n) : wgo true (wA n) = some (wA (n + 1)) := by
  rw [wgo_t]
  show (match (if n < 0 then some ((n + 1) * 1048576) else none : Option Int) with
    | none => _
    | some b => _) = _
  rw [if_neg (by omega)]
  unfold wA
  rw [if_pos (by omega : 0 < n + 1), if_neg (by omega : ¬ n + 1 < 0), if_neg (by omega : ¬ n < 0)]
  show some (n * 1048576 + 1048576, some (n * 1048576), none, n.natAbs + 1) = _
  rw [show (n + 1).natAbs = n.natAbs + 1 by omega, show (n + 1 - 1) * 1048576 = n * 1048576 by omega, show (n + 1) * 1048576 = n * 1048576 + 1048576 by omega]
theorem go_Ad {n : Int} (h : n ≤ 0) : wgo false (wA n) = some (wA (n - 1)) := by
  rw [wgo_f]
  show (match (if 0 < n then some ((n - 1) * 1048576) else none : Option Int) with
    | none => _
    | some b => _) = _
  rw [if_neg (by omega)]
  unfold wA
  rw [if_neg (by omega : ¬ 0 < n - 1), if_pos (by omega : n - 1 < 0), if_neg (by omega : ¬ 0 < n)]
  show some (n * 1048576 + -1048576, none, some (n * 1048576), n.natAbs + 1) = _
  rw [show (n - 1).natAbs = n.natAbs + 1 by omega, show (n - 1 + 1) * 1048576 = n * 1048576 by omega, show (n - 1) * 1048576 = n * 1048576 + -1048576 by omega]
theorem go_AB_u {n : Int} (h : n < 0) : wgo true (wA n) = some (wB 19 (n * 1048576 + 524288) (n.natAbs + 1)) := by
  rw [wgo_t]
  show (match (if n < 0 then some ((n + 1) * 1048576) else none : Option Int) with
    | none => _
    | some b => if (b - n * 1048576) % 2 = 0 then some ((n * 1048576 + b) / 2, some (n * 1048576), (if n < 0 then some ((n + 1) * 1048576) else none : Option Int), n.natAbs + 1) else none) = _
  rw [if_pos h]
  dsimp only
  rw [if_pos (by omega)]
  unfold wB
  rw [pw2_19, show (n * 1048576 + (n + 1) * 1048576) / 2 = n * 1048576 + 524288 by omega, show n * 1048576 + 524288 - 524288 = n * 1048576 by omega, show n * 1048576 + 524288 + 524288 = (n + 1) * 1048576 by omega]
theorem go_AB_d {n : Int} (h : 0 < n) : wgo false (wA n) = some (wB 19 (n * 1048576 - 524288) (n.natAbs + 1)) := by
  rw [wgo_f]
  show (match (if 0 < n then some ((n - 1) * 1048576) else none : Option Int) with
    | none => _
    | some b => if (b - n * 1048576) % 2 = 0 then some ((n * 1048576 + b) / 2, (if 0 < n then some ((n - 1) * 1048576) else none : Option Int), some (n * 1048576), n.natAbs + 1) else none) = _
  rw [if_pos h]
  dsimp only
  rw [if_pos (by omega)]
  unfold wB
  rw [pw2_19, show (n * 1048576 + (n - 1) * 1048576) / 2 = n * 1048576 - 524288 by omega, show n * 1048576 - 524288 - 524288 = (n - 1) * 1048576 by omega, show n * 1048576 - 524288 + 524288 = n * 1048576 by omega]
theorem go_Bu (j : Nat) (v : Int) (c : Nat) : wgo true (wB (j + 1) v c) = some (wB j (v + pw2 j) (c + 1)) := by
  rw [wgo_t]
  show (if (v + pw2 (j + 1) - v) % 2 = 0 then some ((v + (v + pw2 (j + 1))) / 2, some v, some (v + pw2 (j + 1)), c + 1) else none) = _
  rw [pw2_s, if_pos (by omega)]
  unfold wB
  rw [show (v + (v + 2 * pw2 j)) / 2 = v + pw2 j by omega, show v + pw2 j - pw2 j = v by omega, show v + pw2 j + pw2 j = v + 2 * pw2 j by omega]
theorem go_Bd (j : Nat) (v : Int) (c : Nat) : wgo false (wB (j + 1) v c) = some (wB j (v - pw2 j) (c + 1)) := by
  rw [wgo_f]
  show (if (v - pw2 (j + 1) - v) % 2 = 0 then some ((v + (v - pw2 (j + 1))) / 2, some (v - pw2 (j + 1)), some v, c + 1) else none) = _
  rw [pw2_s, if_pos (by omega)]
  unfold wB
  rw [show (v + (v - 2 * pw2 j)) / 2 = v - pw2 j by omega, show v - pw2 j - pw2 j = v - 2 * pw2 j by omega, show v - pw2 j + pw2 j = v by omega]
theorem go_B0 (up : Bool) (v : Int) (c : Nat) : wgo up (wB 0 v c) = none := by
  cases up with
  | false =>
    rw [wgo_f]
    show (if (v - pw2 0 - v) % 2 = 0 then _ else none) = _
    rw [show pw2 0 = 1 from rfl, if_neg (by omega)]
  | true =>
    rw [wgo_t]
    show (if (v + pw2 0 - v) % 2 = 0 then _ else none) = _
    rw [show pw2 0 = 1 from rfl, if_neg (by omega)]
theorem wA_0 : wA 0 = (0, none, none, 0) := rfl
theorem wok_A {n : Int} (h : n.natAbs ≤ 300) : wok (wA n) := by
  refine ⟨?_, fun b hb => ?_, fun b hb => ?_, ?_⟩
  · show wsm (n * 1048576)
    unfold wsm
    omega
  · have hb2 : (if 0 < n then some ((n - 1) * 1048576) else none) = some b := hb
    by_cases z : 0 < n
    · rw [if_pos z] at hb2
      cases hb2
      unfold wsm
      omega
    · rw [if_neg z] at hb2; cases hb2
  · have hb2 : (if n < 0 then some ((n + 1) * 1048576) else none) = some b := hb
    by_cases z : n < 0
    · rw [if_pos z] at hb2
      cases hb2
      unfold wsm
      omega
    · rw [if_neg z] at hb2; cases hb2
  · show n.natAbs ≤ 1000000
    omega
theorem wok_B {j c : Nat} {v : Int} (h1 : -1000000000 ≤ v - pw2 j) (h2 : v + pw2 j ≤ 1000000000) (h3 : c ≤ 1000) : wok (wB j v c) := by
  have := pw2_1 j
  refine ⟨?_, fun b hb => ?_, fun b hb => ?_, ?_⟩
  · show wsm v
    unfold wsm
    omega
  · have hb2 : some (v - pw2 j) = some b := hb
    cases hb2
    unfold wsm
    omega
  · have hb2 : some (v + pw2 j) = some b := hb
    cases hb2
    unfold wsm
    omega
  · show c ≤ 1000000
    omega
/-! ===== toward a number ===== -/
def tw : Nat → Int → WS → WS
  | 0, _, w => w
  | f + 1, t, w => if w.1 = t then w else match wgo (decide (w.1 < t)) w with
    | some w2 => tw f t w2
    | none => w
def twl : Nat → Int → WS → Int → Int
  | 0, _, _, l => l
  | f + 1, t, w, l => if w.1 = t then l else match wgo (decide (w.1 < t)) w with
    | some w2 => twl f t w2 (if t ≤ w.1 then -1 else 1)
    | none => l
def csg (x z : Int) : Int := if x < z then -1 else if x = z then 0 else 1
/-- t is ahead, f signs away at most -/
def tQ (f : Nat) (t : Int) (w : WS) : Prop :=
  (∃ n : Int, w = wA n ∧ (0 < n → (n - 1) * 1048576 < t ∧ n ≤ 256) ∧ (n < 0 → t < (n + 1) * 1048576 ∧ -256 ≤ n) ∧ 276 ≤ f + n.natAbs ∧ n.natAbs ≤ 276) ∨
  (∃ (j : Nat) (v : Int) (c : Nat), w = wB j v c ∧ j ≤ f ∧ j ≤ 19 ∧ v - pw2 j < t ∧ t < v + pw2 j ∧ -268435456 ≤ v - pw2 j ∧ v + pw2 j ≤ 268435456 ∧ c + j ≤ 276)
theorem tQ_0 (t : Int) : tQ 276 t (wA 0) := Or.inl ⟨0, rfl, fun z => absurd z (by omega), fun z => absurd z (by omega), by omega, by omega⟩
theorem tQ_ok {f : Nat} {t : Int} {w : WS} (h : tQ f t w) : wok w ∧ w.2.2.2 ≤ 276 := by
  rcases h with ⟨n, e, h1, h2, h3, h4⟩ | ⟨j, v, c, e, h1, h2, h3, h4, h5, h6, h7⟩
  · rw [e]; exact ⟨wok_A (by omega), h4⟩
  · rw [e]; exact ⟨wok_B (by omega) (by omega) (by omega), by show c ≤ 276; omega⟩
theorem tQ_s {f : Nat} {t : Int} {w : WS} (ht : -268435456 ≤ t ∧ t ≤ 268435456) (h : tQ f t w) (hn : ¬ w.1 = t) : ∃ f2 w2, f = f2 + 1 ∧ wgo (decide (w.1 < t)) w = some w2 ∧ tQ f2 t w2 ∧ w2.2.2.2 = w.2.2.2 + 1 := by
  rcases h with ⟨n, e, h1, h2, h3, h4⟩ | ⟨j, v, c, e, h1, h2, h3, h4, h5, h6, h7⟩
  · subst e
    have hn2 : ¬ n * 1048576 = t := hn
    by_cases lt : n * 1048576 < t
    · have hd : decide ((wA n).1 < t) = true := decide_eq_true lt
      rw [hd]
      by_cases z : 0 ≤ n
      · obtain ⟨f2, rfl⟩ : ∃ g, f = g + 1 := ⟨f - 1, by omega⟩
        exact ⟨f2, _, rfl, go_Au z, Or.inl ⟨n + 1, rfl, fun _ => ⟨by omega, by omega⟩, fun w => absurd w (by omega), by omega, by omega⟩, by show (n + 1).natAbs = n.natAbs + 1; omega⟩
      · obtain ⟨f2, rfl⟩ : ∃ g, f = g + 1 := ⟨f - 1, by have := h2 (by omega); omega⟩
        have := h2 (by omega)
        refine ⟨f2, _, rfl, go_AB_u (by omega), Or.inr ⟨19, _, _, rfl, by omega, by omega, ?_, ?_, ?_, ?_, by omega⟩, rfl⟩
        all_goals rw [pw2_19]
        all_goals omega
    · have hd : decide ((wA n).1 < t) = false := decide_eq_false lt
      rw [hd]
      by_cases z : n ≤ 0
      · obtain ⟨f2, rfl⟩ : ∃ g, f = g + 1 := ⟨f - 1, by omega⟩
        exact ⟨f2, _, rfl, go_Ad z, Or.inl ⟨n - 1, rfl, fun w => absurd w (by omega), fun _ => ⟨by omega, by omega⟩, by omega, by omega⟩, by show (n - 1).natAbs = n.natAbs + 1; omega⟩
      · obtain ⟨f2, rfl⟩ : ∃ g, f = g + 1 := ⟨f - 1, by have := h1 (by omega); omega⟩
        have := h1 (by omega)
        refine ⟨f2, _, rfl, go_AB_d (by omega), Or.inr ⟨19, _, _, rfl, by omega, by omega, ?_, ?_, ?_, ?_, by omega⟩, rfl⟩
        all_goals rw [pw2_19]
        all_goals omega
  · subst e
    have hn2 : ¬ v = t := hn
    cases j with
    | zero =>
      rw [show pw2 0 = 1 from rfl] at h3 h4
      omega
    | succ j =>
      obtain ⟨f2, rfl⟩ : ∃ g, f = g + 1 := ⟨f - 1, by omega⟩
      rw [pw2_s] at h3 h4 h5 h6
      have := pw2_1 j
      by_cases lt : v < t
      · have hd : decide ((wB (j + 1) v c).1 < t) = true := decide_eq_true lt
        rw [hd]
        exact ⟨f2, _, rfl, go_Bu j v c, Or.inr ⟨j, _, _, rfl, by omega, by omega, by omega, by omega, by omega, by omega, by omega⟩, rfl⟩
      · have hd : decide ((wB (j + 1) v c).1 < t) = false := decide_eq_false lt
        rw [hd]
        exact ⟨f2, _, rfl, go_Bd j v c, Or.inr ⟨j, _, _, rfl, by omega, by omega, by omega, by omega, by omega, by omega, by omega⟩, rfl⟩
theorem tw_e {f : Nat} {t : Int} {w : WS} (h : w.1 = t) : tw f t w = w := by
  cases f with
  | zero => rfl
  | succ f => show (if w.1 = t then w else _) = w; rw [if_pos h]
theorem tw_n {f : Nat} {t : Int} {w w2 : WS} (h : ¬ w.1 = t) (g : wgo (decide (w.1 < t)) w = some w2) : tw (f + 1) t w = tw f t w2 := by
  show (if w.1 = t then w else match wgo (decide (w.1 < t)) w with
    | some w2 => tw f t w2
    | none => w) = _
  rw [if_neg h, g]
theorem twl_n {f : Nat} {t l : Int} {w w2 : WS} (h : ¬ w.1 = t) (g : wgo (decide (w.1 < t)) w = some w2) : twl (f + 1) t w l = twl f t w2 (if t ≤ w.1 then -1 else 1) := by
  show (if w.1 = t then l else match wgo (decide (w.1 < t)) w with
    | some w2 => twl f t w2 (if t ≤ w.1 then -1 else 1)
    | none => l) = _
  rw [if_neg h, g]
/-- enough steps come to t, however many -/
theorem tw_st {t : Int} (ht : -268435456 ≤ t ∧ t ≤ 268435456) : ∀ (g : Nat) (w : WS), tQ g t w → ∀ F, g ≤ F → (tw F t w).1 = t ∧ ∀ F2, g ≤ F2 → tw F t w = tw F2 t w := by
  intro g
  induction g with
  | zero =>
    intro w h F _
    have e : w.1 = t := Classical.byContradiction (fun z => by
      obtain ⟨f2, _, e, _⟩ := tQ_s ht h z
      omega)
    exact ⟨by rw [tw_e e]; exact e, fun F2 _ => by rw [tw_e e, tw_e e]⟩
  | succ g ih =>
    intro w h F hF
    by_cases e : w.1 = t
    · exact ⟨by rw [tw_e e]; exact e, fun F2 _ => by rw [tw_e e, tw_e e]⟩
    · obtain ⟨f2, w2, e2, e3, e4, _⟩ := tQ_s ht h e
      obtain ⟨F, rfl⟩ : ∃ q, F = q + 1 := ⟨F - 1, by omega⟩
      have hg : f2 = g := by omega
      subst hg
      rw [tw_n e e3]
      refine ⟨(ih w2 e4 F (by omega)).1, fun F2 h2 => ?_⟩
      obtain ⟨F2, rfl⟩ : ∃ q, F2 = q + 1 := ⟨F2 - 1, by omega⟩
      rw [tw_n e e3]
      exact (ih w2 e4 F (by omega)).2 F2 (by omega)
theorem tw_up {t : Int} (ht : -268435456 ≤ t ∧ t ≤ 268435456) : ∀ (F g : Nat) (w : WS), tQ g t w → w.2.2.2 ≤ (tw F t w).2.2.2 ∧ (tw F t w).2.2.2 ≤ 276 := by
  intro F
  induction F with
  | zero => intro g w h; exact ⟨Nat.le_refl _, (tQ_ok h).2⟩
  | succ F ih =>
    intro g w h
    by_cases e : w.1 = t
    · rw [tw_e e]; exact ⟨Nat.le_refl _, (tQ_ok h).2⟩
    · obtain ⟨f2, w2, e2, e3, e4, e5⟩ := tQ_s ht h e
      rw [tw_n e e3]
      have := ih f2 w2 e4
      omega
/-- the sign behind k of them -/
theorem tw_sg {t : Int} (ht : -268435456 ≤ t ∧ t ≤ 268435456) : ∀ (k g F : Nat) (w : WS) (l : Int), tQ g t w → g ≤ F → ((tw k t w).1 = t → (tw F t w).2.2.2 ≤ w.2.2.2 + k) ∧ (¬ (tw k t w).1 = t → w.2.2.2 + k < (tw F t w).2.2.2 ∧ twl (k + 1) t w l = csg t (tw k t w).1) := by
  intro k
  induction k with
  | zero =>
    intro g F w l h hF
    by_cases e : w.1 = t
    · refine ⟨fun _ => ?_, fun z => absurd e z⟩
      rw [tw_e e]
      omega
    · refine ⟨fun z => absurd z e, fun _ => ?_⟩
      obtain ⟨f2, w2, e2, e3, e4, e5⟩ := tQ_s ht h e
      obtain ⟨F, rfl⟩ : ∃ q, F = q + 1 := ⟨F - 1, by omega⟩
      rw [tw_n e e3, twl_n e e3]
      have := (tw_up ht F f2 w2 e4).1
      refine ⟨by omega, ?_⟩
      show (if t ≤ w.1 then -1 else 1 : Int) = csg t w.1
      unfold csg
      by_cases q : t ≤ w.1
      · rw [if_pos q, if_pos (by omega)]
      · rw [if_neg q, if_neg (by omega), if_neg (by omega)]
  | succ k ih =>
    intro g F w l h hF
    by_cases e : w.1 = t
    · refine ⟨fun _ => ?_, fun z => absurd (by rw [tw_e e]; exact e) z⟩
      rw [tw_e e]
      omega
    · obtain ⟨f2, w2, e2, e3, e4, e5⟩ := tQ_s ht h e
      obtain ⟨F, rfl⟩ : ∃ q, F = q + 1 := ⟨F - 1, by omega⟩
      have := ih f2 F w2 (if t ≤ w.1 then -1 else 1) e4 (by omega)
      rw [tw_n e e3, tw_n e e3, twl_n e e3]
      refine ⟨fun z => ?_, fun z => ?_⟩
      · have := this.1 z; omega
      · have := this.2 z
        exact ⟨by omega, this.2⟩
/-! ===== between two numbers ===== -/
def fnw (l u : Int) : Nat → WS → Option WS
  | 0, w => some w
  | f + 1, w => if w.1 ≤ l ∨ u ≤ w.1 then (match wgo (decide (w.1 ≤ l)) w with
    | some w2 => fnw l u f w2
    | none => none) else some w
/-- what is asked for is ahead, f signs away at most -/
def bQ (f : Nat) (l u : Int) (w : WS) : Prop :=
  (∃ n : Int, w = wA n ∧ (0 < n → (n - 1) * 1048576 ≤ l ∧ n ≤ 257) ∧ (n < 0 → u ≤ (n + 1) * 1048576 ∧ -257 ≤ n) ∧ 278 ≤ f + n.natAbs ∧ n.natAbs ≤ 278) ∨
  (∃ (j : Nat) (v : Int) (c : Nat), w = wB j v c ∧ j + 1 ≤ f ∧ j ≤ 19 ∧ v - pw2 j ≤ l ∧ u ≤ v + pw2 j ∧ -268435456 ≤ v - pw2 j ∧ v + pw2 j ≤ 268435456 ∧ c + j ≤ 278)
/-- bounds: of numbers, or none -/
def bLU (l u : Int) : Prop := l < u ∧ (l = -1099511627776 ∨ -268435456 ≤ l ∧ l ≤ 268435456) ∧ (u = 1099511627776 ∨ -268435456 ≤ u ∧ u ≤ 268435456)
theorem bQ_0 (l u : Int) : bQ 278 l u (wA 0) := Or.inl ⟨0, rfl, fun z => absurd z (by omega), fun z => absurd z (by omega), by omega, by omega⟩
theorem bQ_ok {f : Nat} {l u : Int} {w : WS} (h : bQ f l u w) : wok w ∧ w.2.2.2 ≤ 278 := by
  rcases h with ⟨n, e, h1, h2, h3, h4⟩ | ⟨j, v, c, e, h1, h2, h3, h4, h5, h6, h7⟩
  · rw [e]; exact ⟨wok_A (by omega), h4⟩
  · rw [e]; exact ⟨wok_B (by omega) (by omega) (by omega), by show c ≤ 278; omega⟩
theorem bQ_s {f : Nat} {l u : Int} {w : WS} (hb : bLU l u) (h : bQ f l u w) (hn : w.1 ≤ l ∨ u ≤ w.1) : ∃ f2, f = f2 + 1 ∧ (wgo (decide (w.1 ≤ l)) w = none ∨ ∃ w2, wgo (decide (w.1 ≤ l)) w = some w2 ∧ bQ f2 l u w2 ∧ (¬ (-268435456 ≤ w2.1 ∧ w2.1 ≤ 268435456) → ¬ (w2.1 ≤ l ∨ u ≤ w2.1))) := by
  obtain ⟨b1, b2, b3⟩ := hb
  rcases h with ⟨n, e, h1, h2, h3, h4⟩ | ⟨j, v, c, e, h1, h2, h3, h4, h5, h6, h7⟩
  · subst e
    have hn2 : n * 1048576 ≤ l ∨ u ≤ n * 1048576 := hn
    obtain ⟨f2, rfl⟩ : ∃ g, f = g + 1 := ⟨f - 1, by
      by_cases z : 0 < n
      · have := h1 z; omega
      · by_cases z2 : n < 0
        · have := h2 z2; omega
        · omega⟩
    refine ⟨f2, rfl, Or.inr ?_⟩
    by_cases lt : n * 1048576 ≤ l
    · have hd : decide ((wA n).1 ≤ l) = true := decide_eq_true lt
      rw [hd]
      by_cases z : 0 ≤ n
      · refine ⟨_, go_Au z, Or.inl ⟨n + 1, rfl, fun _ => ⟨by omega, by omega⟩, fun w => absurd w (by omega), by omega, by omega⟩, fun q => ?_⟩
        show ¬ ((n + 1) * 1048576 ≤ l ∨ u ≤ (n + 1) * 1048576)
        have q2 : ¬ (-268435456 ≤ (n + 1) * 1048576 ∧ (n + 1) * 1048576 ≤ 268435456) := q
        omega
      · have := h2 (by omega)
        refine ⟨_, go_AB_u (by omega), Or.inr ⟨19, _, _, rfl, by omega, by omega, ?_, ?_, ?_, ?_, by omega⟩, fun q => absurd ?_ q⟩
        all_goals try rw [pw2_19]
        · omega
        · omega
        · omega
        · omega
        · show -268435456 ≤ n * 1048576 + 524288 ∧ n * 1048576 + 524288 ≤ 268435456
          omega
    · have hd : decide ((wA n).1 ≤ l) = false := decide_eq_false lt
      rw [hd]
      by_cases z : n ≤ 0
      · refine ⟨_, go_Ad z, Or.inl ⟨n - 1, rfl, fun w => absurd w (by omega), fun _ => ⟨by omega, by omega⟩, by omega, by omega⟩, fun q => ?_⟩
        show ¬ ((n - 1) * 1048576 ≤ l ∨ u ≤ (n - 1) * 1048576)
        have q2 : ¬ (-268435456 ≤ (n - 1) * 1048576 ∧ (n - 1) * 1048576 ≤ 268435456) := q
        omega
      · have := h1 (by omega)
        refine ⟨_, go_AB_d (by omega), Or.inr ⟨19, _, _, rfl, by omega, by omega, ?_, ?_, ?_, ?_, by omega⟩, fun q => absurd ?_ q⟩
        all_goals try rw [pw2_19]
        · omega
        · omega
        · omega
        · omega
        · show -268435456 ≤ n * 1048576 - 524288 ∧ n * 1048576 - 524288 ≤ 268435456
          omega
  · subst e
    have hn2 : v ≤ l ∨ u ≤ v := hn
    obtain ⟨f2, rfl⟩ : ∃ g, f = g + 1 := ⟨f - 1, by omega⟩
    refine ⟨f2, rfl, ?_⟩
    cases j with
    | zero => exact Or.inl (go_B0 _ v c)
    | succ j =>
      rw [pw2_s] at h3 h4 h5 h6
      have := pw2_1 j
      by_cases lt : v ≤ l
      · have hd : decide ((wB (j + 1) v c).1 ≤ l) = true := decide_eq_true lt
        rw [hd]
        refine Or.inr ⟨_, go_Bu j v c, Or.inr ⟨j, _, _, rfl, by omega, by omega, by omega, by omega, by omega, by omega, by omega⟩, fun q => absurd ?_ q⟩
        show -268435456 ≤ v + pw2 j ∧ v + pw2 j ≤ 268435456
        omega
      · have hd : decide ((wB (j + 1) v c).1 ≤ l) = false := decide_eq_false lt
        rw [hd]
        refine Or.inr ⟨_, go_Bd j v c, Or.inr ⟨j, _, _, rfl, by omega, by omega, by omega, by omega, by omega, by omega, by omega⟩, fun q => absurd ?_ q⟩
        show -268435456 ≤ v - pw2 j ∧ v - pw2 j ≤ 268435456
        omega
/-! ===== along a row of signs ===== -/
def alg (bt : Nat → Bool) : Nat → WS → WS
  | 0, w => w
  | k + 1, w => match wgo (bt k) (alg bt k w) with
    | some w2 => w2
    | none => alg bt k w
def aQ (k : Nat) (w : WS) : Prop :=
  (∃ n : Int, w = wA n ∧ n.natAbs ≤ k) ∨
  (∃ (j : Nat) (v : Int) (c : Nat), w = wB j v c ∧ 21 ≤ j + k ∧ j ≤ 19 ∧ -20971520 ≤ v - pw2 j ∧ v + pw2 j ≤ 20971520 ∧ c ≤ k)
theorem aQ_ok {k : Nat} {w : WS} (hk : k ≤ 20) (h : aQ k w) : wok w ∧ -268435456 ≤ w.1 ∧ w.1 ≤ 268435456 := by
  rcases h with ⟨n, e, h1⟩ | ⟨j, v, c, e, h1, h2, h3, h4, h5⟩
  · rw [e]
    refine ⟨wok_A (by omega), ?_⟩
    show -268435456 ≤ n * 1048576 ∧ n * 1048576 ≤ 268435456
    omega
  · rw [e]
    have := pw2_1 j
    refine ⟨wok_B (by omega) (by omega) (by omega), ?_⟩
    show -268435456 ≤ v ∧ v ≤ 268435456
    omega
theorem aQ_s {k : Nat} {w : WS} (up : Bool) (hk : k < 20) (h : aQ k w) : ∃ w2, wgo up w = some w2 ∧ aQ (k + 1) w2 := by
  rcases h with ⟨n, e, h1⟩ | ⟨j, v, c, e, h1, h2, h3, h4, h5⟩
  · rw [e]
    cases up with
    | true =>
      by_cases z : 0 ≤ n
      · exact ⟨_, go_Au z, Or.inl ⟨_, rfl, by omega⟩⟩
      · refine ⟨_, go_AB_u (by omega), Or.inr ⟨19, _, _, rfl, by omega, by omega, ?_, ?_, by omega⟩⟩
        all_goals rw [pw2_19]
        all_goals omega
    | false =>
      by_cases z : n ≤ 0
      · exact ⟨_, go_Ad z, Or.inl ⟨_, rfl, by omega⟩⟩
      · refine ⟨_, go_AB_d (by omega), Or.inr ⟨19, _, _, rfl, by omega, by omega, ?_, ?_, by omega⟩⟩
        all_goals rw [pw2_19]
        all_goals omega
  · rw [e]
    obtain ⟨j, rfl⟩ : ∃ i, j = i + 1 := ⟨j - 1, by omega⟩
    rw [pw2_s] at h3 h4
    have := pw2_1 j
    cases up with
    | true => exact ⟨_, go_Bu j v c, Or.inr ⟨j, _, _, rfl, by omega, by omega, by omega, by omega, by omega⟩⟩
    | false => exact ⟨_, go_Bd j v c, Or.inr ⟨j, _, _, rfl, by omega, by omega, by omega, by omega, by omega⟩⟩
theorem alg_Q (bt : Nat → Bool) : ∀ k, k ≤ 20 → aQ k (alg bt k (wA 0)) ∧ (k < 20 → wgo (bt k) (alg bt k (wA 0)) = some (alg bt (k + 1) (wA 0))) := by
  have st : ∀ k, k < 20 → aQ k (alg bt k (wA 0)) → wgo (bt k) (alg bt k (wA 0)) = some (alg bt (k + 1) (wA 0)) ∧ aQ (k + 1) (alg bt (k + 1) (wA 0)) := by
    intro k hk h
    obtain ⟨w2, e, q⟩ := aQ_s (bt k) hk h
    have : alg bt (k + 1) (wA 0) = w2 := by
      show (match wgo (bt k) (alg bt k (wA 0)) with
        | some w2 => w2
        | none => alg bt k (wA 0)) = w2
      rw [e]
    rw [this]
    exact ⟨e, q⟩
  intro k
  induction k with
  | zero => intro _; exact ⟨Or.inl ⟨0, rfl, by omega⟩, fun h => (st 0 h (Or.inl ⟨0, rfl, by omega⟩)).1⟩
  | succ k ih =>
    intro hk
    have := st k (by omega) (ih (by omega)).1
    exact ⟨this.2, fun h => (st (k + 1) h this.2).1⟩
