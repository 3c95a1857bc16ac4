/-! ===== layer 2: the model's way by signs ===== -/
theorem t_half (z : Int) : z.tdiv 2 = if 0 ≤ z then z / 2 else -((-z) / 2) := by
  split
  · exact Int.tdiv_eq_ediv_of_nonneg ‹_›
  · have h1 : (-(-z)).tdiv 2 = -((-z).tdiv 2) := Int.neg_tdiv (-z) 2
    rw [Int.neg_neg] at h1
    rw [h1, Int.tdiv_eq_ediv_of_nonneg (by omega)]
theorem j_rem2 {x : Int64} (h : -4000000000000 ≤ x.toInt ∧ x.toInt ≤ 4000000000000) : (x - x / 2 * 2) = 0 ↔ x.toInt % 2 = 0 := by
  have e2 : (2 : Int64).toInt = 2 := rfl
  have e0 : (0 : Int64).toInt = 0 := rfl
  have h1 : (x / 2).toInt = if 0 ≤ x.toInt then x.toInt / 2 else -((-x.toInt) / 2) := by rw [j_half, t_half]
  have h2 : (x / 2 * 2).toInt = (x / 2).toInt * 2 := by
    rw [j_mul (by rw [e2, h1]; split <;> omega) (by rw [e2, h1]; split <;> omega), e2]
  have h3 : (x - x / 2 * 2).toInt = x.toInt - (x / 2).toInt * 2 := by
    rw [j_sub (by rw [h2, h1]; split <;> omega) (by rw [h2, h1]; split <;> omega), h2]
  rw [← Int64.toInt_inj, h3, e0, h1]
  split <;> omega
/-- the model's walk holds w -/
def Wm (h : XH) (w : WS) : Prop := (h.2.2.1 77 25).toInt = w.1 ∧ (match w.2.1 with
  | none => h.2.1 77 22 = 0
  | some b => h.2.1 77 22 = 1 ∧ (h.2.2.1 77 24).toInt = b) ∧ (match w.2.2.1 with
  | none => h.2.1 77 21 = 0
  | some b => h.2.1 77 21 = 1 ∧ (h.2.2.1 77 23).toInt = b) ∧ (h.2.1 77 26).toInt = w.2.2.2
/-- nothing but the model's walk has changed -/
def Fq (h h2 : XH) : Prop := h2.1 = h.1 ∧ h2.2.2.2 = h.2.2.2 ∧ (∀ r, r ≠ 77 → h2.2.1 r = h.2.1 r ∧ h2.2.2.1 r = h.2.2.1 r) ∧ (∀ s, s < 21 ∨ s = 27 → h2.2.1 77 s = h.2.1 77 s)
theorem Fq.rf (h : XH) : Fq h h := ⟨rfl, rfl, fun _ _ => ⟨rfl, rfl⟩, fun _ _ => rfl⟩
theorem Fq.tr {h h2 h3 : XH} (a : Fq h h2) (b : Fq h2 h3) : Fq h h3 := ⟨b.1.trans a.1, b.2.1.trans a.2.1, fun r hr => ⟨(b.2.2.1 r hr).1.trans (a.2.2.1 r hr).1, (b.2.2.1 r hr).2.trans (a.2.2.1 r hr).2⟩, fun s hs => (b.2.2.2 s hs).trans (a.2.2.2 s hs)⟩
theorem Fq.sg {h h2 : XH} {y : Nat → Nat} (a : Fq h h2) (hs : Sg h.1 y) : Sg h2.1 y := by rw [a.1]; exact hs
theorem Fq.I (h : XH) (k : Nat) (v : Int32) (hk : ¬ (k < 21 ∨ k = 27)) : Fq h (x_setI h 77 k v) := ⟨rfl, rfl, fun r hr => ⟨sI_nq _ _ hr, rfl⟩, fun s hs => sI_ne _ _ (fun z => hk (by rw [← z]; exact hs))⟩
theorem Fq.J (h : XH) (k : Nat) (v : Int64) : Fq h (x_setJ h 77 k v) := ⟨rfl, rfl, fun r hr => ⟨rfl, sJ_nq _ _ hr⟩, fun _ _ => rfl⟩
section
variable {d : Nat} {h : XH} {y : Nat → Nat} {K : XK} {E : XE}
theorem t_X7_begins (hd : 21 ≤ d) (hs : Sg h.1 y) (kk : ∀ h2, Wm h2 (0, none, none, 0) → Fq h h2 → K none h2) : Ca d m_X7_begins [.ref 77] h K E := by
  obtain ⟨d, rfl⟩ : ∃ e, d = e + 1 := ⟨d - 1, by omega⟩
  refine w_X7_begins (by omega) hs ⟨by decide, fun h1 e1 => ⟨by decide, fun h2 e2 h3 e3 h4 e4 => kk h4 ⟨?_, ?_, ?_, ?_⟩ ?_⟩⟩
  · rw [e4]; show (h3.2.2.1 77 25).toInt = 0; rw [e3, sJ_eq]; rfl
  · show h4.2.1 77 22 = 0
    rw [e4, sI_ne _ _ (by omega), e3]; show h2.2.1 77 22 = 0; rw [e2, sI_eq]
  · show h4.2.1 77 21 = 0
    rw [e4, sI_ne _ _ (by omega), e3]; show h2.2.1 77 21 = 0; rw [e2, sI_ne _ _ (by omega), e1, sI_eq]
  · rw [e4, sI_eq]; rfl
  · have f1 : Fq h h1 := by rw [e1]; exact Fq.I _ _ _ (by omega)
    have f2 : Fq h1 h2 := by rw [e2]; exact Fq.I _ _ _ (by omega)
    have f3 : Fq h2 h3 := by rw [e3]; exact Fq.J _ _ _
    have f4 : Fq h3 h4 := by rw [e4]; exact Fq.I _ _ _ (by omega)
    exact ((f1.tr f2).tr f3).tr f4
theorem t_X7_goes {a : Int32} {w : WS} {up : Bool} (hd : 21 ≤ d) (hs : Sg h.1 y) (W : Wm h w) (ok : wok w) (ha : a = 0 ↔ up = false) (kk : ∀ w2 h2, wgo up w = some w2 → Wm h2 w2 → Fq h h2 → K (some (.int 1)) h2) (kn : ∀ h2, wgo up w = none → Fq h h2 → K (some (.int 0)) h2) : Ca d m_X7_goes [.ref 77, .int a] h K E := by
  obtain ⟨d, rfl⟩ : ∃ e, d = e + 1 := ⟨d - 1, by omega⟩
  obtain ⟨v, lo, hi, n⟩ := w
  obtain ⟨W1, W2, W3, W4⟩ := W
  obtain ⟨k1, k2, k3, k4⟩ := ok
  dsimp only at W1 W2 W3 W4 k1 k2 k3 k4
  unfold wsm at k1 k2 k3
  have eU : (1048576 : Int64).toInt = 1048576 := rfl
  have e2 : (2 : Int64).toInt = 2 := rfl
  -- from the sum of both on
  have fin : ∀ (bd : Option Int) (l2 : Int32) (tw : Int64) (u1 u3 u4 : Option Value) (h1 : XH), (if up then hi else lo) = bd → (bd = none → l2 = 0 ∧ tw.toInt = 2 * (v + (if up then 1048576 else -1048576))) → (∀ b, bd = some b → l2 = 1 ∧ tw.toInt = v + b) → Sg h1.1 y → Fq h h1 → (match (if up then some v else lo) with
      | none => h1.2.1 77 22 = 0
      | some b => h1.2.1 77 22 = 1 ∧ (h1.2.2.1 77 24).toInt = b) → (match (if up then hi else some v) with
      | none => h1.2.1 77 21 = 0
      | some b => h1.2.1 77 21 = 1 ∧ (h1.2.2.1 77 23).toInt = b) → h1.2.1 77 26 = h.2.1 77 26 → b_X7_goes_118 d 77 u1 l2 u3 u4 tw h1 K E := by
    intro bd l2 tw u1 u3 u4 h1 hbd c0 c1 hs1 F1 q1 q2 q3
    have end1 : ∀ (nv : Int) (u1 u2 : Option Value) (h5 : XH), h5 = x_setI h1 77 26 (h1.2.1 77 26 + 1) → wgo up (v, lo, hi, n) = some (nv, (if up then some v else lo), (if up then hi else some v), n + 1) → (tw / 2).toInt = nv → b_X7_goes_145 d 77 u1 u2 tw h5 K E := by
      intro nv u1 u2 h5 e5 hw hh
      have F5 : Fq h1 h5 := by rw [e5]; exact Fq.I _ _ _ (by omega)
      refine w_X7_goes_145 (by omega) (F5.sg hs1) (fun h6 e6 => kk _ h6 hw ⟨?_, ?_, ?_, ?_⟩ ((F1.tr F5).tr (by rw [e6]; exact Fq.J _ _ _)))
      · rw [e6, sJ_eq]; exact hh
      · have j1 : h6.2.1 77 22 = h1.2.1 77 22 := by rw [e6]; show h5.2.1 77 22 = _; rw [e5, sI_ne _ _ (by omega)]
        have j2 : h6.2.2.1 77 24 = h1.2.2.1 77 24 := by rw [e6, sJ_ne _ _ (by omega), e5]; rfl
        rw [j1, j2]; exact q1
      · have j1 : h6.2.1 77 21 = h1.2.1 77 21 := by rw [e6]; show h5.2.1 77 21 = _; rw [e5, sI_ne _ _ (by omega)]
        have j2 : h6.2.2.1 77 23 = h1.2.2.1 77 23 := by rw [e6, sJ_ne _ _ (by omega), e5]; rfl
        rw [j1, j2]; exact q2
      · rw [e6]; show (h5.2.1 77 26).toInt = _; rw [e5, sI_eq, q3, i_add (by rw [i_1]; omega) (by rw [i_1]; omega), W4, i_1]; rfl
    refine w_X7_goes_118 (by omega) hs1 (fun h5 e5 => ⟨fun z => ?_, fun z => ⟨fun q => ?_, fun q => ?_⟩⟩)
    · cases hb : bd with
      | none =>
        refine end1 (v + (if up then 1048576 else -1048576)) _ _ h5 e5 ?_ ?_
        · unfold wgo
          dsimp only
          rw [hbd, hb]
        · rw [j_half, (c0 hb).2, Int.tdiv_eq_ediv_of_dvd ⟨_, rfl⟩]
          omega
      | some b => rw [(c1 b hb).1] at z; exact absurd z (by decide)
    · cases hb : bd with
      | none => exact absurd (c0 hb).1 z
      | some b =>
        have hbz : -1000000000000 ≤ b ∧ b ≤ 1000000000000 := by
          rw [hb] at hbd
          cases up with
          | false => exact k2 b hbd
          | true => exact k3 b hbd
        have ht := (c1 b hb).2
        rw [j_rem2 (by rw [ht]; omega), ht] at q
        refine end1 ((v + b) / 2) _ _ h5 e5 ?_ ?_
        · unfold wgo
          dsimp only
          rw [hbd, hb]
          dsimp only
          rw [if_pos (by omega)]
        · rw [j_half, ht, Int.tdiv_eq_ediv_of_dvd (Int.dvd_of_emod_eq_zero q)]
    · cases hb : bd with
      | none => exact absurd (c0 hb).1 z
      | some b =>
        have hbz : -1000000000000 ≤ b ∧ b ≤ 1000000000000 := by
          rw [hb] at hbd
          cases up with
          | false => exact k2 b hbd
          | true => exact k3 b hbd
        have ht := (c1 b hb).2
        rw [j_rem2 (by rw [ht]; omega), ht] at q
        refine kn h5 ?_ (F1.tr (by rw [e5]; exact Fq.I _ _ _ (by omega)))
        unfold wgo
        dsimp only
        rw [hbd, hb]
        dsimp only
        rw [if_neg (by omega)]
  refine w_X7_goes (by omega) hs ⟨fun z => ⟨by decide, fun h1 e1 h2 e2' => ?_⟩, fun z => ⟨by decide, fun h1 e1 h2 e2' => ?_⟩⟩
  · have hup := ha.mp z
    subst hup
    have c1 : h1.2.2.1 = h.2.2.1 := by rw [e1]; rfl
    rw [c1] at e2'
    have F2 : Fq h h2 := (show Fq h h1 by rw [e1]; exact Fq.I _ _ _ (by omega)).tr (by rw [e2']; exact Fq.J _ _ _)
    have hs2 := F2.sg hs
    have i22 : h2.2.1 77 22 = h.2.1 77 22 := by rw [e2']; show h1.2.1 77 22 = _; rw [e1, sI_ne _ _ (by omega)]
    have i21 : h2.2.1 77 21 = 1 := by rw [e2']; show h1.2.1 77 21 = _; rw [e1, sI_eq]
    have i26 : h2.2.1 77 26 = h.2.1 77 26 := by rw [e2']; show h1.2.1 77 26 = _; rw [e1, sI_ne _ _ (by omega)]
    have j23 : h2.2.2.1 77 23 = h.2.2.1 77 25 := by rw [e2', sJ_eq]
    have jo : ∀ s, s ≠ 23 → h2.2.2.1 77 s = h.2.2.1 77 s := fun s b => by rw [e2', sJ_ne _ _ b, c1]
    refine w_X7_goes_33 (by omega) hs2 ⟨fun _ => w_X7_goes_48 (by omega) hs2 ⟨fun _ => ⟨fun q => ?_, fun q => ?_⟩, fun q => absurd z q⟩, fun q => absurd z q⟩
    · cases hlo : lo with
      | none =>
        refine fin none _ _ _ _ _ h2 hlo (fun _ => ⟨q, ?_⟩) (fun b hb => by cases hb) hs2 F2 ?_ ⟨i21, by rw [j23]; exact W1⟩ i26
        · rw [jo 25 (by omega)]
          have : (h.2.2.1 77 25 - 1048576).toInt = v - 1048576 := by rw [j_sub (by rw [W1, eU]; omega) (by rw [W1, eU]; omega), W1, eU]
          rw [j_mul (by rw [this, e2]; omega) (by rw [this, e2]; omega), this, e2]
          show 2 * (v - 1048576) = 2 * (v + -1048576)
          omega
        · rw [hlo] at W2 ⊢
          show h2.2.1 77 22 = 0
          rw [i22]; exact W2
      | some b =>
        rw [hlo] at W2
        rw [i22, W2.1] at q
        exact absurd q (by decide)
    · cases hlo : lo with
      | none =>
        rw [hlo] at W2
        rw [i22] at q
        exact absurd W2 q
      | some b =>
        have hbz := k2 b hlo
        have W2' := W2
        rw [hlo] at W2'
        refine fin (some b) _ _ _ _ _ h2 hlo (fun hb => by cases hb) (fun b2 hb => ?_) hs2 F2 ?_ ⟨i21, by rw [j23]; exact W1⟩ i26
        · cases hb
          refine ⟨by rw [i22]; exact W2'.1, ?_⟩
          rw [jo 25 (by omega), jo 24 (by omega), j_add (by rw [W1, W2'.2]; omega) (by rw [W1, W2'.2]; omega), W1, W2'.2]
        · rw [hlo]
          exact ⟨by rw [i22]; exact W2'.1, by rw [jo 24 (by omega)]; exact W2'.2⟩
  · have hup : up = true := by
      cases up with
      | false => exact absurd (ha.mpr rfl) z
      | true => rfl
    subst hup
    have c1 : h1.2.2.1 = h.2.2.1 := by rw [e1]; rfl
    rw [c1] at e2'
    have F2 : Fq h h2 := (show Fq h h1 by rw [e1]; exact Fq.I _ _ _ (by omega)).tr (by rw [e2']; exact Fq.J _ _ _)
    have hs2 := F2.sg hs
    have i21 : h2.2.1 77 21 = h.2.1 77 21 := by rw [e2']; show h1.2.1 77 21 = _; rw [e1, sI_ne _ _ (by omega)]
    have i22 : h2.2.1 77 22 = 1 := by rw [e2']; show h1.2.1 77 22 = _; rw [e1, sI_eq]
    have i26 : h2.2.1 77 26 = h.2.1 77 26 := by rw [e2']; show h1.2.1 77 26 = _; rw [e1, sI_ne _ _ (by omega)]
    have j24 : h2.2.2.1 77 24 = h.2.2.1 77 25 := by rw [e2', sJ_eq]
    have jo : ∀ s, s ≠ 24 → h2.2.2.1 77 s = h.2.2.1 77 s := fun s b => by rw [e2', sJ_ne _ _ b, c1]
    refine w_X7_goes_33 (by omega) hs2 ⟨fun q => absurd q z, fun _ => w_X7_goes_48 (by omega) hs2 ⟨fun q => absurd q z, fun _ => ⟨fun q => ?_, fun q => ?_⟩⟩⟩
    · cases hhi : hi with
      | none =>
        refine fin none _ _ _ _ _ h2 hhi (fun _ => ⟨q, ?_⟩) (fun b hb => by cases hb) hs2 F2 ⟨i22, by rw [j24]; exact W1⟩ ?_ i26
        · rw [jo 25 (by omega)]
          have : (h.2.2.1 77 25 + 1048576).toInt = v + 1048576 := by rw [j_add (by rw [W1, eU]; omega) (by rw [W1, eU]; omega), W1, eU]
          rw [j_mul (by rw [this, e2]; omega) (by rw [this, e2]; omega), this, e2]
          rfl
        · rw [hhi] at W3 ⊢
          show h2.2.1 77 21 = 0
          rw [i21]; exact W3
      | some b =>
        rw [hhi] at W3
        rw [i21, W3.1] at q
        exact absurd q (by decide)
    · cases hhi : hi with
      | none =>
        rw [hhi] at W3
        rw [i21] at q
        exact absurd W3 q
      | some b =>
        have hbz := k3 b hhi
        have W3' := W3
        rw [hhi] at W3'
        refine fin (some b) _ _ _ _ _ h2 hhi (fun hb => by cases hb) (fun b2 hb => ?_) hs2 F2 ⟨i22, by rw [j24]; exact W1⟩ ?_ i26
        · cases hb
          refine ⟨by rw [i21]; exact W3'.1, ?_⟩
          rw [jo 25 (by omega), jo 23 (by omega), j_add (by rw [W1, W3'.2]; omega) (by rw [W1, W3'.2]; omega), W1, W3'.2]
        · rw [hhi]
          exact ⟨by rw [i21]; exact W3'.1, by rw [jo 23 (by omega)]; exact W3'.2⟩
end
