/-! ===== layer 2: ways from 0 by signs, of the class and of the model ===== -/
theorem j_and1 (x : Int64) : (x &&& 1) = 0 ↔ x.toInt % 2 = 0 := by
  have h1 : (x &&& 1) = 0 ↔ x.toBitVec &&& 1#64 = 0#64 := by
    rw [← Int64.toBitVec_inj]
    exact Iff.rfl
  have h2 : x.toBitVec &&& 1#64 = 0#64 ↔ x.toBitVec.toNat % 2 = 0 := by
    rw [← BitVec.toNat_inj, BitVec.toNat_and]
    show x.toBitVec.toNat &&& 1 = 0 ↔ _
    rw [Nat.and_one_is_mod]
  have h3 : x.toInt = x.toBitVec.toInt := rfl
  rw [h1, h2, h3, BitVec.toInt_eq_toNat_bmod, Int.bmod_def]
  have := x.toBitVec.isLt
  split <;> omega
theorem j_half {x : Int64} : (x / 2).toInt = x.toInt.tdiv 2 := Int64.toInt_div_of_ne_right x 2 (by decide)
/-- where one is: value, the greatest below and the least above of those gone past, signs -/
abbrev WS : Type := Int × Option Int × Option Int × Nat
def wgo (up : Bool) (w : WS) : Option WS := match (if up then w.2.2.1 else w.2.1) with
  | none => some (w.1 + (if up then 1048576 else -1048576), (if up then some w.1 else w.2.1), (if up then w.2.2.1 else some w.1), w.2.2.2 + 1)
  | some b => if (b - w.1) % 2 = 0 then some ((w.1 + b) / 2, (if up then some w.1 else w.2.1), (if up then w.2.2.1 else some w.1), w.2.2.2 + 1) else none
/-- small enough -/
def wsm (z : Int) : Prop := -1000000000000 ≤ z ∧ z ≤ 1000000000000
def wok (w : WS) : Prop := wsm w.1 ∧ (∀ b, w.2.1 = some b → wsm b) ∧ (∀ b, w.2.2.1 = some b → wsm b) ∧ w.2.2.2 ≤ 1000000
/-- the class's walk holds w -/
def Wc (h : XH) (w : WS) : Prop := (h.2.2.1 18 0).toInt = w.1 ∧ (h.2.2.1 18 1).toInt = w.2.1.getD (-1099511627776) ∧ (h.2.2.1 18 2).toInt = w.2.2.1.getD 1099511627776 ∧ (h.2.1 18 3).toInt = w.2.2.2
/-- nothing but the class's walk has changed -/
def Fw (h h2 : XH) : Prop := h2.1 = h.1 ∧ h2.2.2.2 = h.2.2.2 ∧ ∀ r, r ≠ 18 → h2.2.1 r = h.2.1 r ∧ h2.2.2.1 r = h.2.2.1 r
theorem Fw.rf (h : XH) : Fw h h := ⟨rfl, rfl, fun _ _ => ⟨rfl, rfl⟩⟩
theorem Fw.tr {h h2 h3 : XH} (a : Fw h h2) (b : Fw h2 h3) : Fw h h3 := ⟨b.1.trans a.1, b.2.1.trans a.2.1, fun r hr => ⟨(b.2.2 r hr).1.trans (a.2.2 r hr).1, (b.2.2 r hr).2.trans (a.2.2 r hr).2⟩⟩
theorem Fw.sg {h h2 : XH} {y : Nat → Nat} (a : Fw h h2) (hs : Sg h.1 y) : Sg h2.1 y := by rw [a.1]; exact hs
section
variable {d : Nat} {h : XH} {y : Nat → Nat} {K : XK} {E : XE}
theorem t_X5_restart (hd : 21 ≤ d) (hs : Sg h.1 y) (kk : ∀ h2, Wc h2 (0, none, none, 0) → Fw h h2 → K none h2) : Ca d m_X5_restart [.ref 18] h K E := by
  obtain ⟨d, rfl⟩ : ∃ e, d = e + 1 := ⟨d - 1, by omega⟩
  refine w_X5_restart (by omega) hs (fun h1 e1 h2 e2 h3 e3 h4 e4 => kk h4 ⟨?_, ?_, ?_, ?_⟩ ⟨?_, ?_, fun r hr => ⟨?_, ?_⟩⟩)
  · rw [e4]; show (h3.2.2.1 18 0).toInt = 0; rw [e3, sJ_ne _ _ (by omega), e2, sJ_ne _ _ (by omega), e1, sJ_eq]; rfl
  · rw [e4]; show (h3.2.2.1 18 1).toInt = _; rw [e3, sJ_ne _ _ (by omega), e2, sJ_eq]; rfl
  · rw [e4]; show (h3.2.2.1 18 2).toInt = _; rw [e3, sJ_eq]; rfl
  · rw [e4, sI_eq]; rfl
  · rw [e4]; show h3.1 = _; rw [e3]; show h2.1 = _; rw [e2]; show h1.1 = _; rw [e1]; rfl
  · rw [e4]; show h3.2.2.2 = _; rw [e3]; show h2.2.2.2 = _; rw [e2]; show h1.2.2.2 = _; rw [e1]; rfl
  · rw [e4, sI_nq _ _ hr, e3]; show h2.2.1 r = _; rw [e2]; show h1.2.1 r = _; rw [e1]; rfl
  · rw [e4]; show h3.2.2.1 r = _; rw [e3, sJ_nq _ _ hr, e2, sJ_nq _ _ hr, e1, sJ_nq _ _ hr]
theorem t_X5_goes {a : Int32} {w : WS} {up : Bool} (hd : 21 ≤ d) (hs : Sg h.1 y) (W : Wc h w) (ok : wok w) (ha : a = 0 ↔ up = false) (kk : ∀ w2 h2, wgo up w = some w2 → Wc h2 w2 → Fw h h2 → K (some (.int 1)) h2) (kn : wgo up w = none → K (some (.int 0)) h) : Ca d m_X5_goes [.ref 18, .int a] h K E := by
  obtain ⟨d, rfl⟩ : ∃ e, d = e + 1 := ⟨d - 1, by omega⟩
  obtain ⟨v, lo, hi, n⟩ := w
  obtain ⟨W1, W2, W3, W4⟩ := W
  obtain ⟨k1, k2, k3, k4⟩ := ok
  dsimp only at W1 W2 W3 W4 k1 k2 k3 k4
  have eF : (1099511627776 : Int64).toInt = 1099511627776 := rfl
  have eN : (-1099511627776 : Int64).toInt = -1099511627776 := rfl
  have eU : (1048576 : Int64).toInt = 1048576 := rfl
  have eM : (-1048576 : Int64).toInt = -1048576 := rfl
  have e2 : (2 : Int64).toInt = 2 := rfl
  unfold wsm at k1 k2 k3
  -- the end, with the new value laid
  have fin : ∀ (nv : Int) (u2 u3 u4 u5 u6 : Option Value) (l7 : Int64) (h1 : XH), (h1.2.2.1 18 0).toInt = nv → (∀ s, s ≠ 0 → h1.2.2.1 18 s = h.2.2.1 18 s) → h1.2.1 = h.2.1 → h1.1 = h.1 → h1.2.2.2 = h.2.2.2 → (∀ r, r ≠ 18 → h1.2.2.1 r = h.2.2.1 r) → l7.toInt = v → wgo up (v, lo, hi, n) = some (nv, (if up then some v else lo), (if up then hi else some v), n + 1) → b_X5_goes_114 d 18 a u2 u3 u4 u5 u6 l7 h1 K E := by
    intro nv u2 u3 u4 u5 u6 l7 h1 a1 a2 a3 a4 a5 a6 a7 hw
    have hs1 : Sg h1.1 y := by rw [a4]; exact hs
    have tail : ∀ (s1 s2 : Int64) (u1 u2 u3 u4 u5 u6 u7 u8 : Option Value) (h3 : XH), h3 = x_setJ h1 18 1 s1 → s1.toInt = (if up then some v else lo).getD (-1099511627776) → s2.toInt = (if up then hi else some v).getD 1099511627776 → b_X5_goes_145 d 18 u1 u2 u3 u4 u5 u6 u7 u8 s2 18 h3 K E := by
      intro s1 s2 u1 u2 u3 u4 u5 u6 u7 u8 h3 e3 q1 q2
      have hs3 : Sg h3.1 y := by rw [e3]; exact hs1
      refine w_X5_goes_145 (by omega) hs3 (fun h5 e5 h6 e6 => kk _ h6 hw ⟨?_, ?_, ?_, ?_⟩ ⟨?_, ?_, fun r hr => ⟨?_, ?_⟩⟩)
      · rw [e6]; show (h5.2.2.1 18 0).toInt = nv; rw [e5, sJ_ne _ _ (by omega), e3, sJ_ne _ _ (by omega)]; exact a1
      · rw [e6]; show (h5.2.2.1 18 1).toInt = _; rw [e5, sJ_ne _ _ (by omega), e3, sJ_eq]; exact q1
      · rw [e6]; show (h5.2.2.1 18 2).toInt = _; rw [e5, sJ_eq]; exact q2
      · have c5 : h5.2.1 18 3 = h.2.1 18 3 := by rw [e5]; show h3.2.1 18 3 = _; rw [e3]; show h1.2.1 18 3 = _; rw [a3]
        rw [e6, sI_eq, c5, i_add (by rw [i_1]; omega) (by rw [i_1]; omega), W4, i_1]; rfl
      · rw [e6]; show h5.1 = _; rw [e5]; show h3.1 = _; rw [e3]; exact a4
      · rw [e6]; show h5.2.2.2 = _; rw [e5]; show h3.2.2.2 = _; rw [e3]; exact a5
      · rw [e6, sI_nq _ _ hr, e5]; show h3.2.1 r = _; rw [e3]; show h1.2.1 r = _; rw [a3]
      · rw [e6]; show h5.2.2.1 r = _; rw [e5, sJ_nq _ _ hr, e3, sJ_nq _ _ hr]; exact a6 r hr
    refine w_X5_goes_114 (by omega) hs1 ⟨fun z => ?_, fun z => ?_⟩
    · have hup := ha.mp z
      subst hup
      refine w_X5_goes_128 (by omega) hs1 (fun h3 e3 => ⟨fun _ => tail _ _ _ _ _ _ _ _ _ _ h3 e3 ?_ ?_, fun q => absurd z q⟩)
      · rw [a2 1 (by omega)]; exact W2
      · exact a7
    · have hup : up = true := by
        cases up with
        | false => exact absurd (ha.mpr rfl) z
        | true => rfl
      subst hup
      refine w_X5_goes_128 (by omega) hs1 (fun h3 e3 => ⟨fun q => absurd q z, fun _ => tail _ _ _ _ _ _ _ _ _ _ h3 e3 a7 ?_⟩)
      rw [e3, sJ_ne _ _ (by omega), a2 2 (by omega)]
      exact W3
  -- the bound known
  have mid : ∀ (bd : Option Int) (s0 : Int64) (u2 u3 u4 u5 u6 u7 u8 : Option Value), (if up then hi else lo) = bd → s0.toInt = bd.getD (if up then 1099511627776 else -1099511627776) → (∀ b, bd = some b → -1000000000000 ≤ b ∧ b ≤ 1000000000000) → b_X5_goes_15 d 18 a u2 u3 u4 u5 u6 u7 u8 s0 h K E := by
    intro bd s0 u2 u3 u4 u5 u6 u7 u8 hbd hs0 hbb
    have free : bd = none → ∀ u4 u5 u6 u7 u8, b_X5_goes_37 d 18 a s0 u4 u5 u6 u7 u8 1 h K E := by
      intro hb u4 u5 u6 u7 u8
      have hw : ∀ nv, nv = v + (if up then 1048576 else -1048576) → wgo up (v, lo, hi, n) = some (nv, (if up then some v else lo), (if up then hi else some v), n + 1) := by
        intro nv hnv
        unfold wgo
        dsimp only
        rw [hbd, hb, hnv]
      refine w_X5_goes_37 (by omega) hs ⟨fun _ => ?_, fun q => absurd (by decide) q⟩
      refine w_X5_goes_63 (by omega) hs ⟨fun q => absurd q (by decide), fun _ => ⟨fun q => ?_, fun q => ?_⟩⟩
      · have hup := ha.mp q
        refine w_X5_goes_92 (by omega) hs (fun h1 e1 => fin (v + (if up then 1048576 else -1048576)) _ _ _ _ _ _ h1 ?_ (fun s b => by rw [e1, sJ_ne _ _ b]) (by rw [e1]; rfl) (by rw [e1]; rfl) (by rw [e1]; rfl) (fun r b => by rw [e1, sJ_nq _ _ b]) W1 (hw _ rfl))
        rw [e1, sJ_eq, hup, j_add (by rw [W1, eM]; omega) (by rw [W1, eM]; omega), W1, eM]
        rfl
      · have hup : up = true := by
          cases up with
          | false => exact absurd (ha.mpr rfl) q
          | true => rfl
        refine w_X5_goes_92 (by omega) hs (fun h1 e1 => fin (v + (if up then 1048576 else -1048576)) _ _ _ _ _ _ h1 ?_ (fun s b => by rw [e1, sJ_ne _ _ b]) (by rw [e1]; rfl) (by rw [e1]; rfl) (by rw [e1]; rfl) (fun r b => by rw [e1, sJ_nq _ _ b]) W1 (hw _ rfl))
        rw [e1, sJ_eq, hup, j_add (by rw [W1, eU]; omega) (by rw [W1, eU]; omega), W1, eU]
        rfl
    have bound : ∀ b, bd = some b → ∀ u4 u5 u6 u7 u8, b_X5_goes_37 d 18 a s0 u4 u5 u6 u7 u8 0 h K E := by
      intro b hb u4 u5 u6 u7 u8
      have hbz := hbb b hb
      rw [hb] at hs0
      have hs0' : s0.toInt = b := hs0
      have tw : (s0 - h.2.2.1 18 0).toInt = b - v := by rw [j_sub (by rw [hs0', W1]; omega) (by rw [hs0', W1]; omega), hs0', W1]
      refine w_X5_goes_37 (by omega) hs ⟨fun q => absurd rfl q, fun _ => ⟨fun q => ?_, fun q => kn ?_⟩⟩
      · rw [j_and1, tw] at q
        refine w_X5_goes_63 (by omega) hs ⟨fun _ h1 e1 => fin ((v + b) / 2) _ _ _ _ _ _ h1 ?_ (fun s b => by rw [e1, sJ_ne _ _ b]) (by rw [e1]; rfl) (by rw [e1]; rfl) (by rw [e1]; rfl) (fun r b => by rw [e1, sJ_nq _ _ b]) W1 ?_, fun q => absurd rfl q⟩
        · have hh : ((s0 - h.2.2.1 18 0) / 2).toInt = (b - v).tdiv 2 := by rw [j_half, tw]
          have ht : (b - v).tdiv 2 = (b - v) / 2 := Int.tdiv_eq_ediv_of_dvd (Int.dvd_of_emod_eq_zero q)
          rw [e1, sJ_eq, j_add (by rw [W1, hh, ht]; omega) (by rw [W1, hh, ht]; omega), W1, hh, ht]
          omega
        · unfold wgo
          dsimp only
          rw [hbd, hb]
          dsimp only
          rw [if_pos q]
      · rw [j_and1, tw] at q
        unfold wgo
        dsimp only
        rw [hbd, hb]
        dsimp only
        rw [if_neg q]
    cases hbd' : bd with
    | none =>
      rw [hbd'] at hs0
      refine w_X5_goes_15 (by omega) hs ⟨fun _ => w_X5_goes_32 (by omega) hs (free hbd' _ _ _ _ _), fun q => ⟨fun q2 => ?_, fun _ => w_X5_goes_32 (by omega) hs (free hbd' _ _ _ _ _)⟩⟩
      exfalso
      cases up with
      | false => exact q2 (Int64.toInt_inj.mp (by rw [hs0]; rfl))
      | true => exact q (Int64.toInt_inj.mp (by rw [hs0]; rfl))
    | some b =>
      have hbz := hbb b hbd'
      have hs0' : s0.toInt = b := by rw [hs0, hbd']; rfl
      refine w_X5_goes_15 (by omega) hs ⟨fun q => absurd (congrArg Int64.toInt q) (by rw [hs0', eF]; omega), fun _ => ⟨fun _ => bound b hbd' _ _ _ _ _, fun q => absurd (congrArg Int64.toInt (Classical.not_not.mp q)) (by rw [hs0', eN]; omega)⟩⟩
  refine w_X5_goes (by omega) hs ⟨fun z => ?_, fun z => ?_⟩
  · have hup := ha.mp z
    subst hup
    exact mid lo _ _ _ _ _ _ _ _ rfl W2 k2
  · have hup : up = true := by
      cases up with
      | false => exact absurd (ha.mpr rfl) z
      | true => rfl
    subst hup
    exact mid hi _ _ _ _ _ _ _ _ rfl W3 k3
end
