/-! ===== layer 2: the model gathers: numbered anew ===== -/
/-- what gathering may change -/
def Fga (h h2 : XH) : Prop := h2.1 = h.1 ∧ h2.2.2.2 = h.2.2.2 ∧ h2.2.2.1 = h.2.2.1 ∧ (∀ r, r ≠ 77 → r ≠ 79 → (r < 80 ∨ 84 < r) → h2.2.1 r = h.2.1 r) ∧ (∀ s, s ≠ 7 → s ≠ 15 → h2.2.1 77 s = h.2.1 77 s)
section
variable {d : Nat} {h : XH} {y : Nat → Nat} {m : Nat} {ov : Nat → O} {K : XK} {E : XE}
/-- numbered anew up to t: n of them, the i-th was g i; g0: the heap with the marks -/
def Rn (h g0 h2 : XH) (m : Nat) (ov : Nat → O) (t n : Nat) (g : Nat → Nat) : Prop :=
  (h2.1 = h.1 ∧ h2.2.2.2 = h.2.2.2 ∧ h2.2.2.1 = h.2.2.1 ∧ ∀ r, (r < 80 ∨ 84 < r) → h2.2.1 r = h.2.1 r) ∧
  (∀ i, i < n → g i < t ∧ i ≤ g i ∧ g0.2.1 84 (g i) = 1 ∧ (h2.2.1 84 (g i)).toInt = i) ∧ (∀ i j, i < j → j < n → g i < g j) ∧
  (∀ a, a < t → g0.2.1 84 a = 1 → ∃ i, i < n ∧ g i = a) ∧
  (∀ a, t ≤ a → a < m → h2.2.1 84 a = g0.2.1 84 a ∧ h2.2.1 82 a = h.2.1 82 a ∧ h2.2.1 83 a = h.2.1 83 a) ∧
  (∀ s, 8 * t ≤ s → h2.2.1 80 s = h.2.1 80 s ∧ h2.2.1 81 s = h.2.1 81 s) ∧
  (∀ i, i < n → (h2.2.1 82 i).toInt = (pl (ov (g i))).length ∧ (h2.2.1 83 i).toInt = dep (ov (g i)) ∧ ∀ (k : Nat) (e : O) (q : Nat), (pl (ov (g i)))[k]? = some (e, q) → ∃ j, j < i ∧ ov (g j) = e ∧ (h2.2.1 80 (8 * i + k)).toInt = j ∧ (h2.2.1 81 (8 * i + k)).toInt = q)
theorem t_X7_gathers {kp : Nat} (hd : 21 ≤ d) (hs : Sg h.1 y) (M : Mo h m ov) (hk : (h.2.1 77 15).toInt = kp) (hkp : kp < m) (hP : ∀ p, p < 16 → h.2.1 78 p = 1 → ∃ c : Nat, c < m ∧ (h.2.1 79 p).toInt = c)
    (kk : ∀ (h2 : XH) (m2 : Nat) (ov2 : Nat → O), Mo h2 m2 ov2 → m2 ≤ m → Fga h h2 → (∃ k2 : Nat, k2 < m2 ∧ (h2.2.1 77 15).toInt = k2 ∧ ov2 k2 = ov kp) → (∀ p, p < 16 → h.2.1 78 p = 1 → ∀ c : Nat, (h.2.1 79 p).toInt = c → ∃ c2 : Nat, c2 < m2 ∧ (h2.2.1 79 p).toInt = c2 ∧ ov2 c2 = ov c) → (∀ p, p < 16 → ¬ h.2.1 78 p = 1 → h2.2.1 79 p = h.2.1 79 p) → (m2 < 1500 ∨ ∀ i, i < m2 → Lv h m ov (ov2 i)) → K none h2) : Ca d m_X7_gathers [.ref 77] h K E := by
  obtain ⟨d, rfl⟩ : ∃ e, d = e + 1 := ⟨d - 1, by omega⟩
  have hm := M.1.1
  have hm1 := M.1.2.1
  have hm2 := M.1.2.2
  have e15 : (1500 : Int32).toInt = 1500 := rfl
  refine w_X7_gathers (by omega) hs ⟨fun _ => t_gat_mark (by omega) hs M hk hkp hP (fun u3 g0 N n0 nk nP nC => ?_), fun w => ?_⟩
  · -- the last loop: what places hold
    have fin : ∀ (h3 : XH) (n : Nat) (g : Nat → Nat), Rn h g0 h3 m ov m n g → ∀ (u1 : Option Int32) (u3 : Option Value) (h4 : XH), h4 = x_setI (x_setI h3 77 7 (Int32.ofNat n)) 77 15 (h3.2.1 84 kp) → b_X7_gathers_300 d 77 u1 0 u3 h4 K E := by
      intro h3 n g R u1 u3 h4 e4
      obtain ⟨⟨R1a, R1b, R1c, R1d⟩, R2, R3, R4, R5, R6, R7⟩ := R
      obtain ⟨k2, k2n, k2g⟩ := R4 kp hkp nk
      have k2v := (R2 k2 k2n).2.2.2
      rw [k2g] at k2v
      have nm : n ≤ m := by
        by_cases z : n = 0
        · omega
        · have := R2 (n - 1) (by omega)
          omega
      have nof : (Int32.ofNat n).toInt = n := Int32.toInt_ofNat_of_lt (by omega)
      have gi : ∀ i j, i < n → j < n → g i = g j → i = j := fun i j hi hj hg => by
        by_cases z : i < j
        · have := R3 i j z hj; omega
        · by_cases z2 : j < i
          · have := R3 j i z2 hi; omega
          · omega
      have i77 : ∀ s, s ≠ 7 → s ≠ 15 → h4.2.1 77 s = h.2.1 77 s := fun s a b => by rw [e4, sI_ne _ _ b, sI_ne _ _ a, R1d 77 (by omega)]
      have iot : ∀ r, r ≠ 77 → h4.2.1 r = h3.2.1 r := fun r a => by rw [e4, sI_nq _ _ a, sI_nq _ _ a]
      have i7 : (h4.2.1 77 7).toInt = n := by rw [e4, sI_ne _ _ (by omega), sI_eq]; exact nof
      have i15 : (h4.2.1 77 15).toInt = k2 := by rw [e4, sI_eq]; exact k2v
      have g00 : g 0 = 0 := by
        obtain ⟨i, i1, i2⟩ := R4 0 (by omega) n0
        by_cases z : i = 0
        · rw [z] at i2; exact i2
        · have := R3 0 i (by omega) i1
          omega
      have M4 : ∀ h5 : XH, h5.2.1 77 7 = h4.2.1 77 7 → (∀ r, 80 ≤ r → r ≤ 83 → h5.2.1 r = h4.2.1 r) → Mo h5 n (fun i => ov (g i)) := by
        intro h5 a b
        refine ⟨⟨by rw [a]; exact i7, by omega, by omega⟩, by show ov (g 0) = _; rw [g00]; exact M.2.1, fun i hi => ?_, fun i hi => ?_, fun i hi => M.good (by have := (R2 i hi).1; omega), fun i j hi hj hij => gi i j hi hj (M.inj (by have := (R2 i hi).1; omega) (by have := (R2 j hj).1; omega) hij), fun i hi k e q hkk => ?_⟩
        · rw [b 82 (by omega) (by omega), iot 82 (by omega)]; exact (R7 i hi).1
        · rw [b 83 (by omega) (by omega), iot 83 (by omega)]; exact (R7 i hi).2.1
        · rw [b 80 (by omega) (by omega), b 81 (by omega) (by omega), iot 80 (by omega), iot 81 (by omega)]; exact (R7 i hi).2.2 k e q hkk
      have loop : ∀ (q p : Nat) (l2 : Int32) (u3 : Option Value) (h5 : XH), q + p = 16 → l2.toInt = p → h5.1 = h.1 → h5.2.2.2 = h.2.2.2 → h5.2.2.1 = h.2.2.1 → (∀ r, r ≠ 79 → h5.2.1 r = h4.2.1 r) → (∀ p9, p ≤ p9 → h5.2.1 79 p9 = h.2.1 79 p9) → (∀ p9, p9 < p → h.2.1 78 p9 = 1 → ∀ c : Nat, (h.2.1 79 p9).toInt = c → ∃ c2 : Nat, c2 < n ∧ (h5.2.1 79 p9).toInt = c2 ∧ ov (g c2) = ov c) → (∀ p9, p9 < p → ¬ h.2.1 78 p9 = 1 → h5.2.1 79 p9 = h.2.1 79 p9) → b_X7_gathers_300 d 77 u1 l2 u3 h5 K E := by
        have e16 : (16 : Int32).toInt = 16 := rfl
        intro q
        induction q with
        | zero =>
          intro p l2 u3 h5 hp h2' a1 a2 a3 a4 a5 a6 a7
          refine w_X7_gathers_300 (by omega) (by rw [a1]; exact hs) ⟨fun _ => kk h5 n _ (M4 h5 (by rw [a4 77 (by omega)]) (fun r _ _ => a4 r (by omega))) nm ⟨a1, a2, a3, fun r b1 b2 b3 => ?_, fun s b1 b2 => ?_⟩ ⟨k2, k2n, ?_, ?_⟩ (fun p9 b1 b2 c b3 => a6 p9 (by omega) b2 c b3) (fun p9 b1 b2 => a7 p9 (by omega) b2) (Or.inr (fun i hi => N.2.2 (g i) (by have := (R2 i hi).1; omega) (R2 i hi).2.2.1)), fun w => absurd (i_le.mpr (by rw [e16]; omega)) w⟩
          · rw [a4 r b2, iot r b1]; exact R1d r b3
          · rw [a4 77 (by omega)]; exact i77 s b1 b2
          · rw [a4 77 (by omega)]; exact i15
          · show ov (g k2) = _
            rw [k2g]
        | succ q ih =>
          intro p l2 u3 h5 hp h2' a1 a2 a3 a4 a5 a6 a7
          have hs5 : Sg h5.1 y := by rw [a1]; exact hs
          have I2 : Ix l2 16 := i_Ix h2' (by omega)
          have nx : (l2 + 1).toInt = (p + 1 : Nat) := by rw [i_add (by rw [i_1]; omega) (by rw [i_1]; omega), h2', i_1]; rfl
          have i78 : h5.2.1 78 = h.2.1 78 := by rw [a4 78 (by omega), iot 78 (by omega), R1d 78 (by omega)]
          have i84 : h5.2.1 84 = h3.2.1 84 := by rw [a4 84 (by omega), iot 84 (by omega)]
          have step : ∀ s0 : Int32, (h.2.1 78 p = 1 → ∀ c : Nat, (h.2.1 79 p).toInt = c → ∃ c2 : Nat, c2 < n ∧ s0.toInt = c2 ∧ ov (g c2) = ov c) → (¬ h.2.1 78 p = 1 → s0 = h.2.1 79 p) → b_X7_gathers_341 d 77 u1 l2 u3 s0 l2 79 h5 K E := by
            intro s0 c1 c2
            refine w_X7_gathers_341 (by omega) hs5 ⟨I2, fun h6 e6 => ?_⟩
            rw [i_ix h2'] at e6
            refine ih (p + 1) _ _ h6 (by omega) nx (by rw [e6]; exact a1) (by rw [e6]; exact a2) (by rw [e6]; exact a3) (fun r b => by rw [e6, sI_nq _ _ b]; exact a4 r b) (fun p9 b => by rw [e6, sI_ne _ _ (by omega)]; exact a5 p9 (by omega)) (fun p9 b1 b2 c b3 => ?_) (fun p9 b1 b2 => ?_)
            · by_cases z : p9 = p
              · subst z
                rw [e6, sI_eq]
                exact c1 b2 c b3
              · rw [e6, sI_ne _ _ z]
                exact a6 p9 (by omega) b2 c b3
            · by_cases z : p9 = p
              · subst z
                rw [e6, sI_eq]
                exact c2 b2
              · rw [e6, sI_ne _ _ z]
                exact a7 p9 (by omega) b2
          refine w_X7_gathers_300 (by omega) hs5 ⟨fun w => absurd (i_le.mp w) (by rw [e16]; omega), fun _ => ⟨I2, fun w => ⟨I2, step _ (fun b => ?_) (fun _ => ?_)⟩, fun w => ⟨I2, ?_, step _ (fun b c b2 => ?_) (fun b => ?_)⟩⟩⟩
          · rw [i_ix h2', i78] at w; exact absurd b w
          · rw [i_ix h2']; exact a5 p (Nat.le_refl _)
          · rw [i_ix h2', i78] at w
            obtain ⟨c, c1, c2⟩ := hP p (by omega) (Classical.not_not.mp w)
            rw [i_ix h2', a5 p (Nat.le_refl _)]
            exact i_Ix c2 (by omega)
          · obtain ⟨c9, c1, c2⟩ := hP p (by omega) b
            have ec : c9 = c := by omega
            subst ec
            rw [i_ix h2', a5 p (Nat.le_refl _), i_ix c2, i84]
            obtain ⟨i, i1, i2⟩ := R4 c9 c1 (nP p (by omega) b c9 c2)
            have := (R2 i i1).2.2.2
            rw [i2] at this
            exact ⟨i, i1, this, by rw [i2]⟩
          · rw [i_ix h2', i78] at w
            exact absurd (Classical.not_not.mp w) b
      refine loop 16 0 0 u3 h4 rfl rfl (by rw [e4]; exact R1a) (by rw [e4]; exact R1b) (by rw [e4]; exact R1c) (fun _ _ => rfl) (fun p9 _ => by rw [iot 79 (by omega), R1d 79 (by omega)]) (fun p9 b => by omega) (fun p9 b => by omega)
    -- numbering
    have num : ∀ (q t n : Nat) (g : Nat → Nat) (l1 l2 : Int32) (u3 : Option Value) (h2 : XH), q + t = m → l1.toInt = n → l2.toInt = t → n ≤ t → Rn h g0 h2 m ov t n g → b_X7_gathers_155 d 77 l1 l2 u3 h2 K E := by
      intro q
      induction q with
      | zero =>
        intro t n g l1 l2 u3 h2 hq h1' h2' hnt R
        have ht : t = m := by omega
        subst ht
        have hs2 : Sg h2.1 y := by rw [R.1.1]; exact hs
        have m77 : h2.2.1 77 = h.2.1 77 := R.1.2.2.2 77 (by omega)
        refine w_X7_gathers_155 (by omega) hs2 ⟨fun _ h5 e5 => ?_, fun w => absurd (i_le.mpr (by rw [m77, hm]; omega)) w⟩
        have k15 : (h5.2.1 77 15).toInt = kp := by rw [e5, sI_ne _ _ (by omega), m77]; exact hk
        have k84 : h5.2.1 84 = h2.2.1 84 := by rw [e5]; exact sI_nq _ _ (by omega)
        rw [i_ix k15, k84]
        refine ⟨i_Ix k15 (by omega), fun h6 e6 => fin h2 n g R _ _ h6 ?_⟩
        rw [e6, e5]
        have : l1 = Int32.ofNat n := Int32.toInt_inj.mp (by rw [h1']; exact (Int32.toInt_ofNat_of_lt (by omega)).symm)
        rw [this]
      | succ q ih =>
        intro t n g l1 l2 u3 h2 hq h1' h2' hnt R
        have hs2 : Sg h2.1 y := by rw [R.1.1]; exact hs
        have Rc := R
        obtain ⟨⟨R1a, R1b, R1c, R1d⟩, R2, R3, R4, R5, R6, R7⟩ := Rc
        have m77 : h2.2.1 77 = h.2.1 77 := R1d 77 (by omega)
        have nx : (l2 + 1).toInt = (t + 1 : Nat) := by rw [i_add (by rw [i_1]; omega) (by rw [i_1]; omega), h2', i_1]; rfl
        have nx1 : (l1 + 1).toInt = (n + 1 : Nat) := by rw [i_add (by rw [i_1]; omega) (by rw [i_1]; omega), h1', i_1]; rfl
        have I2 : Ix l2 2000 := i_Ix h2' (by omega)
        have I1 : Ix l1 2000 := i_Ix h1' (by omega)
        have lt8 := M.len (show t < m by omega)
        refine w_X7_gathers_155 (by omega) hs2 ⟨fun w => absurd (i_le.mp w) (by rw [m77, hm]; omega), fun _ => ⟨I2, fun w => w_X7_gathers_274 (by omega) hs2 (ih (t + 1) n g l1 (l2 + 1) _ h2 (by omega) h1' nx (by omega) ⟨⟨R1a, R1b, R1c, R1d⟩, fun i hi => ⟨by have := (R2 i hi).1; omega, (R2 i hi).2⟩, R3, fun a ha hv => ?_, fun a b1 b2 => R5 a (by omega) b2, fun s b1 => R6 s (by omega), R7⟩), fun w => ?_⟩⟩
        · by_cases z : a = t
          · rw [i_ix h2', (R5 t (Nat.le_refl _) (by omega)).1] at w
            rw [z] at hv
            exact absurd hv w
          · exact R4 a (by omega) hv
        · rw [i_ix h2', (R5 t (Nat.le_refl _) (by omega)).1] at w
          have hv := Classical.not_not.mp w
          -- a row is copied
          have row : ∀ (q k : Nat) (l3 : Int32) (h3 : XH), q + k = (pl (ov t)).length → l3.toInt = k → (h3.1 = h.1 ∧ h3.2.2.2 = h.2.2.2 ∧ h3.2.2.1 = h.2.2.1 ∧ ∀ r, r ≠ 80 → r ≠ 81 → h3.2.1 r = h2.2.1 r) → (∀ s, (s < 8 * n ∨ 8 * n + k ≤ s) → h3.2.1 80 s = h2.2.1 80 s ∧ h3.2.1 81 s = h2.2.1 81 s) → (∀ (k9 : Nat) (e : O) (q9 : Nat), k9 < k → (pl (ov t))[k9]? = some (e, q9) → ∃ j, j < n ∧ ov (g j) = e ∧ (h3.2.1 80 (8 * n + k9)).toInt = j ∧ (h3.2.1 81 (8 * n + k9)).toInt = q9) → b_X7_gathers_175 d 77 l1 l2 l3 h3 K E := by
            intro q
            induction q with
            | zero =>
              intro k l3 h3 hq3 h3' a1 a2 a3
              have hs3 : Sg h3.1 y := by rw [a1.1]; exact hs
              have s82 : (h3.2.1 82 (ix l2)).toInt = (pl (ov t)).length := by rw [i_ix h2', a1.2.2.2 82 (by omega) (by omega), (R5 t (Nat.le_refl _) (by omega)).2.1]; exact M.2.2.1 t (by omega)
              refine w_X7_gathers_175 (by omega) hs3 ⟨I2, fun _ => ⟨I2, I1, fun h5 e5 => ⟨I2, I1, fun h6 e6 => ⟨I2, fun h7 e7 => ?_⟩⟩⟩, fun v => absurd (i_le.mpr (by rw [s82, h3']; omega)) v⟩
              rw [i_ix h1', i_ix h2'] at e5 e6
              rw [i_ix h2'] at e7
              have c83 : h5.2.1 83 = h2.2.1 83 := by rw [e5, sI_nq _ _ (by omega)]; exact a1.2.2.2 83 (by omega) (by omega)
              have c82 : h3.2.1 82 = h2.2.1 82 := a1.2.2.2 82 (by omega) (by omega)
              rw [c82] at e5
              rw [c83] at e6
              have i82 : ∀ s, h7.2.1 82 s = if s = n then h2.2.1 82 t else h2.2.1 82 s := fun s => by
                rw [e7, sI_nq _ _ (by omega), e6, sI_nq _ _ (by omega), e5]
                by_cases z : s = n
                · rw [z, sI_eq, if_pos rfl]
                · rw [sI_ne _ _ z, if_neg z, c82]
              have i83 : ∀ s, h7.2.1 83 s = if s = n then h2.2.1 83 t else h2.2.1 83 s := fun s => by
                rw [e7, sI_nq _ _ (by omega), e6]
                by_cases z : s = n
                · rw [z, sI_eq, if_pos rfl]
                · rw [sI_ne _ _ z, if_neg z, c83]
              have i84 : ∀ s, h7.2.1 84 s = if s = t then l1 else h2.2.1 84 s := fun s => by
                rw [e7]
                by_cases z : s = t
                · rw [z, sI_eq, if_pos rfl]
                · rw [sI_ne _ _ z, if_neg z, e6, sI_nq _ _ (by omega), e5, sI_nq _ _ (by omega), a1.2.2.2 84 (by omega) (by omega)]
              have iot : ∀ r, r ≠ 82 → r ≠ 83 → r ≠ 84 → h7.2.1 r = h3.2.1 r := fun r b1 b2 b3 => by rw [e7, sI_nq _ _ b3, e6, sI_nq _ _ b2, e5, sI_nq _ _ b1]
              obtain ⟨cg, hcg⟩ : ∃ f : Nat → Nat, f = fun i => if i = n then t else g i := ⟨_, rfl⟩
              have cgn : cg n = t := by rw [hcg]; exact if_pos rfl
              have cgi : ∀ i, i < n → cg i = g i := fun i hi => by rw [hcg]; exact if_neg (by omega)
              refine w_X7_gathers_274 (by omega) (by rw [e7]; show Sg h6.1 y; rw [e6]; show Sg h5.1 y; rw [e5]; exact hs3) (ih (t + 1) (n + 1) cg _ _ _ h7 (by omega) nx1 nx (by omega) ⟨⟨by rw [e7]; show h6.1 = _; rw [e6]; show h5.1 = _; rw [e5]; exact a1.1, by rw [e7]; show h6.2.2.2 = _; rw [e6]; show h5.2.2.2 = _; rw [e5]; exact a1.2.1, by rw [e7]; show h6.2.2.1 = _; rw [e6]; show h5.2.2.1 = _; rw [e5]; exact a1.2.2.1, fun r hr => ?_⟩, fun i hi => ?_, fun i j hij hj => ?_, fun a ha hva => ?_, fun a b1 b2 => ?_, fun s b1 => ?_, fun i hi => ?_⟩)
              · rw [iot r (by omega) (by omega) (by omega), a1.2.2.2 r (by omega) (by omega)]; exact R1d r hr
              · by_cases z : i = n
                · rw [z, cgn, i84, if_pos rfl]
                  exact ⟨by omega, hnt, hv, h1'⟩
                · have ri := R2 i (by omega)
                  rw [cgi i (by omega), i84, if_neg (by omega)]
                  exact ⟨by omega, ri.2⟩
              · by_cases z : j = n
                · rw [z, cgn, cgi i (by omega)]
                  exact (R2 i (by omega)).1
                · rw [cgi i (by omega), cgi j (by omega)]
                  exact R3 i j hij (by omega)
              · by_cases z : a = t
                · exact ⟨n, by omega, by rw [cgn, z]⟩
                · obtain ⟨i, i1, i2⟩ := R4 a (by omega) hva
                  exact ⟨i, by omega, by rw [cgi i i1]; exact i2⟩
              · rw [i82, i83, i84, if_neg (by omega), if_neg (by omega), if_neg (by omega)]
                exact R5 a (by omega) b2
              · rw [iot 80 (by omega) (by omega) (by omega), iot 81 (by omega) (by omega) (by omega), (a2 s (by omega)).1, (a2 s (by omega)).2]
                exact R6 s (by omega)
              · rw [i82, i83, iot 80 (by omega) (by omega) (by omega), iot 81 (by omega) (by omega) (by omega)]
                by_cases z : i = n
                · rw [if_pos z, if_pos z, z, cgn, (R5 t (Nat.le_refl _) (by omega)).2.1, (R5 t (Nat.le_refl _) (by omega)).2.2]
                  refine ⟨M.2.2.1 t (by omega), M.2.2.2.1 t (by omega), fun k9 e q9 hk9 => ?_⟩
                  obtain ⟨j, j1, j2, j3, j4⟩ := a3 k9 e q9 (by have := (List.getElem?_eq_some_iff.mp hk9).1; omega) hk9
                  exact ⟨j, j1, by rw [cgi j j1]; exact j2, j3, j4⟩
                · have ri := R7 i (by omega)
                  have rg := R2 i (by omega)
                  have li8 := M.len (show g i < m by omega)
                  rw [if_neg z, if_neg z, cgi i (by omega)]
                  refine ⟨ri.1, ri.2.1, fun k9 e q9 hk9 => ?_⟩
                  have hkl := (List.getElem?_eq_some_iff.mp hk9).1
                  obtain ⟨j, j1, j2, j3, j4⟩ := ri.2.2 k9 e q9 hk9
                  rw [(a2 (8 * i + k9) (by omega)).1, (a2 (8 * i + k9) (by omega)).2]
                  exact ⟨j, j1, by rw [cgi j (by omega)]; exact j2, j3, j4⟩
            | succ q ihq =>
              intro k l3 h3 hq3 h3' a1 a2 a3
              have hs3 : Sg h3.1 y := by rw [a1.1]; exact hs
              have s82 : (h3.2.1 82 (ix l2)).toInt = (pl (ov t)).length := by rw [i_ix h2', a1.2.2.2 82 (by omega) (by omega), (R5 t (Nat.le_refl _) (by omega)).2.1]; exact M.2.2.1 t (by omega)
              obtain ⟨e, q9, gk⟩ := getc (A := pl (ov t)) (m := k) (by omega)
              obtain ⟨x1, x2, x3, x4, x5⟩ := M.pw (show t < m by omega) gk
              have kt := e8k l2 l3 h2' (by omega) h3' (by omega)
              have kn := e8k l1 l3 h1' (by omega) h3' (by omega)
              have It : Ix (8 * l2 + l3) 16000 := i_Ix kt (by omega)
              have In : Ix (8 * l1 + l3) 16000 := i_Ix kn (by omega)
              have r80 : h3.2.1 80 (8 * t + k) = h.2.1 80 (8 * t + k) := by rw [(a2 (8 * t + k) (by omega)).1]; exact (R6 (8 * t + k) (by omega)).1
              have r81 : h3.2.1 81 (8 * t + k) = h.2.1 81 (8 * t + k) := by rw [(a2 (8 * t + k) (by omega)).2]; exact (R6 (8 * t + k) (by omega)).2
              obtain ⟨i, i1, i2⟩ := R4 x1 x2 (nC t (by omega) hv k e q9 gk x1 x4)
              have iv := (R2 i i1).2.2.2
              rw [i2] at iv
              refine w_X7_gathers_175 (by omega) hs3 ⟨I2, fun v => absurd (i_le.mp v) (by rw [s82, h3']; omega), fun _ => ⟨It, ?_, In, fun h5 e5 => ⟨It, In, fun h6 e6 => ?_⟩⟩⟩
              · rw [i_ix kt, r80]; exact i_Ix x4 (by omega)
              · rw [i_ix kt, i_ix kn, r80, i_ix x4, a1.2.2.2 84 (by omega) (by omega)] at e5
                have c81 : h5.2.1 81 = h3.2.1 81 := by rw [e5]; exact sI_nq _ _ (by omega)
                rw [i_ix kt, i_ix kn, c81, r81] at e6
                have i80 : ∀ s, h6.2.1 80 s = if s = 8 * n + k then h2.2.1 84 x1 else h3.2.1 80 s := fun s => by
                  rw [e6, sI_nq _ _ (by omega), e5]
                  by_cases z : s = 8 * n + k
                  · rw [z, sI_eq, if_pos rfl]
                  · rw [sI_ne _ _ z, if_neg z]
                have i81 : ∀ s, h6.2.1 81 s = if s = 8 * n + k then h.2.1 81 (8 * t + k) else h3.2.1 81 s := fun s => by
                  rw [e6]
                  by_cases z : s = 8 * n + k
                  · rw [z, sI_eq, if_pos rfl]
                  · rw [sI_ne _ _ z, if_neg z, c81]
                refine ihq (k + 1) _ h6 (by omega) ?_ ⟨by rw [e6]; show h5.1 = _; rw [e5]; exact a1.1, by rw [e6]; show h5.2.2.2 = _; rw [e5]; exact a1.2.1, by rw [e6]; show h5.2.2.1 = _; rw [e5]; exact a1.2.2.1, fun r b1 b2 => by rw [e6, sI_nq _ _ b2, e5, sI_nq _ _ b1]; exact a1.2.2.2 r b1 b2⟩ (fun s b1 => ?_) (fun k9 e9 q99 b1 b2 => ?_)
                · rw [i_add (by rw [i_1]; omega) (by rw [i_1]; omega), h3', i_1]; rfl
                · rw [i80, i81, if_neg (by omega), if_neg (by omega)]; exact a2 s (by omega)
                · rw [i80, i81]
                  by_cases z : k9 = k
                  · rw [z, gk] at b2
                    cases b2
                    rw [z, if_pos rfl, if_pos rfl]
                    exact ⟨i, i1, by rw [i2]; exact x3, iv, x5⟩
                  · rw [if_neg (by omega), if_neg (by omega)]
                    exact a3 k9 e9 q99 (by omega) b2
          exact row _ 0 0 h2 (Nat.add_zero _) rfl ⟨R1a, R1b, R1c, fun _ _ _ => rfl⟩ (fun _ _ => ⟨rfl, rfl⟩) (fun k9 _ _ b => by omega)
    refine num m 0 0 (fun i => i) 0 0 u3 g0 (Nat.add_zero _) rfl rfl (Nat.le_refl _) ⟨⟨N.1.1, N.1.2.1, N.1.2.2.1, fun r hr => N.1.2.2.2 r (by omega)⟩, fun i hi => by omega, fun i j _ hj => by omega, fun a ha => by omega, fun a _ _ => ⟨rfl, by rw [N.1.2.2.2 82 (by omega)], by rw [N.1.2.2.2 83 (by omega)]⟩, fun s _ => ⟨by rw [N.1.2.2.2 80 (by omega)], by rw [N.1.2.2.2 81 (by omega)]⟩, fun i hi => by omega⟩
  · rw [i_le, hm, e15] at w
    exact kk h m ov M (Nat.le_refl _) ⟨rfl, rfl, rfl, fun _ _ _ _ => rfl, fun _ _ _ => rfl⟩ ⟨kp, hkp, hk, rfl⟩ (fun p b1 b2 c b3 => by
      obtain ⟨c9, c1, c2⟩ := hP p b1 b2
      exact ⟨c9, c1, c2, by rw [show c9 = c by omega]⟩) (fun _ _ _ => rfl) (Or.inl (by omega))
end
