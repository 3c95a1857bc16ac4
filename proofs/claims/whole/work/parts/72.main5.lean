/-! ===== layer 2: the model's signOf and cut ===== -/
def loI (S : XS) (b : Int32) (s : Nat) (l7 : Int32) (l3 : Int64) : Prop := (l7 = 0 ∧ gof S b s = -1099511627776) ∨ (l7 = 1 ∧ l3.toInt = gof S b s ∧ fitN (gof S b s))
def hiI (S : XS) (c : Int32) (s : Nat) (l8 : Int32) (l5 : Int64) : Prop := (l8 = 0 ∧ lof S c s = 1099511627776) ∨ (l8 = 1 ∧ l5.toInt = lof S c s ∧ fitN (lof S c s))
def cuJ (S : XS) (b c : Int32) (sb sc : Nat) (l3 l5 : Int64) (l7 l8 l9 : Int32) : Prop := (l9 = 1 ∧ allN S b sb ∧ allN S c sc ∧ loI S b sb l7 l3 ∧ hiI S c sc l8 l5) ∨ (l9 = 0 ∧ ¬ (allN S b 16 ∧ allN S c 16))
theorem allN_s {S : XS} {b : Int32} {s : Nat} (h : allN S b s) (g : btI b s = true → S.1 s = 2) : allN S b (s + 1) := by
  intro i hi hb
  by_cases w : i = s
  · rw [w] at hb ⊢; exact g hb
  · exact h i (by omega) hb
section
variable {d : Nat} {h : XH} {y : Nat → Nat} {S : XS} {K : XK} {E : XE}
theorem t_X7_cuts {b c : Int32} (hd : 34 ≤ d) (hs : Sg h.1 y) (I : MI h S) (V : VN S) (kk : ∀ w h2, (allN S b 16 ∧ allN S c 16) ∧ gof S b 16 < lof S c 16 → cW S b c = some w → fitN w.1 → Wm h2 w → Fq h h2 → K (some (.int 1)) h2) (kn : ∀ h2, ¬ ((allN S b 16 ∧ allN S c 16) ∧ gof S b 16 < lof S c 16 ∧ cfit (cW S b c)) → Fq h h2 → K (some (.int 0)) h2) : Ca d m_X7_cuts [.ref 77, .int b, .int c] h K E := by
  obtain ⟨d, rfl⟩ : ∃ e, d = e + 1 := ⟨d - 1, by omega⟩
  obtain ⟨m, om, -, -, I3⟩ := id I
  have e16 : (16 : Int32).toInt = 16 := rfl
  have loop : ∀ (q s : Nat) (l3 l5 : Int64) (l7 l8 l9 l10 : Int32), q + s = 16 → l10.toInt = s → cuJ S b c s s l3 l5 l7 l8 l9 → b_X7_cuts_17 d 77 b c l3 l5 l7 l8 l9 l10 h K E := by
    intro q
    induction q with
    | zero =>
      intro s l3 l5 l7 l8 l9 l10 hq h10 J
      have hsc : s = 16 := by omega
      subst hsc
      refine w_X7_cuts_17 (by omega) hs ⟨fun _ => ?_, fun z => absurd (i_le.mpr (by rw [e16]; omega)) z⟩
      rcases J with ⟨j9, j1, j2, j3, j4⟩ | ⟨j9, j1⟩
      · have b1 := gof_b V 16 (Nat.le_refl _) j1
        have b2 := lof_b V 16 (Nat.le_refl _) j2
        refine ⟨fun v => absurd (by rw [← v, j9]) n1_0, fun _ => ?_⟩
        have fin : gof S b 16 < lof S c 16 → ∀ u1 u2 u9 u10, b_X7_cuts_185 d 77 u1 u2 l3 l5 l7 l8 u9 u10 h K E := by
          intro hlt u1 u2 u9 u10
          refine w_X7_cuts_185 (by omega) hs (t_X7_finds (l := gof S b 16) (u := lof S c 16) (by omega) hs ⟨hlt, b1, b2⟩ ⟨fun z => ?_, fun z => ?_⟩ ⟨fun z => ?_, fun z => ?_⟩ (fun w h2 ew fw W2 F2 => ⟨1, rfl, F2.sg hs, fun v => absurd v n1_0, fun _ => kk w h2 ⟨⟨j1, j2⟩, hlt⟩ ew fw W2 F2⟩) (fun h2 n F2 => ⟨0, rfl, F2.sg hs, fun _ => kn h2 (fun v => n v.2.2) F2, fun v => absurd rfl v⟩))
          · rcases j3 with ⟨_, g⟩ | ⟨g, _⟩
            · exact g
            · rw [z] at g; exact absurd g.symm n1_0
          · rcases j3 with ⟨g, _⟩ | ⟨_, g, _⟩
            · exact absurd g z
            · exact g
          · rcases j4 with ⟨_, g⟩ | ⟨g, _⟩
            · exact g
            · rw [z] at g; exact absurd g.symm n1_0
          · rcases j4 with ⟨g, _⟩ | ⟨_, g, _⟩
            · exact absurd g z
            · exact g
        refine ⟨fun z => fin ?_ _ _ _ _, fun z => ⟨fun z2 => fin ?_ _ _ _ _, fun z2 => ⟨fun w => kn h (fun v => ?_) (Fq.rf _), fun w => fin ?_ _ _ _ _⟩⟩⟩
        · rcases j3 with ⟨_, g⟩ | ⟨g, _⟩
          · unfold fitN at b2; omega
          · rw [z] at g; exact absurd g.symm n1_0
        · rcases j4 with ⟨_, g⟩ | ⟨g, _⟩
          · unfold fitN at b1; omega
          · rw [z2] at g; exact absurd g.symm n1_0
        · rcases j3 with ⟨g, _⟩ | ⟨_, g3, _⟩
          · exact absurd g z
          · rcases j4 with ⟨g, _⟩ | ⟨_, g4, _⟩
            · exact absurd g z2
            · rw [j_le, g3, g4] at w
              have := v.2.1
              omega
        · rcases j3 with ⟨g, _⟩ | ⟨_, g3, _⟩
          · exact absurd g z
          · rcases j4 with ⟨g, _⟩ | ⟨_, g4, _⟩
            · exact absurd g z2
            · rw [j_le, g3, g4] at w
              omega
      · exact ⟨fun _ => kn h (fun v => j1 v.1) (Fq.rf _), fun v => absurd j9 v⟩
    | succ q ih =>
      intro s l3 l5 l7 l8 l9 l10 hq h10 J
      have nx : (l10 + 1).toInt = (s + 1 : Nat) := by rw [i_add (by rw [i_1]; omega) (by rw [i_1]; omega), h10, i_1]; rfl
      have hx : Ix l10 16 := i_Ix h10 (by omega)
      have hxs : ix l10 = s := i_ix h10
      have hv : S.1 s = 2 → (h.2.1 79 s).toInt64.toInt = S.2.2.1 s := fun z => by rw [i_2j]; exact (I3 s (by omega)).2.1 z
      have eg : gof S b (s + 1) = if btI b s = true then max (gof S b s) (S.2.2.1 s) else gof S b s := rfl
      have el : lof S c (s + 1) = if btI c s = true then min (lof S c s) (S.2.2.1 s) else lof S c s := rfl
      -- behind the lows
      have K89 : ∀ (l3 : Int64) (l7 l9 : Int32), cuJ S b c (s + 1) s l3 l5 l7 l8 l9 → b_X7_cuts_89 d 77 b c l3 l5 l7 l8 l9 l10 h K E := by
        intro l3 l7 l9 J
        have K157 : ∀ (l5 : Int64) (l8 l9 : Int32), cuJ S b c (s + 1) (s + 1) l3 l5 l7 l8 l9 → b_X7_cuts_157 d 77 b c l3 l5 l7 l8 l9 l10 h K E := fun l5 l8 l9 J => w_X7_cuts_157 (by omega) hs (ih (s + 1) l3 l5 l7 l8 l9 (l10 + 1) (by omega) nx J)
        refine w_X7_cuts_89 (by omega) hs ⟨fun z => ?_, fun z => ?_⟩
        · have hz := (btI_t h10 (by omega)).mp z
          rw [if_pos hz] at el
          have st : ∀ (s0 : Int32) (u9 : Option Value), ((s0 = 1 ∧ S.1 s = 2 ∧ allN S b (s + 1) ∧ allN S c s ∧ loI S b (s + 1) l7 l3 ∧ hiI S c s l8 l5) ∨ (s0 = 0 ∧ ¬ (allN S b 16 ∧ allN S c 16))) → b_X7_cuts_118 d 77 b c l3 l5 l7 l8 u9 l10 s0 h K E := by
            intro s0 u9 J2
            refine w_X7_cuts_118 (by omega) hs ⟨fun w8 => w_X7_cuts_139 (by omega) hs ⟨hx, w_X7_cuts_152 (by omega) hs (K157 _ 1 s0 ?_)⟩, fun w8 => ⟨hx, fun w => w_X7_cuts_152 (by omega) hs (K157 _ 1 s0 ?_), fun w => w_X7_cuts_139 (by omega) hs ⟨hx, w_X7_cuts_152 (by omega) hs (K157 _ 1 s0 ?_)⟩⟩⟩
            · rw [hxs]
              rcases J2 with ⟨j0, j1, j2, j3, j4, j5⟩ | j0
              · refine Or.inl ⟨j0, j2, allN_s j3 (fun _ => j1), j4, Or.inr ⟨rfl, ?_, ?_⟩⟩
                all_goals rw [el]
                all_goals have fv := V s (by omega) j1
                all_goals rcases j5 with ⟨_, g⟩ | ⟨g, _⟩
                all_goals first
                  | (rw [w8] at g; exact absurd g.symm n1_0)
                  | skip
                · rw [hv j1]; unfold fitN at fv; omega
                · unfold fitN at *; omega
              · exact Or.inr j0
            · rcases J2 with ⟨j0, j1, j2, j3, j4, j5⟩ | j0
              · refine Or.inl ⟨j0, j2, allN_s j3 (fun _ => j1), j4, Or.inr ⟨rfl, ?_, ?_⟩⟩
                all_goals rw [el]
                all_goals have fv := V s (by omega) j1
                all_goals rcases j5 with ⟨g, _⟩ | ⟨_, g, g2⟩
                all_goals first
                  | exact absurd g w8
                  | skip
                · rw [hxs, j_le, hv j1, g] at w; omega
                · unfold fitN at *; omega
              · exact Or.inr j0
            · rw [hxs]
              rw [hxs] at w
              rcases J2 with ⟨j0, j1, j2, j3, j4, j5⟩ | j0
              · refine Or.inl ⟨j0, j2, allN_s j3 (fun _ => j1), j4, Or.inr ⟨rfl, ?_, ?_⟩⟩
                all_goals rw [el]
                all_goals have fv := V s (by omega) j1
                all_goals rcases j5 with ⟨g, _⟩ | ⟨_, g, g2⟩
                all_goals first
                  | exact absurd g w8
                  | skip
                · rw [j_le, hv j1, g] at w
                  rw [hv j1]; omega
                · unfold fitN at *; omega
              · exact Or.inr j0
          refine ⟨fun w => w_X7_cuts_117 (by omega) hs (st 0 _ (Or.inr ⟨rfl, ?_⟩)), fun w => t_X7_isKind (p := s) (by omega) hs h10 (by omega) (fun hk => ⟨1, rfl, hs, fun v => absurd v n1_0, fun _ => st 1 _ ?_⟩) (fun hk => ⟨0, rfl, hs, fun _ => w_X7_cuts_117 (by omega) hs (st 0 _ (Or.inr ⟨rfl, fun v => hk ?_⟩)), fun v => absurd rfl v⟩)⟩
          · rcases J with ⟨j0, _⟩ | ⟨_, j1⟩
            · rw [w] at j0; exact absurd j0.symm n1_0
            · exact j1
          · rcases J with ⟨j0, j1, j2, j3, j4⟩ | ⟨j0, _⟩
            · exact Or.inl ⟨rfl, by rw [← (I3 s (by omega)).1]; exact hk, j1, j2, j3, j4⟩
            · exact absurd j0 w
          · rw [(I3 s (by omega)).1]; exact v.2 s (by omega) hz
        · have hz : ¬ btI c s = true := fun v => z ((btI_t h10 (by omega)).mpr v)
          rw [if_neg hz] at el
          refine K157 l5 l8 l9 ?_
          rcases J with ⟨j0, j1, j2, j3, j4⟩ | j0
          · refine Or.inl ⟨j0, j1, allN_s j2 (fun v => absurd v hz), j3, ?_⟩
            unfold hiI
            rw [el]
            exact j4
          · exact Or.inr j0
      refine w_X7_cuts_17 (by omega) hs ⟨fun z => absurd (i_le.mp z) (by rw [e16]; omega), fun _ => ⟨fun z => ?_, fun z => ?_⟩⟩
      · have hz := (btI_t h10 (by omega)).mp z
        rw [if_pos hz] at eg
        have st : ∀ (s0 : Int32) (u9 : Option Value), ((s0 = 1 ∧ S.1 s = 2 ∧ allN S b s ∧ allN S c s ∧ loI S b s l7 l3 ∧ hiI S c s l8 l5) ∨ (s0 = 0 ∧ ¬ (allN S b 16 ∧ allN S c 16))) → b_X7_cuts_53 d 77 b c l3 l5 l7 l8 u9 l10 s0 h K E := by
          intro s0 u9 J2
          refine w_X7_cuts_53 (by omega) hs ⟨fun w8 => w_X7_cuts_73 (by omega) hs ⟨hx, w_X7_cuts_85 (by omega) hs (K89 _ 1 s0 ?_)⟩, fun w8 => ⟨hx, fun w => w_X7_cuts_85 (by omega) hs (K89 _ 1 s0 ?_), fun w => w_X7_cuts_73 (by omega) hs ⟨hx, w_X7_cuts_85 (by omega) hs (K89 _ 1 s0 ?_)⟩⟩⟩
          · rw [hxs]
            rcases J2 with ⟨j0, j1, j2, j3, j4, j5⟩ | j0
            · refine Or.inl ⟨j0, allN_s j2 (fun _ => j1), j3, Or.inr ⟨rfl, ?_, ?_⟩, j5⟩
              all_goals rw [eg]
              all_goals have fv := V s (by omega) j1
              all_goals rcases j4 with ⟨_, g⟩ | ⟨g, _⟩
              all_goals first
                | (rw [w8] at g; exact absurd g.symm n1_0)
                | skip
              · rw [hv j1]; unfold fitN at fv; omega
              · unfold fitN at *; omega
            · exact Or.inr j0
          · rcases J2 with ⟨j0, j1, j2, j3, j4, j5⟩ | j0
            · refine Or.inl ⟨j0, allN_s j2 (fun _ => j1), j3, Or.inr ⟨rfl, ?_, ?_⟩, j5⟩
              all_goals rw [eg]
              all_goals have fv := V s (by omega) j1
              all_goals rcases j4 with ⟨g, _⟩ | ⟨_, g, g2⟩
              all_goals first
                | exact absurd g w8
                | skip
              · rw [hxs, j_le, hv j1, g] at w; omega
              · unfold fitN at *; omega
            · exact Or.inr j0
          · rw [hxs]
            rw [hxs] at w
            rcases J2 with ⟨j0, j1, j2, j3, j4, j5⟩ | j0
            · refine Or.inl ⟨j0, allN_s j2 (fun _ => j1), j3, Or.inr ⟨rfl, ?_, ?_⟩, j5⟩
              all_goals rw [eg]
              all_goals have fv := V s (by omega) j1
              all_goals rcases j4 with ⟨g, _⟩ | ⟨_, g, g2⟩
              all_goals first
                | exact absurd g w8
                | skip
              · rw [j_le, hv j1, g] at w
                rw [hv j1]; omega
              · unfold fitN at *; omega
            · exact Or.inr j0
        refine ⟨fun w => w_X7_cuts_52 (by omega) hs (st 0 _ (Or.inr ⟨rfl, ?_⟩)), fun w => t_X7_isKind (p := s) (by omega) hs h10 (by omega) (fun hk => ⟨1, rfl, hs, fun v => absurd v n1_0, fun _ => st 1 _ ?_⟩) (fun hk => ⟨0, rfl, hs, fun _ => w_X7_cuts_52 (by omega) hs (st 0 _ (Or.inr ⟨rfl, fun v => hk ?_⟩)), fun v => absurd rfl v⟩)⟩
        · rcases J with ⟨j0, _⟩ | ⟨_, j1⟩
          · rw [w] at j0; exact absurd j0.symm n1_0
          · exact j1
        · rcases J with ⟨j0, j1, j2, j3, j4⟩ | ⟨j0, _⟩
          · exact Or.inl ⟨rfl, by rw [← (I3 s (by omega)).1]; exact hk, j1, j2, j3, j4⟩
          · exact absurd j0 w
        · rw [(I3 s (by omega)).1]; exact v.1 s (by omega) hz
      · have hz : ¬ btI b s = true := fun v => z ((btI_t h10 (by omega)).mpr v)
        rw [if_neg hz] at eg
        refine K89 l3 l7 l9 ?_
        rcases J with ⟨j0, j1, j2, j3, j4⟩ | j0
        · refine Or.inl ⟨j0, allN_s j1 (fun v => absurd v hz), j2, ?_, j4⟩
          unfold loI
          rw [eg]
          exact j3
        · exact Or.inr j0
  exact w_X7_cuts (by omega) hs (loop 16 0 0 0 0 0 1 0 rfl rfl (Or.inl ⟨rfl, fun i hi => absurd hi (by omega), fun i hi => absurd hi (by omega), Or.inl ⟨rfl, rfl⟩, Or.inl ⟨rfl, rfl⟩⟩))
theorem m_signOf {a b : Int32} (hd : 50 ≤ d) (hs : Sg h.1 y) (I : MI h S) (V : VN S) (kk : KM h 1 (f_signOf a b S) K) : Ca d m_X7_signOf [.ref 77, .int a, .int b] h K E := by
  obtain ⟨d, rfl⟩ : ∃ e, d = e + 1 := ⟨d - 1, by omega⟩
  obtain ⟨m, om, I1, I2, I3⟩ := id I
  have no1 : ¬ (isp a ∧ 0 ≤ b.toInt) → b_X7_signOf_15 d 77 a b none h K E := fun w => by
    refine w_X7_signOf_15 (by omega) hs (w_X7_signOf_16 (by omega) hs ⟨fun v => absurd rfl v, fun _ => w_X7_signOf_40 (by omega) hs (fun h1 e1 => ⟨fun v => absurd v n1_0, fun _ => ?_⟩)⟩)
    obtain ⟨b1, b2, b3⟩ := I.st 1
    rw [← e1] at b1 b2 b3
    exact kk.b (out2_1 w) (by decide) b1 b2 (by rw [b3]; rfl) ⟨_, rfl, fun w => w.elim⟩
  refine w_X7_signOf (by omega) hs ⟨fun z => ⟨fun w => no1 (fun v => ?_), fun w => ?_⟩, fun z => no1 (fun v => z v.1)⟩
  · rw [i_lt, i_0] at w; omega
  rw [i_lt, i_0] at w
  have z2 : 0 ≤ b.toInt := by omega
  refine w_X7_signOf_16 (by omega) hs ⟨fun _ => t_X7_isKind (by omega) hs (isp_p z).1 (isp_p z).2 (fun hk => ⟨1, rfl, hs, fun _ => ?_, fun v => absurd n1_0 v⟩) (fun hk => ⟨0, rfl, hs, fun v => absurd rfl v, fun _ => ?_⟩), fun v => absurd n1_0 v⟩
  · refine w_X7_signOf_40 (by omega) hs (fun h1 e1 => ⟨fun _ => ?_, fun v => absurd rfl v⟩)
    obtain ⟨b1, b2, b3⟩ := I.st 0
    rw [← e1] at b1 b2 b3
    have hk2 := hk
    rw [(I3 _ (isp_p z).2).1] at hk2
    refine t_X7_signAt (by omega) (b2.sg hs) b1 V z hk2 z2 (fun r h2 F2 hr => ⟨r, rfl, F2.sg (b2.sg hs), ?_⟩)
    obtain ⟨d1, d2, d3⟩ := b1.fq F2
    exact kk.a (out2_0 ⟨z, z2⟩ hk2) d1 (b2.tr d2) (d3.trans b3) ⟨_, rfl, fun _ => hr⟩
  · refine w_X7_signOf_40 (by omega) hs (fun h1 e1 => ⟨fun v => absurd v (by decide), fun _ => ?_⟩)
    obtain ⟨b1, b2, b3⟩ := I.st 2
    rw [← e1] at b1 b2 b3
    exact kk.b (out2_2 ⟨z, z2⟩ (fun v => hk (by rw [(I3 _ (isp_p z).2).1]; exact v))) (by decide) b1 b2 (by rw [b3]; rfl) ⟨_, rfl, fun w => w.elim⟩
theorem m_cut {a b c : Int32} (hd : 50 ≤ d) (hs : Sg h.1 y) (I : MI h S) (V : VN S) (kk : KM h 1 (f_cut a b c S) K) : Ca d m_X7_cut [.ref 77, .int a, .int b, .int c] h K E := by
  obtain ⟨d, rfl⟩ : ∃ e, d = e + 1 := ⟨d - 1, by omega⟩
  have rb : (0 ≤ ((b : Int32).toInt64) ∧ ((b : Int32).toInt64) ≤ 65535) ↔ (0 ≤ b.toInt ∧ b.toInt ≤ 65535) := i_rng rfl rfl
  have rc : (0 ≤ ((c : Int32).toInt64) ∧ ((c : Int32).toInt64) ≤ 65535) ↔ (0 ≤ c.toInt ∧ c.toInt ≤ 65535) := i_rng rfl rfl
  have bad : ∀ (st : Nat) (s0 l1 : Int32) (u2 u3 u4 u5 : Option Value) (h1 : XH), s0.toInt = st → ¬ s0 = 0 → ¬ st = 0 → f_cut a b c S = (st, 0, S) → Fq h h1 → b_X7_cut_70 d 77 l1 u2 u3 u4 u5 s0 77 h1 K E := by
    intro st s0 l1 u2 u3 u4 u5 h1 e0 n0 nst eo F1
    refine w_X7_cut_70 (by omega) (F1.sg hs) (fun h3 e3 => ⟨fun v => absurd v n0, fun _ => ?_⟩)
    obtain ⟨d1, d2, d3⟩ := I.fq F1
    obtain ⟨b1, b2, b3⟩ := d1.st s0
    rw [← e3] at b1 b2 b3
    exact kk.b eo nst b1 (d2.tr b2) (by rw [b3]; exact e0) ⟨_, rfl, fun w => w.elim⟩
  have no : ¬ ((0 ≤ b.toInt ∧ b.toInt ≤ 65535) ∧ 0 ≤ c.toInt ∧ c.toInt ≤ 65535) → b_X7_cut_34 d 77 a b c (bi (isp a)) none h K E := fun w => by
    refine w_X7_cut_34 (by omega) hs ?_
    by_cases z : isp a
    · exact w_X7_cut_35 (by omega) hs ⟨fun _ => ⟨fun v => absurd rfl v, fun _ => bad 2 2 _ _ _ _ _ h rfl (by decide) (by decide) (out3_2 z w) (Fq.rf _)⟩, fun v => absurd (bi_ne.mpr z) v⟩
    · exact w_X7_cut_35 (by omega) hs ⟨fun v => absurd (bi_f z) v, fun _ => bad 1 1 _ _ _ _ _ h rfl n1_0 (by decide) (out3_1 z) (Fq.rf _)⟩
  refine w_X7_cut (by omega) hs ⟨fun w1 => ⟨fun w2 => ?_, fun w2 => no (fun v => w2 (rc.mpr v.2))⟩, fun w1 => no (fun v => w1 (rb.mpr v.1))⟩
  rw [rb] at w1
  rw [rc] at w2
  by_cases z : isp a
  · refine w_X7_cut_35 (by omega) hs ⟨fun _ => ⟨fun _ => t_X7_cuts (by omega) hs I V (fun w h2 g1 g2 g3 W2 F2 => ⟨1, rfl, F2.sg hs, fun _ => ?_, fun v => absurd n1_0 v⟩) (fun h2 g F2 => ⟨0, rfl, F2.sg hs, fun v => absurd rfl v, fun _ => bad 3 3 _ _ _ _ _ h2 rfl (by decide) (by decide) (out3_3 z ⟨w1, w2⟩ g) F2⟩), fun v => absurd n1_0 v⟩, fun v => absurd (bi_ne.mpr z) v⟩
    refine w_X7_cut_70 (by omega) (F2.sg hs) (fun h1 e1 => ⟨fun _ => ?_, fun v => absurd rfl v⟩)
    obtain ⟨d1, d2, d3⟩ := I.fq F2
    obtain ⟨b1, b2, b3⟩ := d1.st 0
    rw [← e1] at b1 b2 b3
    obtain ⟨z1, z2⟩ := isp_p z
    have c25 : h1.2.2.1 77 25 = h2.2.2.1 77 25 := by rw [e1]; rfl
    rw [c25]
    refine t_X7_lays (by omega) (b2.sg (F2.sg hs)) z1 z2 (fun h3 e3 => ?_)
    obtain ⟨x1, x2, x3⟩ := b1.nu z2 (v := w.1) (by rw [j_to32 (by rw [W2.1]; unfold fitN at g3; omega), W2.1]) e3
    have eo : f_cut a b c S = (0, ((w.2.2.2 : Nat) : Int), sN S (pN a) w.1) := by
      unfold f_cut
      rw [g2]
      exact out3_0 z ⟨w1, w2⟩ ⟨g1.1, g1.2, g3⟩
    refine ⟨rfl, x2.sg (b2.sg (F2.sg hs)), kk.a eo x1 ((d2.tr b2).tr x2) (x3.trans b3) ⟨_, rfl, fun _ => ?_⟩⟩
    rw [e3, sI_nq _ _ (by omega), sI_nq _ _ (by omega), e1, sI_ne _ _ (by omega)]
    exact W2.2.2.2
  · exact w_X7_cut_35 (by omega) hs ⟨fun v => absurd (bi_f z) v, fun _ => bad 1 1 _ _ _ _ _ h rfl n1_0 (by decide) (out3_1 z) (Fq.rf _)⟩
end
