/-! ===== layer 2: the model's step ===== -/
section
variable {d : Nat} {h : XH} {y : Nat → Nat} {m : Nat} {ov : Nat → O} {K : XK} {E : XE}
theorem Mo.chain {q : Nat} {v : Int32} (M : Mo h m ov) : Mo (x_setI h 89 q v) m ov := M.fr (by rw [sI_nq _ _ (by omega)]) (fun r a b => sI_nq _ _ (by omega))
theorem Fmo.chain (h : XH) (q : Nat) (v : Int32) : Fmo h (x_setI h 89 q v) := ⟨rfl, rfl, fun r hr => ⟨sI_nq _ _ (by omega), rfl⟩, fun s _ _ => by rw [sI_nq _ _ (by omega)], rfl⟩
theorem Fmo.rf (h : XH) : Fmo h h := (Fmk.rf h).mo
theorem t_X7_stepped {a b : Int32} {i nn : Nat} (hd : 28 ≤ d) (hs : Sg h.1 y) (M : Mo h m ov) (ha : a.toInt = i) (hb : b.toInt = nn) (h1n : 1 ≤ nn) (hn2 : nn ≤ 1000000) (hi : i < m) (h0 : ¬ ov i = .leaf) (hm6 : m + 6 < 2000) (kk : Kmo 6 h m ov (stpok nn 5 (ov i)) (stpF nn 5 (ov i)) K) : Ca d m_X7_stepped [.ref 77, .int a, .int b] h K E := by
  obtain ⟨d, rfl⟩ : ∃ e, d = e + 1 := ⟨d - 1, by omega⟩
  have em1 : (-1 : Int32).toInt = -1 := rfl
  -- the chain's end: step of its last one, then up
  have up2 : ∀ (cs : Nat → Nat) (top je : Nat) (u1 u5 u6 : Option Value) (l3 l4 : Int32) (h2 : XH), cs 0 = i → top ≤ 4 → (∀ k, k ≤ top → cs k < m) → (∀ k, k < top → le1 (ov (cs k)) (ov (cs (k + 1)))) → (∀ k, k < top → ∃ f, le1 (ov (cs (k + 1))) f ∧ ¬ f = .leaf) → (∀ k, k ≤ top → dep (ov (cs k)) + k ≤ 5) → l3.toInt = top → l4.toInt = je → je < m → le1 (ov (cs top)) (ov je) → (je = 0 ∨ le1 (ov je) .leaf) → Sg h2.1 y → Mo h2 m ov → Fmo h h2 → (∀ k, k ≤ top → (h2.2.1 89 k).toInt = cs k) → b_X7_stepped_67 d 77 u1 b l3 l4 u5 u6 h2 K E := by
    intro cs top je u1 u5 u6 l3 l4 h2 hc0 htop hcs hlk hlm hdp h3 h4 hje hle hfin hs2 M2 F2 hch
    have hgd : ∀ k, k ≤ top → gd (ov (cs k)) := fun k hk => M.good (hcs k hk)
    have hnt := le1_ne hle
    have hgt := hgd top (Nat.le_refl _)
    have hdt := hdp top (Nat.le_refl _)
    have hde := le1_dep hle
    have hnf := (stp_lt nn h1n (5 - top) (ov (cs top)) (by omega) hgt.1).1
    -- what the last one's step is made of: L
    have make : ∀ (h5 : XH) (m5 : Nat) (ov5 : Nat → O) (L : List OP) (w1 w2 w5 w6 : Option Value) (w4 : Option Int32), Sg h5.1 y → Mo h5 m5 ov5 → (∀ i, i < m → ov5 i = ov i) → m ≤ m5 → m5 ≤ m + 1 → Fmo h h5 → (∀ k, k ≤ top → (h5.2.1 89 k).toInt = cs k) → Dm h5 m5 ov5 L → mk L = stpF nn (5 - top) (ov (cs top)) → (okm (mk L) ↔ stpok nn (5 - top) (ov (cs top))) → b_X7_stepped_110 d 77 w1 w2 l3 w4 w5 w6 h5 K E := by
      intro h5 m5 ov5 L w1 w2 w5 w6 w4 hs5 M5 he5 hm5 hm5' F5 hch5 D5 hL hok
      refine w_X7_stepped_110 (by omega) hs5 ?_
      refine (t_makes (n := 1) (K := fun rv h7 => ∃ x2, rv = some (.int x2) ∧ Sg h7.1 y ∧ b_X7_stepped_121 d 77 w1 w2 (some (.int l3)) w4 x2 (l3 - 1) h7 K E) (by omega) hs5 M5 D5 (Fmk.rf h5) (by rw [hL]; exact hnf) (by omega) hL hok (Nat.le_refl _) ?_).imp (fun v h7 z => ?_)
      · intro r h7 m7 ov7 x1 x2 x3 x4 x5 x6
        refine ⟨r, rfl, x4.sg hs5, ?_⟩
        refine t_X7_stepped_up (i := i) (nn := nn) (h0 := h) (m0 := m) (ov0 := ov) (cs := cs) (top := top) (by omega) h1n hc0 htop hcs hgd hlk hlm hdp kk top w1 w2 _ w4 r (l3 - 1) h7 m7 ov7 (Nat.le_refl _) ?_ (x4.sg hs5) x5 (fun i hi => (x1 i (by omega)).trans (he5 i hi)) (by omega) (by omega) (by omega) (F5.tr x4.mo) (fun k hk => ?_) x6
        · rw [i_sub (by rw [i_1]; omega) (by rw [i_1]; omega), h3, i_1]
        · rw [(x4.2.2.1 89 (by omega)).1]; exact hch5 k hk
      · obtain ⟨x2, rfl, _, x6, e6, s6, z6⟩ := z
        cases e6
        exact ⟨x2, rfl, s6, z6⟩
    -- the last one less one, then e - 1 behind it
    have lastOne : ∀ (h5 : XH) (m5 : Nat) (ov5 : Nat → O) (l5 : Int32) (w6 : Option Value), Sg h5.1 y → Mo h5 m5 ov5 → (∀ i, i < m → ov5 i = ov i) → m ≤ m5 → m5 ≤ m + 1 → Fmo h h5 → (∀ k, k ≤ top → (h5.2.1 89 k).toInt = cs k) → (¬ je = 0 → ∃ r2 : Nat, l5.toInt = r2 ∧ r2 < m5 ∧ ov5 r2 = mk (lsL (pl (ov je)) 1)) → b_X7_stepped_87 d 77 u1 b l3 l4 l5 w6 h5 K E := by
      intro h5 m5 ov5 l5 w6 hs5 M5 he5 hm5 hm5' F5 hch5 hres
      have hct := hch5 top (Nat.le_refl _)
      have ect := he5 (cs top) (hcs top (Nat.le_refl _))
      have lt5 : cs top < m5 := by have := hcs top (Nat.le_refl _); omega
      refine w_X7_stepped_87 (by omega) hs5 ⟨i_Ix h3 (by omega), ?_⟩
      rw [i_ix h3]
      refine t_X7_lessOne (i := cs top) (by omega) hs5 M5 hct lt5 (by rw [ect]; exact hnt) (fun h6 M6 D6 F6 => ⟨rfl, F6.sg hs5, fun z => ?_, fun z => ?_⟩)
      · have hz : je = 0 := by have := i_ne.mp z; omega
        have hl : ov je = .leaf := (M.ne hje).mpr hz
        rw [hl] at hle
        have sf := stp_fin2 nn (4 - top) hgt hle
        rw [ect] at D6
        have e5 : 4 - top + 1 = 5 - top := by omega
        rw [e5] at sf
        exact make h6 m5 ov5 _ _ _ _ _ _ (F6.sg hs5) M6 he5 hm5 hm5' (F5.tr F6.mo) (fun k hk => by rw [(F6.2.2.1 89 (by omega)).1]; exact hch5 k hk) D6 sf.2.symm ⟨fun _ => sf.1, fun _ => (gd_ls 1 hgt).2⟩
      · have hz : ¬ je = 0 := fun v => z (i_ne.mpr (by rw [h4, v]; rfl))
        have hle2 : le1 (ov je) .leaf := hfin.resolve_left hz
        obtain ⟨r2, q1, q2, q3⟩ := hres hz
        have lsl := lsL_len (pl (ov5 (cs top))) 1
        have lk8 := M5.len lt5
        refine t_X7_adds (n := nn) (by omega) (F6.sg hs5) D6 (by omega) q1 q2 q3 (by rw [i_2j]; exact hb) (fun h7 D7 F7 a7 b7 => ⟨rfl, F7.sg (F6.sg hs5), ?_⟩)
        have hde2 := le1_dep hle2
        have sf := stp_suc nn (3 - top) (M.good hje) hle hle2
        have e5 : 3 - top + 2 = 5 - top := by omega
        rw [e5] at sf
        rw [ect] at D7
        have F67 := F6.tr F7
        exact make h7 m5 ov5 _ _ _ _ _ _ (F67.sg hs5) (M6.add a7 b7) he5 hm5 hm5' (F5.tr F67.mo) (fun k hk => by rw [(F67.2.2.1 89 (by omega)).1]; exact hch5 k hk) D7 sf.1.symm (by rw [sf.2, sf.1])
    refine w_X7_stepped_67 (by omega) hs2 ⟨fun z => lastOne h2 m ov (-1) u6 hs2 M2 (fun _ _ => rfl) (Nat.le_refl _) (by omega) F2 hch (fun v => absurd (by have := i_ne.mp z; omega) v), fun z => ?_⟩
    have hz : ¬ je = 0 := fun v => z (i_ne.mpr (by rw [h4, v]; rfl))
    have hle2 : le1 (ov je) .leaf := hfin.resolve_left hz
    have hge := M.good hje
    have gl := gd_ls 1 hge
    refine t_X7_lessOne (i := je) (by omega) hs2 M2 h4 hje (le1_ne hle2) (fun h3' M3 D3 F3 => ⟨rfl, F3.sg hs2, ?_⟩)
    refine (t_makes (n := 1) (x := mk (lsL (pl (ov je)) 1)) (ok := True) (K := fun rv h5 => ∃ x4, rv = some (.int x4) ∧ Sg h5.1 y ∧ b_X7_stepped_87 d 77 u1 b l3 l4 x4 u6 h5 K E) (by omega) (F3.sg hs2) M3 D3 F3 gl.1 (by omega) rfl ⟨fun _ => trivial, fun _ => gl.2⟩ (Nat.le_refl _) ?_).imp (fun v h7 z => ?_)
    · intro r h5 m5 ov5 x1 x2 x3 x4 x5 x6
      refine ⟨r, rfl, x4.sg hs2, lastOne h5 m5 ov5 r u6 (x4.sg hs2) x5 x1 x2 x3 (F2.tr x4.mo) (fun k hk => by rw [(x4.2.2.1 89 (by omega)).1]; exact hch k hk) (fun _ => ?_)⟩
      rcases x6 with ⟨-, v2⟩ | ⟨v1, -⟩
      · exact v2
      · exact absurd trivial v1
    · obtain ⟨x2, rfl, _, x6, e6, s6, z6⟩ := z
      cases e6
      exact ⟨x2, rfl, s6, z6⟩
  -- along the chain
  have walk : ∀ (q : Nat) (cs : Nat → Nat) (top je : Nat) (u1 u5 u6 : Option Value) (l3 l4 : Int32) (h2 : XH), je ≤ q → cs 0 = i → top ≤ 4 → (∀ k, k ≤ top → cs k < m) → (∀ k, k < top → le1 (ov (cs k)) (ov (cs (k + 1)))) → (∀ k, k < top → ∃ f, le1 (ov (cs (k + 1))) f ∧ ¬ f = .leaf) → (∀ k, k ≤ top → dep (ov (cs k)) + k ≤ 5) → l3.toInt = top → l4.toInt = je → je < m → le1 (ov (cs top)) (ov je) → Sg h2.1 y → Mo h2 m ov → Fmo h h2 → (∀ k, k ≤ top → (h2.2.1 89 k).toInt = cs k) → b_X7_stepped_21 d 77 u1 b l3 l4 u5 u6 h2 K E := by
    intro q
    induction q with
    | zero =>
      intro cs top je u1 u5 u6 l3 l4 h2 hq hc0 htop hcs hlk hlm hdp h3 h4 hje hle hs2 M2 F2 hch
      exact w_X7_stepped_21 (by omega) hs2 ⟨fun _ => up2 cs top je _ _ _ l3 l4 h2 hc0 htop hcs hlk hlm hdp h3 h4 hje hle (Or.inl (by omega)) hs2 M2 F2 hch, fun z => absurd (i_ne.mpr (by rw [h4]; omega)) z⟩
    | succ q ih =>
      intro cs top je u1 u5 u6 l3 l4 h2 hq hc0 htop hcs hlk hlm hdp h3 h4 hje hle hs2 M2 F2 hch
      refine w_X7_stepped_21 (by omega) hs2 ⟨fun z => up2 cs top je _ _ _ l3 l4 h2 hc0 htop hcs hlk hlm hdp h3 h4 hje hle (Or.inl (by have := i_ne.mp z; omega)) hs2 M2 F2 hch, fun z => ?_⟩
      have hz : ¬ je = 0 := fun v => z (i_ne.mpr (by rw [h4, v]; rfl))
      have hnl : ¬ ov je = .leaf := fun v => hz ((M.ne hje).mp v)
      refine t_X7_last (i := je) (by omega) hs2 M2 h4 hje hnl (fun r hr => ⟨r, rfl, hs2, ?_⟩)
      obtain ⟨g1, j2, g2, g3, g4⟩ := M2.lst hje hnl hr
      refine ⟨g1, fun w => up2 cs top je _ _ _ l3 l4 h2 hc0 htop hcs hlk hlm hdp h3 h4 hje hle (Or.inr ?_) hs2 M2 F2 hch, fun w => ?_⟩
      · have : j2 = 0 := by have := i_ne.mp w; omega
        rw [(M.ne (show j2 < m by omega)).mpr this] at g3
        exact g3
      · have hj2 : ¬ ov j2 = .leaf := fun v => w (i_ne.mpr (by rw [g4, (M.ne (show j2 < m by omega)).mp v]; rfl))
        have d1 := le1_dep hle
        have d2 := le1_dep g3
        have d3 := hdp top (Nat.le_refl _)
        have d4 : ¬ dep (ov j2) = 0 := fun v => hj2 (dep_z v)
        have n3 : (l3 + 1).toInt = (top + 1 : Nat) := by rw [i_add (by rw [i_1]; omega) (by rw [i_1]; omega), h3, i_1]; rfl
        refine ⟨i_Ix n3 (by omega), fun h4' e4' => ?_⟩
        rw [i_ix n3] at e4'
        have M4 : Mo h4' m ov := by rw [e4']; exact M2.chain
        have F4 : Fmo h2 h4' := by rw [e4']; exact Fmo.chain _ _ _
        have hs4 := F4.sg hs2
        refine t_X7_last (i := je) (by omega) hs4 M4 h4 hje hnl (fun r5 hr5 => ⟨r5, rfl, hs4, ?_⟩)
        obtain ⟨k1, j5, k2, k3, k4⟩ := M4.lst hje hnl hr5
        obtain ⟨cn, hcn⟩ : ∃ f : Nat → Nat, f = fun k => if k ≤ top then cs k else je := ⟨_, rfl⟩
        have cs' : ∀ k, k ≤ top → cn k = cs k := fun k hk => by rw [hcn]; exact if_pos hk
        have ct' : cn (top + 1) = je := by rw [hcn]; exact if_neg (by omega)
        refine ⟨k1, ih cn (top + 1) j5 _ _ _ (l3 + 1) _ h4' (by omega) ?_ (by omega) (fun k hk => ?_) (fun k hk => ?_) (fun k hk => ?_) (fun k hk => ?_) n3 k4 (by omega) (by rw [ct']; exact k3) hs4 M4 (F2.tr F4) (fun k hk => ?_)⟩
        · rw [cs' 0 (Nat.zero_le _)]; exact hc0
        · by_cases v : k ≤ top
          · rw [cs' k v]; exact hcs k v
          · rw [show k = top + 1 by omega, ct']; exact hje
        · by_cases v : k < top
          · rw [cs' k (by omega), cs' (k + 1) (by omega)]; exact hlk k v
          · rw [show k = top by omega, cs' top (Nat.le_refl _), ct']; exact hle
        · by_cases v : k < top
          · rw [cs' (k + 1) (by omega)]; exact hlm k v
          · rw [show k = top by omega, ct']; exact ⟨ov j2, g3, hj2⟩
        · by_cases v : k ≤ top
          · rw [cs' k v]; exact hdp k v
          · rw [show k = top + 1 by omega, ct']; omega
        · by_cases v : k ≤ top
          · rw [cs' k v, e4', sI_ne _ _ (by omega)]; exact hch k v
          · rw [show k = top + 1 by omega, ct', e4', sI_eq]; exact h4
  refine w_X7_stepped (by omega) hs ⟨i_Ix (i := 0) rfl (by omega), fun h1 e1 => ?_⟩
  rw [i_ix (i := 0) rfl] at e1
  have M1 : Mo h1 m ov := by rw [e1]; exact M.chain
  have F1 : Fmo h h1 := by rw [e1]; exact Fmo.chain _ _ _
  have hs1 := F1.sg hs
  refine t_X7_last (i := i) (by omega) hs1 M1 ha hi h0 (fun r hr => ⟨r, rfl, hs1, ?_⟩)
  obtain ⟨g1, j2, g2, g3, g4⟩ := M1.lst hi h0 hr
  refine ⟨g1, walk j2 (fun _ => i) 0 j2 _ _ _ 0 _ h1 (Nat.le_refl _) rfl (by omega) (fun _ _ => hi) (fun k hk => by omega) (fun k hk => by omega) (fun k hk => ?_) rfl g4 (by omega) g3 hs1 M1 F1 (fun k hk => ?_)⟩
  · have := (M.good hi).2.2.2
    rw [show k = 0 by omega]
    exact this
  · rw [show k = 0 by omega, e1, sI_eq]; exact ha
end
