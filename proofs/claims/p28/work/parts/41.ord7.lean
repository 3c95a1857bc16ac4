/-! ===== layer 2: contracts of the class's ordinals: natural product, steps, descents ===== -/
section
variable {d : Nat} {h : XH} {y : Nat → Nat} {c k : Nat} {ov : Nat → O} {K : XK} {E : XE}
theorem t_X2_naturallyMultiplied {a b : Int32} {i j : Nat} (hd : 32 ≤ d) (hs : Sg h.1 y) (S : St h y c k ov) (ha : a.toInt = i) (hb : b.toInt = j) (hi : i < c) (hj : j < c) (hc : c + 66 < 16384) (hk : k ≤ c) (kk : nmok (ov i) (ov j) → Kx 18 9 h y c k ov (nmO (ov i) (ov j)) K) (ke : ¬ nmok (ov i) (ov j) → Kf h y k ov E) : Ca d m_X2_naturallyMultiplied [.ref 6, .int a, .int b] h K E := by
  obtain ⟨d, rfl⟩ : ∃ e, d = e + 1 := ⟨d - 1, by omega⟩
  have hg := S.good hi
  have hgj := S.good hj
  have li := S.len hi
  have lj := S.len hj
  -- inner loop
  have inner : ∀ (s e n : _) (l3 : Int32), (pl (ov i))[s]? = some (e, n) → l3.toInt = (s : Nat) →
      (∀ (l3' : Int32) (u4 : Option Value) (h1 : XH) (y1 : Nat → Nat) (c1 : Nat) (ov1 : Nat → O) (P : List OP), l3'.toInt = (s + 1 : Nat) → Fs 0 h y h1 y1 → St h1 y1 c1 k ov1 → c ≤ c1 → c1 ≤ c + P.length → (∀ i, i < c → ov1 i = ov i) → Do h1 14 c1 ov1 P → srt P → (∀ p ∈ P, nf p.1) → (∀ p ∈ P, p.2 ≤ 1000000000000 * (8 * (s + 1))) → P.length ≤ 8 * (s + 1) → nmL ((pl (ov i)).drop (s + 1)) (pl (ov j)) P = nmL (pl (ov i)) (pl (ov j)) [] → (∀ p ∈ (pl (ov i)).take (s + 1), ∀ q ∈ pl (ov j), okm (naO p.1 q.1)) → b_X2_naturallyMultiplied_9 d 6 a b l3' u4 h1 K E) →
      ∀ (q t : Nat) (l4 : Int32) (h1 : XH) (y1 : Nat → Nat) (c1 : Nat) (ov1 : Nat → O) (P : List OP), q + t = (pl (ov j)).length → l4.toInt = t → Fs 0 h y h1 y1 → St h1 y1 c1 k ov1 → c ≤ c1 → c1 ≤ c + P.length → (∀ i, i < c → ov1 i = ov i) → Do h1 14 c1 ov1 P → srt P → (∀ p ∈ P, nf p.1) → (∀ p ∈ P, p.2 ≤ 1000000000000 * (8 * s + t)) → P.length ≤ 8 * s + t → nmL ((pl (ov i)).drop (s + 1)) (pl (ov j)) (nmRow e n ((pl (ov j)).drop t) P) = nmL (pl (ov i)) (pl (ov j)) [] → (∀ p ∈ (pl (ov i)).take s, ∀ q ∈ pl (ov j), okm (naO p.1 q.1)) → (∀ q ∈ (pl (ov j)).take t, okm (naO e q.1)) → b_X2_naturallyMultiplied_21 d 6 a b l3 l4 h1 K E := by
    intro s e n l3 g h3 next q
    have hsl := (List.getElem?_eq_some_iff.mp g).1
    have hn1 := gd_tm hg g
    have hn0 : 1 ≤ n := by
      have := nf_srt _ hg.1
      rw [← List.take_append_drop s (pl (ov i)), dropc g] at this
      exact (srt_app.mp this).2.1.1
    induction q with
    | zero =>
      intro t l4 h1 y1 c1 ov1 P hq h4 F S1 hc1 hc2 he D sP nP bP lP hL ok1 ok2
      have hs1 := F.1
      have ht : t = (pl (ov j)).length := by omega
      refine w_X2_naturallyMultiplied_21 (by omega) hs1 ⟨fun _ => next _ _ h1 y1 c1 ov1 P ?_ F S1 hc1 hc2 he D sP nP (fun p hp => ?_) (by omega) ?_ ?_, fun z => absurd (i_le.mpr (by rw [S1.pows hs1 hb (by omega), he j hj]; omega)) z⟩
      · rw [i_add (by rw [i_1]; omega) (by rw [i_1]; omega), h3, i_1]; rfl
      · have := bP p hp
        have h9 : 1000000000000 * (8 * s + t) ≤ 1000000000000 * (8 * (s + 1)) := Nat.mul_le_mul_left _ (by omega)
        omega
      · rw [show (pl (ov j)).drop t = [] from List.drop_eq_nil_of_le (by omega)] at hL
        exact hL
      · intro p hp q hq'
        rw [takec g] at hp
        rcases List.mem_append.mp hp with z | z
        · exact ok1 p z q hq'
        · rw [List.mem_singleton.mp z]
          exact ok2 q (by rw [ht, List.take_length]; exact hq')
    | succ q ih =>
      intro t l4 h1 y1 c1 ov1 P hq h4 F S1 hc1 hc2 he D sP nP bP lP hL ok1 ok2
      have hs1 := F.1
      have hi1 := he i hi
      have hj1 := he j hj
      obtain ⟨f, m, g2⟩ := getc (A := pl (ov j)) (m := t) (by omega)
      have g1' : (pl (ov1 i))[s]? = some (e, n) := by rw [hi1]; exact g
      have g2' : (pl (ov1 j))[t]? = some (f, m) := by rw [hj1]; exact g2
      obtain ⟨je, e1, e2, e3⟩ := S1.exps hs1 ha h3 (by omega) g1'
      obtain ⟨jf, f1, f2, f3⟩ := S1.exps hs1 hb h4 (by omega) g2'
      have te := S1.tims hs1 ha h3 (by omega) g1'
      have tf := S1.tims hs1 hb h4 (by omega) g2'
      have hm1 := gd_tm hgj g2
      have hm0 : 1 ≤ m := by
        have := nf_srt _ hgj.1
        rw [← List.take_append_drop t (pl (ov j)), dropc g2] at this
        exact (srt_app.mp this).2.1.1
      have hmul : n * m ≤ 1000000 * 1000000 := Nat.mul_le_mul hn1 hm1
      have hmul1 : 1 ≤ n * m := Nat.mul_le_mul hn0 hm0
      have hbig : 1000000000000 * (8 * s + t) ≤ 1000000000000 * 64 := Nat.mul_le_mul_left _ (by omega)
      have e4 : ((n : Int) * (m : Int)) = ((n * m : Nat) : Int) := by rw [Int.natCast_mul]
      rw [dropc g2] at hL
      have hnf : nf (naO e f) := nf_naO (nf_ex _ hg.1 _ (List.mem_of_getElem? g)) (nf_ex _ hgj.1 _ (List.mem_of_getElem? g2))
      refine w_X2_naturallyMultiplied_21 (by omega) hs1 ⟨fun z => absurd (i_le.mp z) (by rw [S1.pows hs1 hb (by omega), he j hj]; omega), fun _ => ?_⟩
      refine t_X2_addPair (i := je) (j := jf) (n := n * m) (by omega) hs1 S1 e3 f3 (by omega) (by omega) (by omega) (by omega) D (by omega) (by rw [j_mul (by rw [i_2j, i_2j, te, tf, e4]; omega) (by rw [i_2j, i_2j, te, tf, e4]; omega), i_2j, i_2j, te, tf, e4]) (fun p hp => by have := bP p hp; omega) (by omega) (fun ok h2 y2 ov2 c2 x4 x5 x6 x7 x9 D2 => ⟨rfl, y2, x7.1, ?_⟩) (fun nok h2 y2 x1 x2 => ?_)
      · rw [e2, f2] at ok x6 D2
        have hil := ins_len (e := naO e f) (n := n * m) (P := P)
        refine ih (t + 1) _ h2 y2 c2 ov2 _ (by omega) ?_ (F.tr x7) x9 (by omega) (by omega) (fun i hi => (x4 i (by omega)).trans (he i hi)) D2 (srt_ins hmul1 sP) (fun p hp => ?_) (fun p hp => ?_) (by omega) hL ok1 (fun q hq' => ?_)
        · rw [i_add (by rw [i_1]; omega) (by rw [i_1]; omega), h4, i_1]; rfl
        · rcases mem_ins hp with z | ⟨r, z1, z2⟩
          · rw [z]; exact hnf
          · rw [← z2]; exact nP r z1
        · have := ins_le bP p hp
          have h9 : 1000000000000 * (8 * s + (t + 1)) = 1000000000000 * (8 * s + t) + 1000000000000 := by rw [← Nat.add_assoc, Nat.mul_succ]
          omega
        · rw [takec g2] at hq'
          rcases List.mem_append.mp hq' with z | z
          · exact ok2 q z
          · rw [List.mem_singleton.mp z]; exact ok
      · rw [e2, f2] at nok
        exact ke (fun m => nok (m.1 (e, n) (List.mem_of_getElem? g) (f, _) (List.mem_of_getElem? g2))) h2 y2 (F.tr x1) (x2.cg (fun i hi => (he i (by omega)).symm))
  have outer : ∀ (q s : Nat) (l3 : Int32) (u4 : Option Value) (h1 : XH) (y1 : Nat → Nat) (c1 : Nat) (ov1 : Nat → O) (P : List OP), q + s = (pl (ov i)).length → l3.toInt = s → Fs 0 h y h1 y1 → St h1 y1 c1 k ov1 → c ≤ c1 → c1 ≤ c + P.length → (∀ i, i < c → ov1 i = ov i) → Do h1 14 c1 ov1 P → srt P → (∀ p ∈ P, nf p.1) → (∀ p ∈ P, p.2 ≤ 1000000000000 * (8 * s)) → P.length ≤ 8 * s → nmL ((pl (ov i)).drop s) (pl (ov j)) P = nmL (pl (ov i)) (pl (ov j)) [] → (∀ p ∈ (pl (ov i)).take s, ∀ q ∈ pl (ov j), okm (naO p.1 q.1)) → b_X2_naturallyMultiplied_9 d 6 a b l3 u4 h1 K E := by
    intro q
    induction q with
    | zero =>
      intro s l3 u4 h1 y1 c1 ov1 P hq h3 F S1 hc1 hc2 he D sP nP bP lP hL ok1
      have hs1 := F.1
      refine w_X2_naturallyMultiplied_9 (by omega) hs1 ⟨fun _ => ?_, fun z => absurd (i_le.mpr (by rw [S1.pows hs1 ha (by omega), he i hi]; omega)) z⟩
      rw [List.drop_eq_nil_of_le (by omega)] at hL
      have hL2 : P = nmL (pl (ov i)) (pl (ov j)) [] := hL
      rw [List.take_of_length_le (by omega)] at ok1
      by_cases ok : okm (mk P)
      · have l8 : P.length ≤ 8 := by have := ok.1; rw [pl_mk] at this; exact this
        refine t_made (m := 9) (p := 18) (by omega) hs1 S1 (Or.inr rfl) D (nf_mk _ sP nP) (by omega) F (by omega) (fun r a b => by omega) hk hc1 (by omega) he (fun _ => ?_) (fun z => absurd ok z)
        rw [hL2] at ok ⊢
        exact kk ⟨ok1, ok⟩
      · refine t_made (m := 100) (p := 18) (by omega) hs1 S1 (Or.inr rfl) D (nf_mk _ sP nP) (by omega) F (by omega) (fun r a b => by omega) hk hc1 (by omega) he (fun z => absurd z ok) (fun _ => ?_)
        rw [hL2] at ok
        exact ke (fun z => ok z.2)
    | succ q ih =>
      intro s l3 u4 h1 y1 c1 ov1 P hq h3 F S1 hc1 hc2 he D sP nP bP lP hL ok1
      have hs1 := F.1
      obtain ⟨e, n, g⟩ := getc (A := pl (ov i)) (m := s) (by omega)
      refine w_X2_naturallyMultiplied_9 (by omega) hs1 ⟨fun z => absurd (i_le.mp z) (by rw [S1.pows hs1 ha (by omega), he i hi]; omega), fun _ => ?_⟩
      refine inner s e n l3 g h3 (fun l3' u4' h1' y1' c1' ov1' P' a3 aF aS ac1 ac2 ae aD asP anP abP alP aL aok => ih (s + 1) l3' u4' h1' y1' c1' ov1' P' (by omega) a3 aF aS ac1 ac2 ae aD asP anP abP alP aL aok) _ 0 0 h1 y1 c1 ov1 P (Nat.add_zero _) rfl F S1 hc1 hc2 he D sP nP bP lP ?_ ok1 (fun q hq' => absurd hq' List.not_mem_nil)
      rw [dropc g] at hL
      exact hL
  refine w_X2_naturallyMultiplied (by omega) hs (fun h1 e1 => ?_)
  obtain ⟨D1, F1⟩ := Do.restart h 14 c ov
  rw [← e1] at D1 F1
  exact outer _ 0 0 none h1 y c ov [] (Nat.add_zero _) rfl (Fs.fd hs F1 (Or.inr rfl)) (S.fd hs F1 (Or.inr rfl)) (Nat.le_refl _) (Nat.le_refl _) (fun _ _ => rfl) D1 trivial (fun p hp => absurd hp List.not_mem_nil) (fun p hp => absurd hp List.not_mem_nil) (Nat.le_refl _) rfl (fun p hp => absurd hp List.not_mem_nil)
theorem t_X2_lessened {a b : Int32} {i l : Nat} (hd : 23 ≤ d) (hs : Sg h.1 y) (S : St h y c k ov) (ha : a.toInt = i) (hb : b.toInt = l) (hi : i < c) (h0 : ¬ ov i = .leaf) (hc : c < 16384) (hk : k ≤ c) (kk : Kx 14 1 h y c k ov (mk (lsL (pl (ov i)) l)) K) : Ca d m_X2_lessened [.ref 6, .int a, .int b] h K E := by
  obtain ⟨d, rfl⟩ : ∃ e, d = e + 1 := ⟨d - 1, by omega⟩
  obtain ⟨e0, n0, r0, hp⟩ := pl_cons h0
  obtain ⟨e, n, g⟩ := getc (A := pl (ov i)) (m := (pl (ov i)).length - 1) (by rw [hp, List.length_cons]; omega)
  have hgd := gd_ls l (S.good hi)
  refine w_X2_lessened (by omega) hs (t_X2_draftLess (by omega) hs S ha hb hi g (fun h2 D2 F2 => ⟨rfl, F2.sg hs, ?_⟩))
  rw [← lsL_eq g] at D2
  exact t_made (by omega) (F2.sg hs) (S.fd hs F2 (Or.inl rfl)) (Or.inl rfl) D2 hgd.1 hc (Fs.fd hs F2 (Or.inl rfl)) (by omega) (fun r a b => F2.2.2 r (by omega) (by omega) (by omega)) hk (Nat.le_refl _) (Nat.le_refl _) (fun _ _ => rfl) (fun _ => kk) (fun z => absurd hgd.2 z)
theorem t_X2_lower : ∀ (lv : Nat) {d : Nat} {h : XH} {y : Nat → Nat} {c k : Nat} {ov : Nat → O} {K : XK} {E : XE} {a b n : Int32} {i nn : Nat}, 30 + lv ≤ d → Sg h.1 y → St h y c k ov → a.toInt = i → b.toInt = nn → n.toInt = lv → 1 ≤ nn → nn ≤ 1000000 → i < c → dep (ov i) ≤ lv → c + lv < 16384 → k ≤ c → (stpok nn lv (ov i) → Kx 14 lv h y c k ov (stpF nn lv (ov i)) K) → (¬ stpok nn lv (ov i) → Kf h y k ov E) → Ca d m_X2_lower [.ref 6, .int a, .int b, .int n] h K E := by
  intro lv
  induction lv with
  | zero =>
    intro d h y c k ov K E a b n i nn hd hs S ha hb hn h1 h2 hi hx hc hk kk ke
    obtain ⟨d, rfl⟩ : ∃ e, d = e + 1 := ⟨d - 1, by omega⟩
    have hi0 : i = 0 := (S.ne hi).mp (dep_z (by omega))
    have ho : ov i = .leaf := dep_z (by omega)
    rw [ho] at kk
    refine w_X2_lower (by omega) hs ⟨fun z => kk trivial 0 h y ov c 0 rfl (by omega) S.s0 (fun _ _ => rfl) (Nat.le_refl _) (by omega) (Fs.rf hs) (fun _ _ _ => ⟨rfl, rfl⟩) S, fun z => absurd (i_ne.mpr (by omega)) z⟩
  | succ lv ih =>
    intro d h y c k ov K E a b n i nn hd hs S ha hb hn h1 h2 hi hx hc hk kk ke
    obtain ⟨d, rfl⟩ : ∃ e, d = e + 1 := ⟨d - 1, by omega⟩
    have hni := i_hi n
    refine w_X2_lower (by omega) hs ⟨fun z => ?_, fun z => ⟨fun _ => ?_, fun w => absurd (i_lt.mpr (by rw [i_0]; omega)) w⟩⟩
    · have ho : ov i = .leaf := (S.ne hi).mpr (by have := i_ne.mp z; omega)
      rw [ho] at kk
      exact kk (stp_leaf nn (lv + 1)).2 0 h y ov c 0 rfl (by omega) S.s0 (fun _ _ => rfl) (Nat.le_refl _) (by omega) (Fs.rf hs) (fun _ _ _ => ⟨rfl, rfl⟩) S
    · have hil : ¬ ov i = .leaf := fun v => z (i_ne.mpr (by have := (S.ne hi).mp v; omega))
      obtain ⟨e0, n0, r0, hp⟩ := pl_cons hil
      have li := S.len hi
      have hlen : (pl (ov i)).length - 1 < (pl (ov i)).length := by rw [hp, List.length_cons]; omega
      obtain ⟨e, t, g⟩ := getc hlen
      have hg := S.good hi
      have hde : dep e + 1 ≤ dep (ov i) := dep_pl _ _ (List.mem_of_getElem? g)
      have p1 := S.pows hs ha hi
      have hlast : (pw h y a - 1).toInt = ((pl (ov i)).length - 1 : Nat) := by rw [i_sub (by rw [i_1]; omega) (by rw [i_1]; omega), p1, i_1]; omega
      obtain ⟨je, e1, e2, e3⟩ := S.exps hs ha hlast hi g
      have hn1 : (n - 1).toInt = lv := by rw [i_sub (by rw [i_1]; omega) (by rw [i_1]; omega), hn, i_1]; omega
      have hse := stpF_eq (n := nn) (lv := lv) g
      have hso := stpok_eq (n := nn) (lv := lv) g
      have hnf := (stp_lt nn h1 (lv + 1) (ov i) hx hg.1).1
      refine ih (i := je) (nn := nn) (by omega) hs S e3 hb hn1 h1 h2 (by omega) (by rw [e2]; omega) (by omega) hk (fun ok r h3 y5 ov3 c3 r3 x1 x2 x3 x4 x5 x6 x7 x8 x9 => ⟨r, rfl, y5, x7.1, ?_⟩) (fun nok h3 y3 x1 x2 => ?_)
      · rw [e2] at ok x3
        have hs3 := x7.1
        have hi3 := x4 i hi
        have g3 : (pl (ov3 i))[(pl (ov3 i)).length - 1]? = some (e, t) := by rw [hi3]; exact g
        refine t_X2_draftLess (l := 1) (by omega) hs3 x9 ha i_1 (by omega) g3 (fun h6 D6 F6 => ⟨rfl, F6.sg hs3, ?_⟩)
        rw [hi3, ← lsL_eq g] at D6
        have hs6 := F6.sg hs3
        have S6 := x9.fd hs3 F6 (Or.inl rfl)
        -- what is made in the end
        have fin : ∀ (h8 : XH) (L : List OP) (u1 u2 u3 u4 u5 : Option Value), Fdr 11 h3 h8 → Do h8 11 c3 ov3 L → mk L = stpF nn (lv + 1) (ov i) → b_X2_lower_71 d 6 u1 u2 u3 u4 u5 h8 K E := by
          intro h8 L u1 u2 u3 u4 u5 F8 D8 hL
          refine w_X2_lower_71 (by omega) (F8.sg hs3) (t_made (m := lv + 1) (p := 14) (by omega) (F8.sg hs3) (x9.fd hs3 F8 (Or.inl rfl)) (Or.inl rfl) D8 (by rw [hL]; exact hnf) (by omega) (x7.tr (Fs.fd hs3 F8 (Or.inl rfl))) (by omega) (fun r a b => ?_) hk x5 (by omega) x4 (fun ok2 => ?_) (fun nok2 => ?_))
          · rw [(F8.2.2 r (by omega) (by omega) (by omega)).1, (F8.2.2 r (by omega) (by omega) (by omega)).2]
            exact x8 r a b
          · rw [hL] at ok2 ⊢
            exact kk (by rw [hso]; exact ⟨ok, ok2⟩)
          · rw [hL] at nok2
            exact ke (by rw [hso]; exact fun v => nok2 v.2)
        have hje := S.ne (show je < c by omega)
        rw [e2] at hje
        have lsl := lsL_len (pl (ov i)) 1
        refine ⟨fun w => fin h6 _ _ _ _ _ _ F6 D6 ?_, fun w => ?_⟩
        · have hel : e = .leaf := hje.mpr (by have := i_ne.mp w; omega)
          rw [hse, hel]
          show _ = mk (lsL (pl (ov i)) 1 ++ (if oc .leaf .leaf = 0 then [] else _))
          rw [if_pos (show oc .leaf .leaf = 0 from rfl), List.append_nil]
        · have hel : ¬ e = .leaf := fun v => w (i_ne.mpr (by have := hje.mp v; omega))
          have ho3 := (x4 je (by omega)).trans e2
          refine t_X2_finiteTail (i := je) (by omega) hs6 S6 e3 (by omega) (fun r8 hr8 => ⟨r8, rfl, hs6, fun v => ?_, fun v => ?_⟩)
          · rw [ho3] at hr8
            rw [i_le, hr8, i_0] at v
            refine w_X2_lower_66 (by omega) hs6 (fun h9 e9 => ?_)
            obtain ⟨D9, F9⟩ := D6.add (v := 1) (n := 1) (by omega) rfl x1 x2 x3
            rw [← e9] at D9 F9
            refine fin h9 _ _ _ _ _ _ (F6.tr F9) D9 ?_
            rw [hse]
            show _ = mk (lsL (pl (ov i)) 1 ++ (if oc e .leaf = 0 then [] else [(stpF nn lv e, if 0 < tl (pl e) then nn else 1)]))
            rw [if_neg (fun q => hel (oc_eq _ _ q)), if_neg (by omega)]
          · rw [ho3] at hr8
            rw [i_le, hr8, i_0] at v
            refine w_X2_lower_66 (by omega) hs6 (fun h9 e9 => ?_)
            obtain ⟨D9, F9⟩ := D6.add (v := b.toInt64) (n := nn) (by omega) (by rw [i_2j]; exact hb) x1 x2 x3
            rw [← e9] at D9 F9
            refine fin h9 _ _ _ _ _ _ (F6.tr F9) D9 ?_
            rw [hse]
            show _ = mk (lsL (pl (ov i)) 1 ++ (if oc e .leaf = 0 then [] else [(stpF nn lv e, if 0 < tl (pl e) then nn else 1)]))
            rw [if_neg (fun q => hel (oc_eq _ _ q)), if_pos (by omega)]
      · rw [e2] at nok
        exact ke (by rw [hso]; exact fun v => nok v.1) h3 y3 x1 x2
theorem t_X2_stepped {a b : Int32} {i nn : Nat} (hd : 36 ≤ d) (hs : Sg h.1 y) (S : St h y c k ov) (ha : a.toInt = i) (hb : b.toInt = nn) (h1 : 1 ≤ nn) (h2 : nn ≤ 1000000) (hi : i < c) (hc : c + 5 < 16384) (hk : k ≤ c) (kk : stpok nn 5 (ov i) → Kx 14 5 h y c k ov (stpF nn 5 (ov i)) K) (ke : ¬ stpok nn 5 (ov i) → Kf h y k ov E) : Ca d m_X2_stepped [.ref 6, .int a, .int b] h K E := by
  obtain ⟨d, rfl⟩ : ∃ e, d = e + 1 := ⟨d - 1, by omega⟩
  refine w_X2_stepped (by omega) hs (t_X2_lower 5 (by omega) hs S ha hb rfl h1 h2 hi (S.good hi).2.2.2 hc hk (fun ok r h2 y2 ov2 c2 r2 x1 x2 x3 x4 x5 x6 x7 x8 x9 => ⟨r, rfl, y2, x7.1, kk ok r h2 y2 ov2 c2 r2 x1 x2 x3 x4 x5 x6 x7 x8 x9⟩) ke)
end
