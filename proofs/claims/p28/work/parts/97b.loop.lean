/-! ===== layer 4: the law's turns, its loop, its beginning ===== -/
theorem i_andp (x : Int32) : 0 ≤ (x &&& 134217727).toInt := by
  have h1 : (x &&& 134217727).toBitVec.toNat = x.toBitVec.toNat % 134217728 := by
    show (x.toBitVec &&& 134217727#32).toNat = _
    rw [BitVec.toNat_and]
    show x.toBitVec.toNat &&& (2 ^ 27 - 1) = _
    rw [Nat.and_two_pow_sub_one_eq_mod]
  have e : (x &&& 134217727) = Int32.ofNat (x.toBitVec.toNat % 134217728) := by
    refine Int32.toBitVec_inj.mp (BitVec.toNat_inj.mp ?_)
    rw [h1]
    show _ = (BitVec.ofNat 32 (x.toBitVec.toNat % 134217728)).toNat
    rw [BitVec.toNat_ofNat]
    omega
  rw [e, Int32.toInt_ofNat_of_lt (by omega)]
  omega
theorem i_and31 (x : Int32) : 0 ≤ (x &&& 31).toInt ∧ (x &&& 31).toInt < 32 := by
  have h1 : (x &&& 31).toBitVec.toNat = x.toBitVec.toNat % 32 := by
    show (x.toBitVec &&& 31#32).toNat = _
    rw [BitVec.toNat_and]
    show x.toBitVec.toNat &&& (2 ^ 5 - 1) = _
    rw [Nat.and_two_pow_sub_one_eq_mod]
  have e : (x &&& 31) = Int32.ofNat (x.toBitVec.toNat % 32) := by
    refine Int32.toBitVec_inj.mp (BitVec.toNat_inj.mp ?_)
    rw [h1]
    show _ = (BitVec.ofNat 32 (x.toBitVec.toNat % 32)).toNat
    rw [BitVec.toNat_ofNat]
    omega
  rw [e, Int32.toInt_ofNat_of_lt (by omega)]
  omega
theorem is9_mod {x : Int32} (h : 0 ≤ x.toInt) : is9 (x - x / 9 * 9) := i_mod (k := 9) (n := 9) h rfl (by omega)
section
variable {d L C X : Nat} {xs : Nat → Int32} {h : XH} {S : XS} {K : XK} {E : XE} {p a b l2 l4 l5 l6 l7 l11 : Int32} {u3 u6 u7 u8 u9 u10 u12 u13 u14 : Option Value} {u11 : Option Int32}
theorem cs_976 (hd : 71 ≤ d) (hC : C + 10030 < 16384) (T : TE d L xs (C + 10) (X + 6) l4 l5 p K E) (J : LJ L xs C X h S) (hp : is9 p) (ha : is9 a) (hb : is9 b) : b_L_law_976 d 0 1 l2 u3 l4 l5 u6 l7 p a b u11 u12 u13 u14 h K E := by
  by_cases c : l7.toInt < 27
  · exact cs_cut hd hC T J hp ha hb c
  · obtain ⟨y, hs⟩ := J.sg
    exact w_L_law_976 (by omega) hs ⟨fun _ => cs_cmp hd hC T J ha hb, fun z => absurd (i_le.mpr (by show 27 ≤ l7.toInt; omega)) z⟩
theorem cs_840 (hd : 71 ≤ d) (hC : C + 10030 < 16384) (T : TE d L xs (C + 10) (X + 6) l4 l5 p K E) (J : LJ L xs C X h S) (hp : is9 p) (ha : is9 a) (hb : is9 b) (h6 : 0 ≤ l6.toInt) : b_L_law_840 d 0 1 l2 u3 l4 l5 l6 l7 p a b u11 u12 u13 u14 h K E := by
  obtain ⟨y, hs⟩ := J.sg
  exact w_L_law_840 (by omega) hs ⟨fun _ => cs_976 hd hC T J hp ha hb, fun _ => ⟨fun _ => cs_976 hd hC T J hp ha hb, fun _ => cs_dsc hd hC T J ha h6⟩⟩
theorem cs_330 (hd : 71 ≤ d) (hC : C + 10030 < 16384) (T : TE d L xs (C + 10) (X + 6) l4 l5 p K E) (J : LJ L xs C X h S) (hp : is9 p) (ha : is9 a) (hb : is9 b) (h6 : 0 ≤ l6.toInt) : b_L_law_330 d 0 1 l2 u3 l4 l5 l6 l7 p a b u11 u12 u13 u14 h K E := by
  obtain ⟨y, hs⟩ := J.sg
  have hd0 : 70 ≤ d := by omega
  by_cases c1 : l7.toInt < 8
  · exact cs_ome hd hC T J hp ha c1
  refine w_L_law_330 hd0 hs ⟨fun _ => ?_, fun z => absurd (i_le.mpr (by show 8 ≤ l7.toInt; omega)) z⟩
  by_cases c2 : l7.toInt < 17
  · exact cs_sum hd hC T J hp ha hb c2
  refine w_L_law_411 hd0 hs ⟨fun _ => ?_, fun z => absurd (i_le.mpr (by show 17 ≤ l7.toInt; omega)) z⟩
  by_cases c3 : l7.toInt < 19
  · refine cs_nat hd hC T J hp ha hb ?_
    rcases (show l7.toInt = 17 ∨ l7.toInt = 18 by omega) with e | e
    · exact Or.inl (i_eq e rfl)
    · exact Or.inr (i_eq e rfl)
  refine w_L_law_535 hd0 hs ⟨fun _ => ?_, fun z => absurd (i_le.mpr (by show 19 ≤ l7.toInt; omega)) z⟩
  by_cases c4 : l7 = 19
  · rw [c4]
    exact cs_der hd hC T J hp ha
  refine w_L_law_655 hd0 hs ⟨fun _ => ?_, fun z => absurd c4 z⟩
  by_cases c5 : l7.toInt < 23
  · exact cs_stp hd hC T J hp ha h6 c5
  exact w_L_law_707 hd0 hs ⟨fun _ => cs_840 hd hC T J hp ha hb h6, fun z => absurd (i_le.mpr (by show 23 ≤ l7.toInt; omega)) z⟩
theorem cs_151 (hd : 71 ≤ d) (hC : C + 10030 < 16384) (T : TE d L xs (C + 10) (X + 6) l4 l5 p K E) (J : LJ L xs C X h S) (hp : is9 p) (ha : is9 a) (hb : is9 b) (h6 : 0 ≤ l6.toInt) : b_L_law_151 d 0 1 l2 u3 l4 l5 l6 l7 p a b l11 u12 u13 u14 h K E := by
  obtain ⟨y, hs⟩ := J.sg
  have hd0 : 70 ≤ d := by omega
  refine w_L_law_151 hd0 hs ⟨fun n0 => ?_, fun _ => cs_fin hd hC T J hp h6⟩
  by_cases c1 : l11 = 1
  · rw [c1]
    exact cs_num hd hC T J hp h6
  refine w_L_law_194 hd0 hs ⟨fun _ => ?_, fun z => absurd c1 z⟩
  by_cases c2 : l11 = 2
  · rw [c2]
    exact cs_trm hd hC T J hp h6
  exact w_L_law_251 hd0 hs ⟨fun _ => cs_330 hd hC T J hp ha hb h6, fun z => absurd c2 z⟩
theorem cs_99 (hd : 71 ≤ d) (hC : C + 10030 < 16384) (T : TE d L xs (C + 10) (X + 6) l4 l5 p K E) (J : LJ L xs C X h S) (hp : is9 p) (h6 : 0 ≤ l6.toInt) : b_L_law_99 d 0 1 l2 u3 l4 l5 l6 l7 u8 u9 u10 u11 u12 u13 u14 p h K E := by
  obtain ⟨y, hs⟩ := J.sg
  have hd0 : 70 ≤ d := by omega
  have ha := is9_mod (i_shn h6 sh4)
  have hb := is9_mod (i_shn h6 sh8)
  exact w_L_law_99 hd0 hs ⟨fun _ => ⟨fun _ => w_L_law_149 hd0 hs (cs_151 hd hC T J hp ha hb h6), fun _ => w_L_law_149 hd0 hs (cs_151 hd hC T J hp ha hb h6)⟩, fun _ => w_L_law_149 hd0 hs (cs_151 hd hC T J hp ha hb h6)⟩
/-- a draw leaves all as it is -/
theorem q_draw {k : Int32} {y : Nat → Nat} {P : Int32 → XH → Prop} (hd : 2 ≤ d) (hs : Sg h.1 y) (hT : h.1[0]? = some (5, L, [])) (hL : L < 1000) (hk : 0 ≤ k.toInt) (kk : ∀ r, P r h) : Ca d m_L_draw [.ref 0, .int k] h (fun rv h1 => ∃ x2, rv = some (.int x2) ∧ Sg h1.1 y ∧ P x2 h1) E := by
  obtain ⟨d, rfl⟩ : ∃ e, d = e + 1 := ⟨d - 1, by omega⟩
  refine Ca.of ⟨by show 2 ≤ 2; omega, rfl⟩ ?_
  show Ex d [] tb_L_draw (0, [some (.ref 0), some (.int k)], []) h _
  refine Ex.pure 2 (fr2 := (2, [some (.ref 0), some (.int k)], [.ref 0, .int k])) rfl ?_
  refine Ex.alen (n := L) rfl (Or.inr (Or.inr (Or.inr rfl))) hT ?_
  show Ex d [] tb_L_draw (3, [some (.ref 0), some (.int k)], [.int (Int32.ofNat L), .int k]) h _
  refine Ex.br (x := (12, [some (.ref 0), some (.int k)], [])) (y := (6, [some (.ref 0), some (.int k)], [])) (b := Int32.ofNat L ≤ k) rfl (fun _ => ?_) (fun z => ?_)
  · refine Ex.pure 11 (fr2 := (27, [some (.ref 0), some (.int k)], [.int (3810017 * k * k + 164083 * k + 349)])) rfl ?_
    exact Ex.iret rfl (Or.inl rfl) ⟨_, rfl, hs, kk _⟩
  · refine Ex.pure 2 (fr2 := (8, [some (.ref 0), some (.int k)], [.int k, .ref 0])) rfl ?_
    have hl : (Int32.ofNat L).toInt = L := Int32.toInt_ofNat_of_lt (by omega)
    have hlt : k.toInt < L := by
      have z1 : ¬ (Int32.ofNat L).toInt ≤ k.toInt := fun w => z (i_le.mpr w)
      rw [hl] at z1
      omega
    refine Ex.iald rfl (Or.inr rfl) hT (i_Ix (i := k.toInt.toNat) (by omega) (by omega)) ?_
    show Ex d [] tb_L_draw (9, [some (.ref 0), some (.int k)], [.int _]) h _
    refine Ex.pure 1 (fr2 := (27, [some (.ref 0), some (.int k)], [.int (h.2.1 0 k.toNatClampNeg)])) rfl ?_
    exact Ex.iret rfl (Or.inl rfl) ⟨_, rfl, hs, kk _⟩
theorem LJ.two (J : LJ L xs C X h S) : ∃ y, Sg h.1 y ∧ h.1[0]? = some (5, L, []) := by
  obtain ⟨y, c, hs, hT, -⟩ := J
  exact ⟨y, hs, hT⟩
theorem cs_58 (hd : 71 ≤ d) (hL : L < 1000) (hC : C + 10030 < 16384) (T : ∀ q, is9 q → TE d L xs (C + 10) (X + 6) l4 l5 q K E) (J : LJ L xs C X h S) (h5 : 0 ≤ l5.toInt) : b_L_law_58 d 0 1 l2 u3 l4 l5 u6 u7 u8 u9 u10 u11 u12 u13 u14 h K E := by
  obtain ⟨y, hs, hT⟩ := J.two
  have hd0 : 70 ≤ d := by omega
  refine w_L_law_58 hd0 hs (q_draw (by omega) hs hT hL h5 (fun x2 => q_draw (by omega) hs hT hL h5 (fun x4 => ?_)))
  have h6 := i_andp (x2 >>> ((5 : Int32) &&& 31))
  refine ⟨fun _ => cs_99 hd hC (T _ (is9_mod h6)) J (is9_mod h6) h6, fun z => ?_⟩
  have h9 : is9 l5 := ⟨h5, by
    have z1 : ¬ (9 : Int32).toInt ≤ l5.toInt := fun w => z (i_le.mpr w)
    have e9 : (9 : Int32).toInt = 9 := rfl
    rw [e9] at z1
    omega⟩
  exact cs_99 hd hC (T _ h9) J h9 h6
/-- from a turn's end to the next turn -/
theorem te_of (hd : 71 ≤ d) (hC : C + 10020 < 16384) (hp : is9 p) (next : ∀ (l2 : Int32) (u6 u7 u8 u9 u10 : Option Value) (u11 : Option Int32) (u12 u13 u14 : Option Value) (h : XH) (S : XS), LJ L xs C (X + 16) h S → b_L_law_47 d 0 1 l2 1 l4 (l5 + 1) u6 u7 u8 u9 u10 u11 u12 u13 u14 h K E) : TE d L xs C X l4 l5 p K E := by
  intro l2 u6 u7 u9 u10 u11 u12 u13 u14 h S J
  have hd0 : 70 ≤ d := by omega
  obtain ⟨y, hs⟩ := J.sg
  refine w_L_law_1266 hd0 hs ⟨fun z => absurd z (by decide), fun _ => w_L_law_1270 hd0 hs (t_isFine hd J hC hp (fun h2 S2 J2 => ?_))⟩
  obtain ⟨y2, hs2⟩ := J2.sg
  exact ⟨1, rfl, y2, hs2, fun z => absurd z (by decide), fun _ => w_L_law_1284 hd0 hs2 (next _ _ _ _ _ _ _ _ _ _ _ _ J2)⟩
/-- the nine looks at the end -/
theorem cs_end {u0 : Option Value} {u2 u4 : Option Int32} (hd : 71 ≤ d) (hC : C + 10020 < 16384) (kk : ∀ h S, LJ L xs C (X + 144) h S → K (some (.int 1)) h) : ∀ (m k : Nat) (Y : Nat) (l5 : Int32) (h : XH) (S : XS), k + m = 9 → l5.toInt = k → Y = X + 16 * k → LJ L xs C Y h S → b_L_law_1294 d u0 1 u2 1 u4 l5 u6 u7 u8 u9 u10 u11 u12 u13 u14 h K E := by
  have hd0 : 70 ≤ d := by omega
  have e9 : (9 : Int32).toInt = 9 := rfl
  intro m
  induction m with
  | zero =>
    intro k Y l5 h S hm h5 hY J
    obtain ⟨y, hs⟩ := J.sg
    exact w_L_law_1294 hd0 hs ⟨fun _ => ⟨Or.inr rfl, kk h S (J.le (Nat.le_refl _) (by omega))⟩, fun z => absurd (i_le.mpr (by rw [e9]; omega)) z⟩
  | succ m ih =>
    intro k Y l5 h S hm h5 hY J
    obtain ⟨y, hs⟩ := J.sg
    refine w_L_law_1294 hd0 hs ⟨fun z => absurd (i_le.mp z) (by rw [e9]; omega), fun _ => ⟨fun z => absurd z (by decide), fun _ => ?_⟩⟩
    refine t_isFine hd J hC ⟨by omega, by omega⟩ (fun h2 S2 J2 => ?_)
    obtain ⟨y2, hs2⟩ := J2.sg
    have h51 : (l5 + 1).toInt = (k + 1 : Nat) := by
      rw [i_add (by rw [i_1]; omega) (by rw [i_1]; omega), i_1]
      omega
    exact ⟨1, rfl, y2, hs2, ih (k + 1) (Y + 16) (l5 + 1) h2 S2 (by omega) h51 (by omega) J2⟩
theorem law_loop {N : Nat} (hd : 71 ≤ d) (hL : L < 1000) (hN : N ≤ 330) (h4 : l4.toInt = N) (kk : ∀ h S, LJ L xs 3400 8000 h S → K (some (.int 1)) h) : ∀ (m k C X : Nat) (l2 l5 : Int32) (u6 u7 u8 u9 u10 : Option Value) (u11 : Option Int32) (u12 u13 u14 : Option Value) (h : XH) (S : XS), k + m = N → l5.toInt = k → C = 1 + 10 * k → X = 22 * k → LJ L xs C X h S → b_L_law_47 d 0 1 l2 1 l4 l5 u6 u7 u8 u9 u10 u11 u12 u13 u14 h K E := by
  have hd0 : 70 ≤ d := by omega
  intro m
  induction m with
  | zero =>
    intro k C X l2 l5 u6 u7 u8 u9 u10 u11 u12 u13 u14 h S hm h5 hC hX J
    obtain ⟨y, hs⟩ := J.sg
    refine w_L_law_47 hd0 hs ⟨fun _ => ?_, fun z => absurd (i_le.mpr (by omega)) z⟩
    exact w_L_law_1291 hd0 hs (cs_end (C := C) (X := X) hd (by omega) (fun h2 S2 J2 => kk h2 S2 (J2.le (by omega) (by omega))) 9 0 X 0 h S rfl rfl (by omega) J)
  | succ m ih =>
    intro k C X l2 l5 u6 u7 u8 u9 u10 u11 u12 u13 u14 h S hm h5 hC hX J
    obtain ⟨y, hs⟩ := J.sg
    have h51 : (l5 + 1).toInt = (k + 1 : Nat) := by
      rw [i_add (by rw [i_1]; omega) (by rw [i_1]; omega), i_1]
      omega
    have hC3 : C ≤ 3400 := by omega
    have hCa : C + 10030 < 16384 := by omega
    have hCb : C + 10 + 10020 < 16384 := hC_le (C := C) hCa (by omega)
    refine w_L_law_47 hd0 hs ⟨fun z => absurd (i_le.mp z) (by omega), fun _ => ⟨fun z => absurd z (by decide), fun _ => ?_⟩⟩
    refine cs_58 hd hL hCa (fun q hq => te_of hd hCb hq (fun l2 u6 u7 u8 u9 u10 u11 u12 u13 u14 h2 S2 J2 => ?_)) J (by omega)
    exact ih (k + 1) (C + 10) (X + 6 + 16) l2 (l5 + 1) u6 u7 u8 u9 u10 u11 u12 u13 u14 h2 S2 (by omega) h51 (by omega) (by omega) J2
/-- from the beginning to the loop: the number of turns -/
theorem law_turns (hL : L ≤ 260) (hT : h.1[0]? = some (5, L, [])) (H : ∀ (N : Nat) (l4 : Int32), N ≤ 330 → l4.toInt = N → b_L_law_47 d 0 1 0 1 l4 0 none none none none none none none none none h K E) : Ex d [] tb_L_law (12, [some (.ref 0), some (.ref 1), some (.int 0), some (.int 1), none, none, none, none, none, none, none, none, none, none, none], []) h (Po K E) := by
  have hl : (Int32.ofNat L).toInt = L := Int32.toInt_ofNat_of_lt (by omega)
  refine Ex.pure 1 (fr2 := (13, [some (.ref 0), some (.ref 1), some (.int 0), some (.int 1), none, none, none, none, none, none, none, none, none, none, none], [.ref 0])) rfl ?_
  refine Ex.alen (n := L) rfl (Or.inr (Or.inr (Or.inr rfl))) hT ?_
  show Ex d [] tb_L_law (14, [some (.ref 0), some (.ref 1), some (.int 0), some (.int 1), none, none, none, none, none, none, none, none, none, none, none], [.int (Int32.ofNat L)]) h _
  refine Ex.pure 1 (fr2 := (16, [some (.ref 0), some (.ref 1), some (.int 0), some (.int 1), none, none, none, none, none, none, none, none, none, none, none], [.int 60, .int (Int32.ofNat L)])) rfl ?_
  refine Ex.br (x := (25, [some (.ref 0), some (.ref 1), some (.int 0), some (.int 1), none, none, none, none, none, none, none, none, none, none, none], [])) (y := (19, [some (.ref 0), some (.ref 1), some (.int 0), some (.int 1), none, none, none, none, none, none, none, none, none, none, none], [])) (b := (60 : Int32) ≤ Int32.ofNat L) rfl (fun _ => ?_) (fun _ => ?_)
  · refine Ex.pure 1 (fr2 := (26, [some (.ref 0), some (.ref 1), some (.int 0), some (.int 1), none, none, none, none, none, none, none, none, none, none, none], [.ref 0])) rfl ?_
    refine Ex.alen (n := L) rfl (Or.inr (Or.inr (Or.inr rfl))) hT ?_
    show Ex d [] tb_L_law (27, [some (.ref 0), some (.ref 1), some (.int 0), some (.int 1), none, none, none, none, none, none, none, none, none, none, none], [.int (Int32.ofNat L)]) h _
    refine Ex.pure 1 (fr2 := (29, [some (.ref 0), some (.ref 1), some (.int 0), some (.int 1), none, none, none, none, none, none, none, none, none, none, none], [.int 110, .int (Int32.ofNat L)])) rfl ?_
    refine Ex.br (x := (39, [some (.ref 0), some (.ref 1), some (.int 0), some (.int 1), none, none, none, none, none, none, none, none, none, none, none], [])) (y := (32, [some (.ref 0), some (.ref 1), some (.int 0), some (.int 1), none, none, none, none, none, none, none, none, none, none, none], [])) (b := (110 : Int32) ≤ Int32.ofNat L) rfl (fun _ => ?_) (fun z => ?_)
    · refine Ex.pure 4 (fr2 := (47, [some (.ref 0), some (.ref 1), some (.int 0), some (.int 1), some (.int 330), some (.int 0), none, none, none, none, none, none, none, none, none], [])) rfl ?_
      exact H 330 330 (by omega) rfl
    · have z1 : ¬ (110 : Int32).toInt ≤ (Int32.ofNat L).toInt := fun w => z (i_le.mpr w)
      have e110 : (110 : Int32).toInt = 110 := rfl
      have e3 : (3 : Int32).toInt = 3 := rfl
      rw [hl, e110] at z1
      refine Ex.pure 2 (fr2 := (34, [some (.ref 0), some (.ref 1), some (.int 0), some (.int 1), none, none, none, none, none, none, none, none, none, none, none], [.ref 0, .int 3])) rfl ?_
      refine Ex.alen (n := L) rfl (Or.inr (Or.inr (Or.inr rfl))) hT ?_
      show Ex d [] tb_L_law (35, [some (.ref 0), some (.ref 1), some (.int 0), some (.int 1), none, none, none, none, none, none, none, none, none, none, none], [.int (Int32.ofNat L), .int 3]) h _
      refine Ex.pure 5 (fr2 := (47, [some (.ref 0), some (.ref 1), some (.int 0), some (.int 1), some (.int (3 * Int32.ofNat L)), some (.int 0), none, none, none, none, none, none, none, none, none], [])) rfl ?_
      refine H (3 * L) (3 * Int32.ofNat L) (by omega) ?_
      rw [i_mul (by rw [e3, hl]; omega) (by rw [e3, hl]; omega), e3, hl]
      omega
  · refine Ex.pure 5 (fr2 := (47, [some (.ref 0), some (.ref 1), some (.int 0), some (.int 1), some (.int 260), some (.int 0), none, none, none, none, none, none, none, none, none], [])) rfl ?_
    exact H 260 260 (by omega) rfl
end
def Kfin : XK := fun v h2 => v = some (.int 1) ∧ h2.1.length ≤ 600075 ∧ h2.2.2.2 ≤ 7301550
def y_0 : Nat → Nat
  | 0 => 7
  | 1 => 8
  | 2 => 9
  | 3 => 10
  | 4 => 32
  | 5 => 32
  | 6 => 64
  | 7 => 64
  | 8 => 20
  | _ => 23
set_option maxRecDepth 100000 in
set_option maxHeartbeats 4000000 in
theorem sg_0 (L : Nat) (xs : Nat → Int32) : Sg (hp_153 L xs).1 y_0 := by
  refine ⟨fun k t hk => ?_, rfl, ⟨rfl, rfl, rfl, rfl⟩, rfl, Or.inl ⟨rfl, rfl⟩, ⟨Or.inl rfl, Or.inl rfl, Or.inl rfl, Or.inl rfl⟩, by decide, by decide⟩
  unfold shp at hk
  split at hk
  all_goals first
    | (cases hk; rfl)
    | cases hk
theorem gd_0 : gd .leaf := ⟨trivial, Nat.zero_le _, fun p hp => absurd hp List.not_mem_nil, Nat.zero_le _⟩
theorem CI_0 (L : Nat) (xs : Nat → Int32) : CI (hp_153 L xs) y_0 1 S_0 := by
  refine ⟨fun _ => .leaf, ⟨⟨rfl, rfl, Nat.le_refl _, Nat.le_refl _, by decide⟩, rfl, ⟨by decide, by decide, by decide, by decide, by unfold Yl; decide⟩, fun i hi => ?_, fun i hi => ?_, fun i hi => gd_0, fun i a b => absurd a (by omega), fun i hi m e n hm => by cases hm⟩, fun p hp => ⟨rfl, fun w => absurd w (by show ¬ (0 : Int32) = 1; decide), fun w => absurd w (by show ¬ (0 : Int32) = 2; decide), fun w => absurd w (by show ¬ (0 : Int32) = 3; decide)⟩⟩
  · match i, hi with
    | 0, _ => rfl
    | 1, _ => rfl
    | n + 2, h => exact absurd h (by omega)
  · match i, hi with
    | 0, _ => rfl
    | n + 1, h => exact absurd h (by omega)
theorem LJ_0 (L : Nat) (xs : Nat → Int32) : LJ L xs 1 0 (hp_153 L xs) S_0 := by
  refine ⟨y_0, 1, sg_0 L xs, rfl, rfl, CI_0 L xs, VA_0, Nat.le_refl _, ?_, ?_⟩
  · show 77 ≤ 77 + Ty y_0 + 0
    omega
  · show 2886 ≤ 42681 + 2 * Ty y_0 + 6 * 0
    omega
theorem law_ok : x_Law := by
  intro L xs hL
  have H : Ex 100 [] tb_L_law (0, x_entry [.ref 0] 15, []) (x_h0 L xs) (Po Kfin (fun _ _ => False)) := by
    refine law_begins (by omega) (law_turns hL rfl (fun N l4 hN h4 => ?_))
    exact law_loop (by omega) (by omega) hN h4 (fun h S J => ⟨rfl, J.fin (by omega)⟩) N 0 1 0 0 0 _ _ _ _ _ _ _ _ _ _ _ (Nat.zero_add _) rfl rfl rfl (LJ_0 L xs)
  obtain ⟨o, h2, F, p, e⟩ := H
  cases o with
  | inl v =>
    obtain ⟨rfl, q1, q2⟩ := p
    exact ⟨100, F, F, h2, by omega, e, q1, q2⟩
  | inr x => exact p.elim
