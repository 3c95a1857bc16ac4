/-! ===== layer 2: contracts of the class's ordinals: the product ===== -/
/-- what is made and its exponents fit -/
def mulok (x y : O) : Prop := match pl x with
  | [] => True
  | p :: _ => pl y = [] ∨ (∀ q ∈ pl y, okm (addO p.1 q.1)) ∧ okm (mulO x y)
section
variable {d : Nat} {h : XH} {y : Nat → Nat} {c k : Nat} {ov : Nat → O} {K : XK} {E : XE}
theorem t_X2_mul_end {a b l3 l4 : Int32} {i j ja : Nat} {ea : O} {na : Nat} {A : List OP} {h0 : XH} {y0 : Nat → Nat} {c0 : Nat} {ov0 : Nat → O} (hd : 28 ≤ d) (hs : Sg h.1 y) (S : St h y c k ov) (ha : a.toInt = i) (hb : b.toInt = j) (hi : i < c) (hj : j < c) (h3 : l3.toInt = ja) (hja : ja < c) (oja : ov ja = ea) (hA : pl (ov i) = (ea, na) :: A) (h4 : l4.toInt = (pl (ov j)).length) (hc : c < 16384)
    (hsum : ∀ t e n, (pl (ov j))[t]? = some (e, n) → ∃ js, js < c ∧ ov js = addO ea e ∧ (h.2.1 17 t).toInt = js) (F0 : Fs 0 h0 y0 h y) (hk : k ≤ c0) (hc0 : c0 ≤ c) (hm : c + 1 ≤ c0 + 9) (e0 : ∀ i, i < c0 → ov i = ov0 i) (kk : okm (mulO (ov i) (ov j)) → Kx 18 9 h0 y0 c0 k ov0 (mulO (ov i) (ov j)) K) (ke : ¬ okm (mulO (ov i) (ov j)) → Kf h0 y0 k ov0 E) :
    ∀ (q s : Nat) (l5 : Int32) (h1 : XH) (L : List OP), q + s = (pl (ov j)).length → l5.toInt = s → L.length ≤ 8 * s → Fdr 11 h h1 → Do h1 11 c ov L → L ++ mulL (pl (ov i)) ((pl (ov j)).drop s) = mulL (pl (ov i)) (pl (ov j)) → b_X2_multiplied_71 d 6 a b l3 l4 l5 h1 K E := by
  have hg := S.good hi
  have hgj := S.good hj
  have li := S.len hi
  have lj := S.len hj
  intro q
  induction q with
  | zero =>
    intro s l5 h1 L hq h5 hl F D hL
    have hs1 := F.sg hs
    have S1 := S.fd hs F (Or.inl rfl)
    refine w_X2_multiplied_71 (by omega) hs1 ⟨fun _ => ?_, fun z => absurd (i_le.mpr (by omega)) z⟩
    have eL : L = mulL (pl (ov i)) (pl (ov j)) := by
      rw [← hL, List.drop_eq_nil_of_le (show (pl (ov j)).length ≤ s by omega)]
      exact (List.append_nil L).symm
    rw [eL] at D
    exact t_made (by omega) hs1 S1 (Or.inl rfl) D (nf_mulO hg.1 hgj.1) hc (F0.tr (Fs.fd hs F (Or.inl rfl))) (by omega) (fun r a b => by omega) hk hc0 hm e0 kk ke
  | succ q ih =>
    intro s l5 h1 L hq h5 hl F D hL
    have hs1 := F.sg hs
    have S1 := S.fd hs F (Or.inl rfl)
    obtain ⟨e, n, g⟩ := getc (A := pl (ov j)) (m := s) (by omega)
    obtain ⟨je, e1, e2, e3⟩ := S1.exps hs1 hb h5 hj g
    have te := S1.tims hs1 hb h5 hj g
    have hn1 := gd_tm hgj g
    have n5 : (l5 + 1).toInt = (s + 1 : Nat) := by rw [i_add (by rw [i_1]; omega) (by rw [i_1]; omega), h5, i_1]; rfl
    rw [dropc g] at hL
    refine w_X2_multiplied_71 (by omega) hs1 ⟨fun z => absurd (i_le.mp z) (by omega), fun _ => ⟨fun z h7 e7 => ?_, fun z h10 e10 => ?_⟩⟩
    · have hne : ¬ e = .leaf := fun w => z (i_ne.mpr (by
        have := (S1.ne (show je < c by omega)).mp (e2.trans w)
        omega))
      obtain ⟨js, s1, s2, s3⟩ := hsum s e n g
      have g17 : g_I h1 17 8 l5 = h.2.1 17 s := by rw [g_in h5 (by omega), (F.2.2 17 (by omega) (by omega) (by omega)).1]
      obtain ⟨D2, F2⟩ := D.add (v := (tm h1 y b l5).toInt64) (n := n) (by omega) (by rw [i_2j, te]) (e := g_I h1 17 8 l5) (by rw [g17]; exact s3) s1 s2
      rw [← e7] at D2 F2
      refine w_X2_multiplied_150 (by omega) ((F.tr F2).sg hs) (ih (s + 1) _ _ _ (by omega) n5 (by rw [List.length_append]; simp only [List.length_singleton]; omega) (F.tr F2) D2 ?_)
      rw [← hL, List.append_assoc, hA]
      cases e with
      | leaf => exact absurd rfl hne
      | inner => rfl
    · have hle : e = .leaf := by
        have := i_ne.mp (Classical.not_not.mp z)
        rw [← e2]
        exact (S1.ne (show je < c by omega)).mpr (by omega)
      subst hle
      have g0 : (pl (ov i))[0]? = some (ea, na) := by rw [hA]; rfl
      have ta := S1.tims hs1 ha i_0 hi g0
      have hna := gd_tm hg g0
      have hmul : na * n ≤ 1000000 * 1000000 := Nat.mul_le_mul hna hn1
      obtain ⟨D2, F2⟩ := D.add (v := (tm h1 y a 0).toInt64 * (tm h1 y b l5).toInt64) (n := na * n) (by omega) (by
        have : ((na : Int) * (n : Int)) = ((na * n : Nat) : Int) := by rw [Int.natCast_mul]
        rw [j_mul (by rw [i_2j, i_2j, ta, te, this]; omega) (by rw [i_2j, i_2j, ta, te, this]; omega), i_2j, i_2j, ta, te, this]) h3 hja oja
      rw [← e10] at D2 F2
      have F12 := F.tr F2
      have hs2 := F12.sg hs
      have S2 := S.fd hs F12 (Or.inl rfl)
      refine t_X2_draftPowers (by omega) hs2 S2 D2 ha i_1 (S2.pows hs2 ha hi) hi (Nat.le_refl _) (by rw [List.length_append]; simp only [List.length_singleton]; omega) (fun h12 D3 F3 => ⟨rfl, F3.sg hs2, ?_⟩)
      refine w_X2_multiplied_150 (by omega) (F3.sg hs2) (ih (s + 1) _ _ _ (by omega) n5 ?_ (F12.tr F3) D3 ?_)
      · rw [List.take_length, List.length_append, List.length_append, List.length_drop]
        simp only [List.length_singleton]
        omega
      · rw [← hL, List.take_length, List.append_assoc, List.append_assoc, hA]
        show L ++ ([(ea, na * n)] ++ (A ++ mulL ((ea, na) :: A) _)) = L ++ (((ea, na * n) :: A) ++ mulL ((ea, na) :: A) _)
        rfl
theorem t_X2_multiplied {a b : Int32} {i j : Nat} (hd : 30 ≤ d) (hs : Sg h.1 y) (S : St h y c k ov) (ha : a.toInt = i) (hb : b.toInt = j) (hi : i < c) (hj : j < c) (hc : c + 9 < 16384) (hk : k ≤ c) (kk : mulok (ov i) (ov j) → Kx 18 9 h y c k ov (mulO (ov i) (ov j)) K) (ke : ¬ mulok (ov i) (ov j) → Kf h y k ov E) : Ca d m_X2_multiplied [.ref 6, .int a, .int b] h K E := by
  obtain ⟨d, rfl⟩ : ∃ e, d = e + 1 := ⟨d - 1, by omega⟩
  have hg := S.good hi
  have hgj := S.good hj
  have li := S.len hi
  have lj := S.len hj
  have pj := S.pows hs hb hj
  refine w_X2_multiplied (by omega) hs ⟨fun z => ?_, fun z => ⟨fun w => ?_, fun w => ?_⟩⟩
  · have hi0 : ov i = .leaf := (S.ne hi).mpr (by have := i_ne.mp z; omega)
    have em : mulO (ov i) (ov j) = .leaf := by
      rw [hi0]
      have : ∀ B, mulL [] B = [] := by
        intro B
        induction B with
        | nil => rfl
        | cons r B ih =>
          obtain ⟨b, m⟩ := r
          cases b with
          | leaf => show [] ++ mulL [] B = []; rw [ih]; rfl
          | inner => show [] ++ mulL [] B = []; rw [ih]; rfl
      unfold mulO
      rw [show pl .leaf = [] from rfl, this]
      rfl
    rw [em] at kk
    exact kk (by unfold mulok; rw [hi0]; trivial) 0 h y ov c 0 rfl (by have := S.1.2.2; omega) S.s0 (fun _ _ => rfl) (Nat.le_refl _) (by omega) (Fs.rf hs) (fun _ _ _ => ⟨rfl, rfl⟩) S
  · have hil : ¬ ov i = .leaf := fun v => z (i_ne.mpr (by have := (S.ne hi).mp v; omega))
    have hjl : ¬ ov j = .leaf := fun v => w (i_ne.mpr (by have := (S.ne hj).mp v; omega))
    obtain ⟨ea, na, A, hA⟩ := pl_cons hil
    obtain ⟨eb, nb, B, hB⟩ := pl_cons hjl
    have g0 : (pl (ov i))[0]? = some (ea, na) := by rw [hA]; rfl
    obtain ⟨ja, a1, a2, a3⟩ := S.exps hs ha i_0 hi g0
    have mko : ∀ {P : Prop}, ((∀ q ∈ pl (ov j), okm (addO ea q.1)) ∧ okm (mulO (ov i) (ov j)) → P) → mulok (ov i) (ov j) → P := fun hP hm => by
      unfold mulok at hm
      rw [hA] at hm
      rcases hm with v | v
      · rw [hB] at v; cases v
      · exact hP v
    have mki : (∀ q ∈ pl (ov j), okm (addO ea q.1)) ∧ okm (mulO (ov i) (ov j)) → mulok (ov i) (ov j) := fun v => by
      unfold mulok
      rw [hA]
      exact Or.inr v
    have loop : ∀ (q s : Nat) (l5 : Int32) (h1 : XH) (y1 : Nat → Nat) (c1 : Nat) (ov1 : Nat → O), q + s = (pl (ov j)).length → l5.toInt = s → Fs 0 h y h1 y1 → St h1 y1 c1 k ov1 → c ≤ c1 → c1 ≤ c + s → (∀ i, i < c → ov1 i = ov i) → (∀ t e n, t < s → (pl (ov j))[t]? = some (e, n) → okm (addO ea e) ∧ ∃ js, js < c1 ∧ ov1 js = addO ea e ∧ (h1.2.1 17 t).toInt = js) → b_X2_multiplied_27 d 6 a b (xp h y a 0) (pw h y b) l5 h1 K E := by
      intro q
      induction q with
      | zero =>
        intro s l5 h1 y1 c1 ov1 hq h5 F S1 hc1 hc2 he hsum
        have hs1 := F.1
        refine w_X2_multiplied_27 (by omega) hs1 ⟨fun _ h2 e2 => ?_, fun v => absurd (i_le.mpr (by omega)) v⟩
        obtain ⟨D2, F2⟩ := Do.restart h1 11 c1 ov1
        rw [← e2] at D2 F2
        have hall : ∀ q ∈ pl (ov j), okm (addO ea q.1) := fun q hq2 => by
          obtain ⟨t, ht⟩ := List.getElem?_of_mem hq2
          exact (hsum t q.1 q.2 (by have := (List.getElem?_eq_some_iff.mp ht).1; omega) ht).1
        have hi1 := he i hi
        have hj1 := he j hj
        refine t_X2_mul_end (ov := ov1) (i := i) (j := j) (ja := ja) (c := c1) (by omega) hs1 S1 ha hb (by omega) (by omega) a3 (by omega) ((he ja (by omega)).trans a2) (by rw [hi1]; exact hA) (by rw [hj1]; exact pj) (by omega) (fun t e n ht => ?_) F hk hc1 (by omega) he ?_ ?_ (pl (ov j)).length 0 0 h2 [] (by rw [hj1]; omega) rfl (Nat.zero_le _) F2 D2 rfl
        · rw [hj1] at ht
          exact (hsum t e n (by have := (List.getElem?_eq_some_iff.mp ht).1; omega) ht).2
        · rw [hi1, hj1]
          exact fun v => kk (mki ⟨hall, v⟩)
        · rw [hi1, hj1]
          exact fun v => ke (fun m => v (mko (fun x => x.2) m))
      | succ q ih =>
        intro s l5 h1 y1 c1 ov1 hq h5 F S1 hc1 hc2 he hsum
        have hs1 := F.1
        have hj1 := he j hj
        obtain ⟨e, n, g⟩ := getc (A := pl (ov j)) (m := s) (by omega)
        have g1 : (pl (ov1 j))[s]? = some (e, n) := by rw [hj1]; exact g
        obtain ⟨je, e1, e2, e3⟩ := S1.exps hs1 hb h5 (by omega) g1
        have n5 : (l5 + 1).toInt = (s + 1 : Nat) := by rw [i_add (by rw [i_1]; omega) (by rw [i_1]; omega), h5, i_1]; rfl
        have oja1 := (he ja (by omega)).trans a2
        refine w_X2_multiplied_27 (by omega) hs1 ⟨fun v => absurd (i_le.mp v) (by omega), fun _ => ?_⟩
        refine t_X2_added (i := ja) (j := je) (by omega) hs1 S1 a3 e3 (by omega) (by omega) (by omega) (by omega) (fun ok r h2 y2 ov2 c2 r2 x1 x2 x3 x4 x5 x6 x7 x8 x9 => ⟨r, rfl, y2, x7.1, fun h6 e6 => ?_⟩) (fun nok h2 y2 x1 x2 => ?_)
        · rw [oja1, e2] at ok x3
          rw [pI_in h5 (by omega)] at e6
          have hs2 := x7.1
          have sz := sg_size hs2
          have hh := sg_hnd hs2
          have S6 : St h6 y2 c2 k ov2 := by
            rw [e6]
            exact x9.fr (sI_nq _ _ (by omega)) (sI_nq _ _ (by omega)) (sI_nq _ _ (by omega)) (sI_nq _ _ (by omega)) (sI_nq _ _ (by omega))
          have F6 : Fs 0 h y h6 y2 := by
            obtain ⟨f1, f2, f3, f4, f5⟩ := F.tr x7
            refine ⟨by rw [e6]; exact f1, fun r a b => ?_, f3, by rw [e6]; exact f4, by rw [e6]; exact f5⟩
            rw [e6, sI_nq _ _ (by omega)]
            exact f2 r a b
          refine ih (s + 1) (l5 + 1) h6 y2 c2 ov2 (by omega) n5 F6 S6 (by omega) (by omega) (fun i hi => (x4 i (by omega)).trans (he i hi)) (fun t e' n' ht hg' => ?_)
          by_cases v : t = s
          · rw [v, g] at hg'
            cases hg'
            refine ⟨ok, r2, x2, x3, ?_⟩
            rw [e6, v, sI_eq]
            exact x1
          · obtain ⟨o1, js, s1, s2, s3⟩ := hsum t e' n' (by omega) hg'
            refine ⟨o1, js, by omega, (x4 js s1).trans s2, ?_⟩
            rw [e6, sI_ne _ _ v, (x8 17 (by omega) (by omega)).1]
            exact s3
        · rw [oja1, e2] at nok
          exact ke (fun m => nok (mko (fun x => x.1 (e, n) (List.mem_of_getElem? g)) m)) h2 y2 (F.tr x1) (x2.cg (fun i hi => (he i (by omega)).symm))
    exact loop _ 0 0 h y c ov (Nat.add_zero _) rfl (Fs.rf hs) S (Nat.le_refl _) (by omega) (fun _ _ => rfl) (fun t e n ht => by omega)
  · have hj0 : ov j = .leaf := (S.ne hj).mpr (by have := i_ne.mp (Classical.not_not.mp w); omega)
    have em : mulO (ov i) (ov j) = .leaf := by rw [hj0]; rfl
    rw [em] at kk
    refine kk ?_ 0 h y ov c 0 rfl (by have := S.1.2.2; omega) S.s0 (fun _ _ => rfl) (Nat.le_refl _) (by omega) (Fs.rf hs) (fun _ _ _ => ⟨rfl, rfl⟩) S
    unfold mulok
    cases pl (ov i) with
    | nil => trivial
    | cons p l => exact Or.inl (by rw [hj0]; rfl)
end
