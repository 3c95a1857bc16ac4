/-! ===== layer 2: the model's readers ===== -/
section
variable {d : Nat} {h : XH} {y : Nat → Nat} {S : XS} {K : XK} {E : XE}
theorem m_powers {a : Int32} (hd : 50 ≤ d) (hs : Sg h.1 y) (I : MI h S) (kk : KM h 1 (f_powers a S) K) : Ca d m_X7_powers [.ref 77, .int a] h K E := by
  obtain ⟨d, rfl⟩ : ∃ e, d = e + 1 := ⟨d - 1, by omega⟩
  obtain ⟨m, om, I1, I2, I3⟩ := id I
  refine w_X7_powers (by omega) hs ⟨fun z => t_X7_isKind (by omega) hs (isp_p z).1 (isp_p z).2 (fun hk => ⟨1, rfl, hs, fun _ => ?_, fun v => absurd n1_0 v⟩) (fun hk => ⟨0, rfl, hs, fun v => absurd rfl v, fun _ => ?_⟩), fun z => ?_⟩
  · refine w_X7_powers_28 (by omega) hs (fun h1 e1 => ⟨fun _ => ⟨i_Ix (isp_p z).1 (isp_p z).2, ?_⟩, fun v => absurd rfl v⟩)
    obtain ⟨b1, b2, b3⟩ := I.st 0
    rw [← e1] at b1 b2 b3
    obtain ⟨i, i1, i2, i3⟩ := I2 _ (isp_p z).2 hk
    have hm := I1.1.2.2
    have c79 : h1.2.1 79 = h.2.1 79 := by rw [e1, sI_nq _ _ (by omega)]
    have c82 : h1.2.1 82 = h.2.1 82 := by rw [e1, sI_nq _ _ (by omega)]
    rw [i_ix (isp_p z).1, c79, c82]
    refine ⟨i_Ix i2 (by omega), ?_⟩
    rw [i_ix i2]
    refine kk.a (out2_0 z (by rw [← (I3 _ (isp_p z).2).1]; exact hk)) b1 b2 b3 ⟨_, rfl, fun _ => ?_⟩
    rw [I1.2.2.1 i i1, i3]
  · refine w_X7_powers_28 (by omega) hs (fun h1 e1 => ⟨fun v => absurd v (by decide), fun _ => ?_⟩)
    obtain ⟨b1, b2, b3⟩ := I.st 2
    rw [← e1] at b1 b2 b3
    exact kk.b (out2_2 z (fun v => hk (by rw [(I3 _ (isp_p z).2).1]; exact v))) (by decide) b1 b2 (by rw [b3]; rfl) ⟨_, rfl, fun w => w.elim⟩
  · refine w_X7_powers_28 (by omega) hs (fun h1 e1 => ⟨fun v => absurd v n1_0, fun _ => ?_⟩)
    obtain ⟨b1, b2, b3⟩ := I.st 1
    rw [← e1] at b1 b2 b3
    exact kk.b (out2_1 z) (by decide) b1 b2 (by rw [b3]; rfl) ⟨_, rfl, fun w => w.elim⟩
theorem m_times {a b : Int32} (hd : 50 ≤ d) (hs : Sg h.1 y) (I : MI h S) (kk : KM h 2 (f_times a b S) K) : Ca d m_X7_times [.ref 77, .int a, .int b] h K E := by
  obtain ⟨d, rfl⟩ : ∃ e, d = e + 1 := ⟨d - 1, by omega⟩
  obtain ⟨m, om, I1, I2, I3⟩ := id I
  have no1 : ¬ (isp a ∧ 0 ≤ b.toInt) → b_X7_times_15 d 77 a b none h K E := fun w => by
    refine w_X7_times_15 (by omega) hs (w_X7_times_16 (by omega) hs ⟨fun v => absurd rfl v, fun _ => w_X7_times_40 (by omega) hs (fun h1 e1 => ⟨fun v => absurd v n1_0, fun _ => ?_⟩)⟩)
    obtain ⟨b1, b2, b3⟩ := I.st 1
    rw [← e1] at b1 b2 b3
    exact kk.b (out2_1 w) (by decide) b1 b2 (by rw [b3]; rfl) ⟨_, rfl, fun w => w.elim⟩
  refine w_X7_times (by omega) hs ⟨fun z => ⟨fun w => no1 (fun v => ?_), fun w => ?_⟩, fun z => no1 (fun v => z v.1)⟩
  · rw [i_lt, i_0] at w; omega
  rw [i_lt, i_0] at w
  have z2 : 0 ≤ b.toInt := by omega
  refine w_X7_times_16 (by omega) hs ⟨fun _ => t_X7_hasPower (by omega) hs I1 I2 (isp_p z).1 (isp_p z).2 (fun hk hl => ⟨1, rfl, hs, fun _ => ?_, fun v => absurd n1_0 v⟩) (fun hk => ⟨0, rfl, hs, fun v => absurd rfl v, fun _ => ?_⟩), fun v => absurd n1_0 v⟩
  · refine w_X7_times_40 (by omega) hs (fun h1 e1 => ⟨fun _ => ⟨i_Ix (isp_p z).1 (isp_p z).2, ?_⟩, fun v => absurd rfl v⟩)
    obtain ⟨b1, b2, b3⟩ := I.st 0
    rw [← e1] at b1 b2 b3
    obtain ⟨i, i1, i2, i3⟩ := I2 _ (isp_p z).2 hk
    have hm := I1.1.2.2
    have hlen := I1.len i1
    rw [i3] at hlen
    obtain ⟨k, hk2⟩ : ∃ k : Nat, b.toInt = k := ⟨b.toInt.toNat, by omega⟩
    obtain ⟨f, n, g⟩ := getc (A := pl (S.2.1 (pN a))) (m := k) (by omega)
    have g2 := g
    rw [← i3] at g2
    obtain ⟨j, j1, j2, j3, j4⟩ := I1.pw i1 g2
    have c79 : h1.2.1 79 = h.2.1 79 := by rw [e1, sI_nq _ _ (by omega)]
    have c81 : h1.2.1 81 = h.2.1 81 := by rw [e1, sI_nq _ _ (by omega)]
    rw [i_ix (isp_p z).1, c79, c81]
    have e8 := e8k (h.2.1 79 (pN a)) b i2 (by omega) hk2 (by omega)
    refine ⟨i_Ix e8 (by omega), ?_⟩
    rw [i_ix e8]
    refine kk.a (out2_0 ⟨z, z2⟩ ⟨by rw [← (I3 _ (isp_p z).2).1]; exact hk, hl⟩) b1 b2 b3 ⟨_, rfl, fun _ => ?_⟩
    rw [i_2j, j4, show b.toInt.toNat = k by omega, g]
    rfl
  · refine w_X7_times_40 (by omega) hs (fun h1 e1 => ⟨fun v => absurd v (by decide), fun _ => ?_⟩)
    obtain ⟨b1, b2, b3⟩ := I.st 2
    rw [← e1] at b1 b2 b3
    exact kk.b (out2_2 ⟨z, z2⟩ (fun v => hk ⟨by rw [(I3 _ (isp_p z).2).1]; exact v.1, v.2⟩)) (by decide) b1 b2 (by rw [b3]; rfl) ⟨_, rfl, fun w => w.elim⟩
theorem m_parts {a : Int32} (hd : 50 ≤ d) (hs : Sg h.1 y) (I : MI h S) (kk : KM h 2 (f_parts a S) K) : Ca d m_X7_parts [.ref 77, .int a] h K E := by
  obtain ⟨d, rfl⟩ : ∃ e, d = e + 1 := ⟨d - 1, by omega⟩
  obtain ⟨m, om, I1, I2, I3⟩ := id I
  refine w_X7_parts (by omega) hs ⟨fun z => t_X7_isKind (by omega) hs (isp_p z).1 (isp_p z).2 (fun hk => ⟨1, rfl, hs, fun _ => ?_, fun v => absurd n1_0 v⟩) (fun hk => ⟨0, rfl, hs, fun v => absurd rfl v, fun _ => ?_⟩), fun z => ?_⟩
  · refine w_X7_parts_28 (by omega) hs (fun h1 e1 => ⟨fun _ => ⟨i_Ix (isp_p z).1 (isp_p z).2, ?_⟩, fun v => absurd rfl v⟩)
    obtain ⟨b1, b2, b3⟩ := I.st 0
    rw [← e1] at b1 b2 b3
    have hk2 := hk
    rw [(I3 _ (isp_p z).2).1] at hk2
    refine kk.a (out2_0 z hk2) b1 b2 b3 ⟨_, rfl, fun _ => ?_⟩
    rw [i_ix (isp_p z).1, i_2j, e1, sI_nq _ _ (by omega), (I3 _ (isp_p z).2).2.1 hk2]
  · refine w_X7_parts_28 (by omega) hs (fun h1 e1 => ⟨fun v => absurd v (by decide), fun _ => ?_⟩)
    obtain ⟨b1, b2, b3⟩ := I.st 2
    rw [← e1] at b1 b2 b3
    exact kk.b (out2_2 z (fun v => hk (by rw [(I3 _ (isp_p z).2).1]; exact v))) (by decide) b1 b2 (by rw [b3]; rfl) ⟨_, rfl, fun w => w.elim⟩
  · refine w_X7_parts_28 (by omega) hs (fun h1 e1 => ⟨fun v => absurd v n1_0, fun _ => ?_⟩)
    obtain ⟨b1, b2, b3⟩ := I.st 1
    rw [← e1] at b1 b2 b3
    exact kk.b (out2_1 z) (by decide) b1 b2 (by rw [b3]; rfl) ⟨_, rfl, fun w => w.elim⟩
theorem m_terms {a : Int32} (hd : 50 ≤ d) (hs : Sg h.1 y) (I : MI h S) (kk : KM h 1 (f_terms a S) K) : Ca d m_X7_terms [.ref 77, .int a] h K E := by
  obtain ⟨d, rfl⟩ : ∃ e, d = e + 1 := ⟨d - 1, by omega⟩
  obtain ⟨m, om, I1, I2, I3⟩ := id I
  refine w_X7_terms (by omega) hs ⟨fun z => t_X7_isKind (by omega) hs (isp_p z).1 (isp_p z).2 (fun hk => ⟨1, rfl, hs, fun _ => ?_, fun v => absurd n1_0 v⟩) (fun hk => ⟨0, rfl, hs, fun v => absurd rfl v, fun _ => ?_⟩), fun z => ?_⟩
  · refine w_X7_terms_28 (by omega) hs (fun h1 e1 => ⟨fun _ => ⟨i_Ix (isp_p z).1 (isp_p z).2, ?_⟩, fun v => absurd rfl v⟩)
    obtain ⟨b1, b2, b3⟩ := I.st 0
    rw [← e1] at b1 b2 b3
    have hk2 := hk
    rw [(I3 _ (isp_p z).2).1] at hk2
    refine kk.a (out2_0 z hk2) b1 b2 b3 ⟨_, rfl, fun _ => ?_⟩
    rw [i_ix (isp_p z).1, e1, sI_nq _ _ (by omega), ((I3 _ (isp_p z).2).2.2 hk2).1]
  · refine w_X7_terms_28 (by omega) hs (fun h1 e1 => ⟨fun v => absurd v (by decide), fun _ => ?_⟩)
    obtain ⟨b1, b2, b3⟩ := I.st 2
    rw [← e1] at b1 b2 b3
    exact kk.b (out2_2 z (fun v => hk (by rw [(I3 _ (isp_p z).2).1]; exact v))) (by decide) b1 b2 (by rw [b3]; rfl) ⟨_, rfl, fun w => w.elim⟩
  · refine w_X7_terms_28 (by omega) hs (fun h1 e1 => ⟨fun v => absurd v n1_0, fun _ => ?_⟩)
    obtain ⟨b1, b2, b3⟩ := I.st 1
    rw [← e1] at b1 b2 b3
    exact kk.b (out2_1 z) (by decide) b1 b2 (by rw [b3]; rfl) ⟨_, rfl, fun w => w.elim⟩
end
