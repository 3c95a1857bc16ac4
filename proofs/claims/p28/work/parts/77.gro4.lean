/-! ===== layer 2: the class's growths: rows added, kept ===== -/
theorem gnz_app (A B : GL) : gnz (A ++ B) = gnz A ++ gnz B := List.filter_append _ _
theorem gnz_1 (e : GE) (t : Int) : gnz [(e, t)] = g1 e t := by
  rw [gnz_c]
  unfold g1
  rfl
theorem len_gmap {k : GE → GE} {t : GE × Int → Int} {L : GL} : (gmap k t L).length = L.length := List.length_map _
theorem gmap_at {k : GE → GE} {t : GE × Int → Int} {L : GL} {s : Nat} {e : GE} {n : Int} (g : L[s]? = some (e, n)) : (gmap k t L)[s]? = some (k e, t (e, n)) := by
  unfold gmap
  rw [List.getElem?_map, g]
  rfl
theorem gB_gnz {b : Int} {L : GL} (h : gB b L) : gB b (gnz L) := fun p hp => h p (mem_gnz.mp hp).1
theorem gB_gmap {b : Int} {k : GE → GE} {t : GE × Int → Int} {L : GL} (h : ∀ q ∈ L, -b ≤ t q ∧ t q ≤ b) : gB b (gmap k t L) := fun p hp => by
  obtain ⟨r, hr, e⟩ := List.mem_map.mp hp
  rw [← e]
  exact h r hr
theorem gcan_map {k : GE → GE} {t : GE × Int → Int} {c : Int} {L : GL} (hk : ∀ e, gck (k e) = gck e + c) (hE : ∀ p ∈ L, gE (k p.1)) (h : gs L) : gcan (gnz (gmap k t L)) := ⟨gs_gnz (gs_gmap hk h), gD_gnz (gD_gmap hE), gNZ_gnz _⟩
theorem e_C : (550293209600 : Int64).toInt = 550293209600 := rfl
section
variable {d : Nat} {h : XH} {y : Nat → Nat} {K : XK} {E : XE}
theorem t_addRow {A B : GL} {b c : Int} (hd : 24 ≤ d) (hs : Sg h.1 y) (GA : Gc h (y 8) A) (GB : Gc h 26 B) (cA : gcan A) (cB : gcan B) (hl : A.length + B.length ≤ 400) (hlb : B.length ≤ 20) (bA : gB b A) (bB : gB c B) (h0b : 0 ≤ b) (h0c : 0 ≤ c) (hbc : b + c ≤ 4611686018427387904)
    (kk : ∀ h2 y2 L, Gc h2 (y2 8) L → gcan L → L.length ≤ A.length + B.length → gB (b + c) L → (∀ f, gco L f = gco A f + gco B f) → Ft h y h2 y2 → K none h2) : Ca d m_X4_addRow [.ref 19] h K E :=
  (t_X4_addRow hd hs GA GB cA cB hl hlb bA bB h0b h0c hbc kk).imp (fun v h2 z => by
    obtain ⟨rfl, _, _, z⟩ := z
    exact z)
theorem t_X4_restart (hd : 21 ≤ d) (hs : Sg h.1 y) (kk : ∀ h2, Gc h2 (y 8) [] → Ft h y h2 y → K none h2) : Ca d m_X4_restart [.ref 19] h K E := by
  obtain ⟨d, rfl⟩ : ∃ e, d = e + 1 := ⟨d - 1, by omega⟩
  obtain ⟨v8, v9, vn⟩ := y89 hs
  refine w_X4_restart (by omega) hs (fun h1 e1 => ?_)
  obtain ⟨Z1, Z2⟩ := Gc.z h (y 8)
  rw [← e1] at Z1 Z2
  exact kk h1 Z1 (Ft.fd hs Z2 (by omega))
theorem gcan_nil : gcan [] := ⟨trivial, fun p hp => absurd hp List.not_mem_nil, fun p hp => absurd hp List.not_mem_nil⟩
theorem gcan_g1 {e : GE} {t : Int} (he : gE e) : gcan (g1 e t) := ⟨gs_g1 e t, fun p hp => by rw [(mem_g1 hp).1]; exact he, fun p hp => by have := (mem_g1 hp).2; rw [(mem_g1 hp).1]; exact this⟩
theorem Gc.fd {h1 : XH} {q r : Nat} {L : GL} (G : Gc h q L) (F : Fdr r h h1) (hn : q + 2 < r ∨ r + 2 < q) : Gc h1 q L := G.fr (F.2.2 _ (by omega) (by omega) (by omega)).1 (F.2.2 _ (by omega) (by omega) (by omega)).2 (F.2.2 _ (by omega) (by omega) (by omega)).2
theorem Gc.ft {h2 : XH} {y2 : Nat → Nat} {p : Nat} {L : GL} (G : Gc h (29 + 3 * p) L) (F : Ft h y h2 y2) : Gc h2 (29 + 3 * p) L := G.fr (F.2.2.1 _ (by omega)).1 (F.2.2.1 _ (by omega)).2 (F.2.2.1 _ (by omega)).2
theorem t_X4_addPart {A : GL} {v k : Int64} {e : GE} {t b c : Int} (hd : 26 ≤ d) (hs : Sg h.1 y) (GA : Gc h (y 8) A) (cA : gcan A) (hl : A.length + 1 ≤ 400) (bA : gB b A) (he : gE e) (hv : v.toInt = t) (hk : k.toInt = gck e) (ht : -c ≤ t ∧ t ≤ c) (h0b : 0 ≤ b) (hbc : b + c ≤ 4611686018427387904)
    (kk : ∀ h2 y2 L, Gc h2 (y2 8) L → gcan L → L.length ≤ A.length + 1 → gB (b + c) L → (∀ f, gco L f = gco A f + (if e = f then t else 0)) → Ft h y h2 y2 → K none h2) : Ca d m_X4_addPart [.ref 19, .long v, .long k] h K E := by
  obtain ⟨d, rfl⟩ : ∃ e, d = e + 1 := ⟨d - 1, by omega⟩
  obtain ⟨v8, v9, vn⟩ := y89 hs
  have l1 := len_g1 e t
  refine w_X4_addPart (by omega) hs (fun h1 e1 => ?_)
  obtain ⟨Z1, Z2⟩ := Gc.z h 26
  rw [← e1] at Z1 Z2
  have hs1 := Z2.sg hs
  refine t_X1_add (e := e) (t := t) (L := []) (by omega) hs1 (sg_G26 hs1) (by omega) Z1 (by show 0 < 20; omega) hv hk (fun h2 G2 F2 => ⟨rfl, F2.sg hs1, ?_⟩)
  have hs2 := F2.sg hs1
  rw [List.nil_append] at G2
  have T2 := (Ft.fd hs Z2 (by omega)).tr (Ft.fd hs1 F2 (by omega))
  refine t_addRow (by omega) hs2 ((GA.fd Z2 (by omega)).fd F2 (by omega)) G2 cA (gcan_g1 he) (by omega) (by omega) bA (gB_g1 ht) h0b (by omega) hbc (fun h3 y3 L g1' g2 g3 g4 g5 g6 => ⟨rfl, y3, g6.1, kk h3 y3 L g1' g2 (by omega) g4 (fun f => by rw [g5, gco_g1]) (T2.tr g6)⟩)
theorem t_X4_addMultiple {p : Nat} {A B : GL} {v k : Int64} {vv cc b c : Int} {kf : GE → GE} (hd : 27 ≤ d) (hs : Sg h.1 y) (hp : p < 16) (GB : Gc h (29 + 3 * p) B) (oB : gok B) (hv : v.toInt = vv) (hk : k.toInt = cc + 550293209600) (hkf : ∀ e, gck (kf e) = gck e + cc) (hkE : ∀ q ∈ B, gE (kf q.1)) (ht : ∀ q ∈ B, -c ≤ q.2 * vv ∧ q.2 * vv ≤ c) (GA : Gc h (y 8) A) (cA : gcan A) (hl : A.length + B.length ≤ 400) (bA : gB b A) (h0b : 0 ≤ b) (h0c : 0 ≤ c) (hbc : b + c ≤ 4611686018427387904)
    (kk : ∀ h2 y2 L, Gc h2 (y2 8) L → gcan L → L.length ≤ A.length + B.length → gB (b + c) L → (∀ f, gco L f = gco A f + gco (gmap kf (fun q => q.2 * vv) B) f) → Ft h y h2 y2 → K none h2) : Ca d m_X4_addMultiple [.ref 19, .ref (29 + 3 * p), .long v, .long k] h K E := by
  obtain ⟨d, rfl⟩ : ∃ e, d = e + 1 := ⟨d - 1, by omega⟩
  obtain ⟨v8, v9, vn⟩ := y89 hs
  have lB := oB.2.2.1
  have loop : ∀ (r s : Nat) (l6 : Int32) (h1 : XH), r + s = B.length → l6.toInt = s → Fdr 26 h h1 → Gc h1 26 (gnz ((gmap kf (fun q => q.2 * vv) B).take s)) → b_X4_addMultiple_10 d 19 (29 + 3 * p) v k l6 h1 K E := by
    intro r
    induction r with
    | zero =>
      intro s l6 h1 hr h6 F1 G1
      have hs1 := F1.sg hs
      have gb := (GB.fd F1 (by omega)).1
      rw [List.take_of_length_le (by rw [len_gmap]; omega)] at G1
      refine w_X4_addMultiple_10 (n_o := 20) (by omega) hs1 (sg_Gr hs1 hp) (by omega) ⟨fun _ => ?_, fun z => absurd (i_le.mpr (by omega)) z⟩
      have l1 := len_gnz (gmap kf (fun q => q.2 * vv) B)
      rw [len_gmap] at l1
      refine t_addRow (by omega) hs1 (GA.fd F1 (by omega)) G1 cA (gcan_map hkf hkE oB.1) (by omega) (by omega) bA (gB_gnz (gB_gmap ht)) h0b h0c hbc (fun h3 y3 L g1' g2 g3 g4 g5 g6 => ⟨rfl, y3, g6.1, sg_Gr g6.1 hp, kk h3 y3 L g1' g2 (by omega) g4 (fun f => by rw [g5, gco_gnz]) ((Ft.fd hs F1 (by omega)).tr g6)⟩)
    | succ r ih =>
      intro s l6 h1 hr h6 F1 G1
      have hs1 := F1.sg hs
      have gb := GB.fd F1 (by omega)
      have gbc := gb.1
      have nx : (l6 + 1).toInt = (s + 1 : Nat) := by rw [i_add (by rw [i_1]; omega) (by rw [i_1]; omega), h6, i_1]; rfl
      obtain ⟨e, t, g⟩ := gget (A := B) (m := s) (by omega)
      have hm := List.mem_of_getElem? g
      obtain ⟨w1, w2⟩ := gb.2.2 s e t g
      have hb := oB.B _ hm
      have he := gck_b (oB.D _ hm)
      have he2 := gck_b (hkE _ hm)
      have ht2 := ht _ hm
      have hke := hkf e
      dsimp only at hb he he2 ht2
      have jt : (g_J h1 (29 + 3 * p + 1) 20 l6).toInt = t := by rw [gJ_in h6 (by omega)]; exact w1
      have jk : (g_J h1 (29 + 3 * p + 2) 20 l6).toInt = gck e := by rw [gJ_in h6 (by omega)]; exact w2
      have ln : (gnz ((gmap kf (fun q => q.2 * vv) B).take s)).length ≤ s := by
        have := len_gnz ((gmap kf (fun q => q.2 * vv) B).take s)
        rw [List.length_take] at this
        omega
      refine w_X4_addMultiple_10 (n_o := 20) (by omega) hs1 (sg_Gr hs1 hp) (by omega) ⟨fun z => absurd (i_le.mp z) (by omega), fun _ => t_X1_add (e := kf e) (t := t * vv) (by omega) hs1 (sg_G26 hs1) (by omega) G1 (by omega) ?_ ?_ (fun h3 G3 F3 => ⟨rfl, F3.sg hs1, sg_Gr (F3.sg hs1) hp, ih (s + 1) (l6 + 1) h3 (by omega) nx (F1.tr F3) ?_⟩)⟩
      · rw [j_mul (by rw [jt, hv]; omega) (by rw [jt, hv]; omega), jt, hv]
      · have e1 : (g_J h1 (29 + 3 * p + 2) 20 l6 + k).toInt = gck e + (cc + 550293209600) := by rw [j_add (by rw [jk, hk]; omega) (by rw [jk, hk]; omega), jk, hk]
        rw [j_sub (by rw [e1, e_C]; omega) (by rw [e1, e_C]; omega), e1, e_C]
        omega
      · rw [List.take_add_one, gmap_at g, gnz_app]
        rw [← gnz_1] at G3
        exact G3
  refine w_X4_addMultiple (n_o := 20) (by omega) hs (sg_Gr hs hp) (by omega) (fun h1 e1 => ?_)
  obtain ⟨Z1, Z2⟩ := Gc.z h 26
  rw [← e1] at Z1 Z2
  exact loop B.length 0 0 h1 (Nat.add_zero _) rfl Z2 Z1
theorem gck_edl (w : Nat) (e : GE) : gck (edl w e) = gck e + ((if 2 ≤ w then -1048576 else 0) + (if 3 ≤ w then -1024 else 0) + (if 4 ≤ w then -1 else 0)) := by
  unfold gck edl
  dsimp only
  split <;> split <;> split <;> omega
theorem t_X4_addSlopes {p i : Nat} {A B : GL} {w : Int32} {b : Int} (hd : 27 ≤ d) (hs : Sg h.1 y) (hp : p < 16) (GB : Gc h (29 + 3 * p) B) (oB : gok B) (hw : w.toInt = i) (h1i : 1 ≤ i) (h4i : i ≤ 4) (GA : Gc h (y 8) A) (cA : gcan A) (hl : A.length + B.length ≤ 400) (bA : gB b A) (h0b : 0 ≤ b) (hbc : b + 9900000000 ≤ 4611686018427387904)
    (kk : ∀ h2 y2 L, Gc h2 (y2 8) L → gcan L → L.length ≤ A.length + B.length → gB (b + 9900000000) L → (∀ f, gco L f = gco A f + gco (gsl i B) f) → Ft h y h2 y2 → K none h2) : Ca d m_X4_addSlopes [.ref 19, .ref (29 + 3 * p), .int w] h K E := by
  obtain ⟨d, rfl⟩ : ∃ e, d = e + 1 := ⟨d - 1, by omega⟩
  obtain ⟨v8, v9, vn⟩ := y89 hs
  have lB := oB.2.2.1
  have hex : ∀ q ∈ B, -99 ≤ gex i q.1 ∧ gex i q.1 ≤ 99 := fun q hq => by
    obtain ⟨a1, a2, a3, a4⟩ := (oB.2.2.2 q hq).2
    match i, h1i, h4i with
    | 1, _, _ => exact a1
    | 2, _, _ => exact a2
    | 3, _, _ => exact a3
    | 4, _, _ => exact a4
    | n + 5, _, h => exact absurd h (by omega)
  have ht : ∀ q ∈ B, -9900000000 ≤ q.2 * gex i q.1 ∧ q.2 * gex i q.1 ≤ 9900000000 := fun q hq => by
    have a1 := hex q hq
    have a2 := oB.B q hq
    have h1 : q.2.natAbs * (gex i q.1).natAbs ≤ 100000000 * 99 := Nat.mul_le_mul (by omega) (by omega)
    have h2 : (q.2 * gex i q.1).natAbs = q.2.natAbs * (gex i q.1).natAbs := Int.natAbs_mul _ _
    omega
  have hkE : ∀ q ∈ B, gE (edl i q.1) := fun q hq => edl_E (oB.2.2.2 q hq).2
  have loop : ∀ (key : Int64), key.toInt = ((if 2 ≤ i then -1048576 else 0) + (if 3 ≤ i then -1024 else 0) + (if 4 ≤ i then -1 else 0)) + 550293209600 → ∀ (r s : Nat) (l5 : Int32) (u6 u7 : Option Value) (h1 : XH), r + s = B.length → l5.toInt = s → Fdr 26 h h1 → Gc h1 26 (gnz ((gsl i B).take s)) → b_X4_addSlopes_45 d 19 (29 + 3 * p) w key l5 u6 u7 h1 K E := by
    intro key hkey r
    induction r with
    | zero =>
      intro s l5 u6 u7 h1 hr h6 F1 G1
      have hs1 := F1.sg hs
      have gb := (GB.fd F1 (by omega)).1
      have lg : (gsl i B).length = B.length := len_gmap
      rw [List.take_of_length_le (by omega)] at G1
      refine w_X4_addSlopes_45 (n_o := 20) (by omega) hs1 (sg_Gr hs1 hp) (by omega) ⟨fun _ => ?_, fun z => absurd (i_le.mpr (by omega)) z⟩
      have l1 := len_gnz (gsl i B)
      refine t_addRow (by omega) hs1 (GA.fd F1 (by omega)) G1 cA (gcan_map (gck_edl i) hkE oB.1) (by omega) (by omega) bA (gB_gnz (gB_gmap ht)) h0b (by omega) hbc (fun h3 y3 L g1' g2 g3 g4 g5 g6 => ⟨rfl, y3, g6.1, sg_Gr g6.1 hp, kk h3 y3 L g1' g2 (by omega) g4 (fun f => by rw [g5, gco_gnz]) ((Ft.fd hs F1 (by omega)).tr g6)⟩)
    | succ r ih =>
      intro s l5 u6 u7 h1 hr h6 F1 G1
      have hs1 := F1.sg hs
      have gb := GB.fd F1 (by omega)
      have gbc := gb.1
      have nx : (l5 + 1).toInt = (s + 1 : Nat) := by rw [i_add (by rw [i_1]; omega) (by rw [i_1]; omega), h6, i_1]; rfl
      obtain ⟨e, t, g⟩ := gget (A := B) (m := s) (by omega)
      have hm := List.mem_of_getElem? g
      obtain ⟨w1, w2⟩ := gb.2.2 s e t g
      have hb := oB.B _ hm
      have he := gck_b (oB.D _ hm)
      have he2 := gck_b (hkE _ hm)
      have ht2 := ht _ hm
      have hke := gck_edl i e
      dsimp only at hb he he2 ht2
      have jt : (g_J h1 (29 + 3 * p + 1) 20 l5).toInt = t := by rw [gJ_in h6 (by omega)]; exact w1
      have jk : (g_J h1 (29 + 3 * p + 2) 20 l5).toInt = gck e := by rw [gJ_in h6 (by omega)]; exact w2
      have jx : (xpin (g_J h1 (29 + 3 * p + 2) 20 l5) w).toInt64.toInt = gex i e := by rw [i_2j]; exact xpin_i jk (oB.D _ hm) hw h1i h4i
      have ln : (gnz ((gsl i B).take s)).length ≤ s := by
        have := len_gnz ((gsl i B).take s)
        rw [List.length_take] at this
        omega
      refine w_X4_addSlopes_45 (n_o := 20) (by omega) hs1 (sg_Gr hs1 hp) (by omega) ⟨fun z => absurd (i_le.mp z) (by omega), fun _ => t_X1_add (e := edl i e) (t := t * gex i e) (by omega) hs1 (sg_G26 hs1) (by omega) G1 (by omega) ?_ ?_ (fun h3 G3 F3 => ⟨rfl, F3.sg hs1, sg_Gr (F3.sg hs1) hp, ih (s + 1) (l5 + 1) _ _ h3 (by omega) nx (F1.tr F3) ?_⟩)⟩
      · rw [j_mul (by rw [jt, jx]; omega) (by rw [jt, jx]; omega), jt, jx]
      · have e1 : (g_J h1 (29 + 3 * p + 2) 20 l5 + key).toInt = gck (edl i e) + 550293209600 := by rw [j_add (by rw [jk, hkey]; omega) (by rw [jk, hkey]; omega), jk, hkey]; omega
        rw [j_sub (by rw [e1, e_C]; omega) (by rw [e1, e_C]; omega), e1, e_C]
        omega
      · have ga : (gsl i B)[s]? = some (edl i e, t * gex i e) := gmap_at g
        rw [List.take_add_one, ga, gnz_app]
        rw [← gnz_1] at G3
        exact G3
  have e2 : (2 : Int32).toInt = 2 := rfl
  have e3 : (3 : Int32).toInt = 3 := rfl
  have e4 : (4 : Int32).toInt = 4 := rfl
  have en : (-1 : Int32).toInt = -1 := rfl
  have go : ∀ (s0 s1 s2 s3 : Int32) (u3 u4 u5 u6 u7 : Option Value), s0.toInt = (if 4 ≤ i then -1 else 0 : Int) → s1.toInt = (if 3 ≤ i then -1 else 0 : Int) → s2.toInt = (if 2 ≤ i then -1 else 0 : Int) → s3.toInt = 0 → b_X4_addSlopes_31 d 19 (29 + 3 * p) w u3 u4 u5 u6 u7 s0 s1 s2 s3 h K E := by
    intro s0 s1 s2 s3 u3 u4 u5 u6 u7 q0 q1 q2 q3
    refine w_X4_addSlopes_31 (n_o := 20) (by omega) hs (sg_Gr hs hp) (by omega) (fun h1 e1 => ?_)
    obtain ⟨Z1, Z2⟩ := Gc.z h 26
    rw [← e1] at Z1 Z2
    have kv := keyv_i (a := s3) (b := s2) (c := s1) (d := s0) (by omega) (by rw [q2]; split <;> omega) (by rw [q1]; split <;> omega) (by rw [q0]; split <;> omega)
    refine loop _ ?_ B.length 0 0 _ _ h1 (Nat.add_zero _) rfl Z2 Z1
    rw [kv, q0, q1, q2, q3]
    unfold gck
    dsimp only
    split <;> split <;> split <;> omega
  have b21 : ∀ (s0 s1 s2 : Int32) (u3 u4 u5 u6 u7 : Option Value), s0.toInt = (if 3 ≤ i then -1 else 0 : Int) → s1.toInt = (if 2 ≤ i then -1 else 0 : Int) → s2.toInt = 0 → b_X4_addSlopes_21 d 19 (29 + 3 * p) w u3 u4 u5 u6 u7 s0 s1 s2 h K E := fun s0 s1 s2 u3 u4 u5 u6 u7 q1 q2 q3 => w_X4_addSlopes_21 (n_o := 20) (by omega) hs (sg_Gr hs hp) (by omega) ⟨fun z => go 0 s0 s1 s2 _ _ _ _ _ (by rw [i_lt, hw, e4] at z; rw [if_neg (by omega)]; rfl) q1 q2 q3, fun z => go (-1) s0 s1 s2 _ _ _ _ _ (by rw [i_lt, hw, e4] at z; rw [if_pos (by omega)]; rfl) q1 q2 q3⟩
  have b11 : ∀ (s0 s1 : Int32) (u3 u4 u5 u6 u7 : Option Value), s0.toInt = (if 2 ≤ i then -1 else 0 : Int) → s1.toInt = 0 → b_X4_addSlopes_11 d 19 (29 + 3 * p) w u3 u4 u5 u6 u7 s0 s1 h K E := fun s0 s1 u3 u4 u5 u6 u7 q2 q3 => w_X4_addSlopes_11 (n_o := 20) (by omega) hs (sg_Gr hs hp) (by omega) ⟨fun z => b21 0 s0 s1 _ _ _ _ _ (by rw [i_lt, hw, e3] at z; rw [if_neg (by omega)]; rfl) q2 q3, fun z => b21 (-1) s0 s1 _ _ _ _ _ (by rw [i_lt, hw, e3] at z; rw [if_pos (by omega)]; rfl) q2 q3⟩
  exact w_X4_addSlopes (n_o := 20) (by omega) hs (sg_Gr hs hp) (by omega) ⟨fun z => b11 0 0 _ _ _ _ _ (by rw [i_lt, hw, e2] at z; rw [if_neg (by omega)]; rfl) rfl, fun z => b11 (-1) 0 _ _ _ _ _ (by rw [i_lt, hw, e2] at z; rw [if_pos (by omega)]; rfl) rfl⟩
end
