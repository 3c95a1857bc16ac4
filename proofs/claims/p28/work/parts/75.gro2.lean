/-! ===== layer 2: the class's growths ===== -/
theorem j_shr {b k : Int64} {n : Nat} {p : Int} (hk : (k.toBitVec.smod 64).toNat = n) (hp : ((2 ^ n : Nat) : Int) = p) : (b >>> k).toInt = b.toInt / p := by
  have e1 : (b >>> k).toBitVec = b.toBitVec.sshiftRight' (k.toBitVec.smod 64) := Int64.toBitVec_shiftRight b k
  have e2 : (b >>> k).toInt = (b >>> k).toBitVec.toInt := rfl
  have e3 : b.toInt = b.toBitVec.toInt := rfl
  rw [e2, e1, e3, BitVec.toInt_sshiftRight', hk, Int.shiftRight_eq_div_pow, ← hp]
theorem j_and1023 (x : Int64) : (x &&& 1023).toInt = x.toInt % 1024 := by
  have h1 : (x &&& 1023).toBitVec.toNat = x.toBitVec.toNat % 1024 := by
    show (x.toBitVec &&& 1023#64).toNat = _
    rw [BitVec.toNat_and]
    show x.toBitVec.toNat &&& (2 ^ 10 - 1) = _
    rw [Nat.and_two_pow_sub_one_eq_mod]
  have h2 : (x &&& 1023).toInt = (x &&& 1023).toBitVec.toInt := rfl
  have h3 : x.toInt = x.toBitVec.toInt := rfl
  rw [h2, h3, BitVec.toInt_eq_toNat_bmod, BitVec.toInt_eq_toNat_bmod, h1, Int.bmod_def, Int.bmod_def]
  have := x.toBitVec.isLt
  split <;> split <;> omega
theorem xpin_i {k : Int64} {w : Int32} {i : Nat} {e : GE} (hk : k.toInt = gck e) (he : gE e) (hw : w.toInt = i) (h1 : 1 ≤ i) (h4 : i ≤ 4) : (xpin k w).toInt = gex i e := by
  have hw2 : w = Int32.ofNat i := i_of hw (by omega)
  subst hw2
  obtain ⟨a, b, c, d⟩ := e
  obtain ⟨g1, g2, g3, g4⟩ := he
  dsimp only at g1 g2 g3 g4
  have ec : (512 : Int64).toInt = 512 := rfl
  have fin : ∀ (x : Int64) (z : Int), (x &&& 1023).toInt = z + 512 → -200 ≤ z ∧ z ≤ 200 → ((x &&& 1023) - 512).toInt32.toInt = z := by
    intro x z hx hz
    have h9 : ((x &&& 1023) - 512).toInt = z := by rw [j_sub (by rw [hx, ec]; omega) (by rw [hx, ec]; omega), hx, ec]; omega
    rw [j_to32 (by rw [h9]; omega), h9]
  unfold xpin
  unfold gck at hk
  dsimp only at hk
  match i, h1, h4 with
  | 1, _, _ =>
    show _ = a
    exact fin _ _ (by rw [j_and1023, j_shr (n := 30) (p := 1073741824) rfl rfl, hk]; omega) g1
  | 2, _, _ =>
    show _ = b
    exact fin _ _ (by rw [j_and1023, j_shr (n := 20) (p := 1048576) rfl rfl, hk]; omega) g2
  | 3, _, _ =>
    show _ = c
    exact fin _ _ (by rw [j_and1023, j_shr (n := 10) (p := 1024) rfl rfl, hk]; omega) g3
  | 4, _, _ =>
    show _ = d
    exact fin _ _ (by rw [j_and1023, j_shr (n := 0) (p := 1) rfl rfl, hk]; omega) g4
  | n + 5, _, h => exact absurd h (by omega)
theorem keyv_i {a b c d : Int32} (ha : -200 ≤ a.toInt ∧ a.toInt ≤ 200) (hb : -200 ≤ b.toInt ∧ b.toInt ≤ 200) (hc : -200 ≤ c.toInt ∧ c.toInt ≤ 200) (hd : -200 ≤ d.toInt ∧ d.toInt ≤ 200) : (keyv a b c d).toInt = gck (a.toInt, b.toInt, c.toInt, d.toInt) := by
  have e0 : (550293209600 : Int64).toInt = 550293209600 := rfl
  have h1 : (a.toInt64 <<< ((30 : Int32).toInt64 &&& 63)).toInt = a.toInt * 1073741824 := by
    rw [j_shl (n := 30) (p := 1073741824) rfl rfl (by rw [i_2j]; omega) (by rw [i_2j]; omega), i_2j]
  have h2 : (b.toInt64 <<< ((20 : Int32).toInt64 &&& 63)).toInt = b.toInt * 1048576 := by
    rw [j_shl (n := 20) (p := 1048576) rfl rfl (by rw [i_2j]; omega) (by rw [i_2j]; omega), i_2j]
  have h3 : (c.toInt64 <<< ((10 : Int32).toInt64 &&& 63)).toInt = c.toInt * 1024 := by
    rw [j_shl (n := 10) (p := 1024) rfl rfl (by rw [i_2j]; omega) (by rw [i_2j]; omega), i_2j]
  unfold keyv gck
  dsimp only
  have k1 : (550293209600 + (a.toInt64 <<< ((30 : Int32).toInt64 &&& 63))).toInt = 550293209600 + a.toInt * 1073741824 := by
    rw [j_add (by rw [e0, h1]; omega) (by rw [e0, h1]; omega), e0, h1]
  have k2 : (550293209600 + (a.toInt64 <<< ((30 : Int32).toInt64 &&& 63)) + (b.toInt64 <<< ((20 : Int32).toInt64 &&& 63))).toInt = 550293209600 + a.toInt * 1073741824 + b.toInt * 1048576 := by
    rw [j_add (by rw [k1, h2]; omega) (by rw [k1, h2]; omega), k1, h2]
  have k3 : (550293209600 + (a.toInt64 <<< ((30 : Int32).toInt64 &&& 63)) + (b.toInt64 <<< ((20 : Int32).toInt64 &&& 63)) + (c.toInt64 <<< ((10 : Int32).toInt64 &&& 63))).toInt = 550293209600 + a.toInt * 1073741824 + b.toInt * 1048576 + c.toInt * 1024 := by
    rw [j_add (by rw [k2, h3]; omega) (by rw [k2, h3]; omega), k2, h3]
  rw [j_add (by rw [k3, i_2j]; omega) (by rw [k3, i_2j]; omega), k3, i_2j]
  omega
theorem gdrop {A : GL} {m : Nat} {p : GE × Int} (h : A[m]? = some p) : A.drop m = p :: A.drop (m + 1) := by
  obtain ⟨hl, e⟩ := List.getElem?_eq_some_iff.mp h
  rw [← e]
  exact List.drop_eq_getElem_cons hl
theorem gget {A : GL} {m : Nat} (h : m < A.length) : ∃ e n, A[m]? = some (e, n) := ⟨A[m].1, A[m].2, by rw [List.getElem?_eq_getElem h]⟩
theorem gs_drop {A : GL} (m : Nat) (h : gs A) : gs (A.drop m) := by
  have := h
  rw [← List.take_append_drop m A] at this
  exact (gs_app.mp this).2.1
theorem gs_dropc {A : GL} {m : Nat} {p : GE × Int} (h : gs A) (g : A[m]? = some p) : (∀ q ∈ A.drop (m + 1), gck q.1 < gck p.1) ∧ p ∈ A := by
  have := gs_drop m h
  rw [gdrop g] at this
  exact ⟨this.1, List.mem_of_getElem? g⟩
/-- a part, if it doesn't vanish -/
def g1 (e : GE) (t : Int) : GL := if t = 0 then [] else [(e, t)]
theorem gco_g1 (e : GE) (t : Int) (f : GE) : gco (g1 e t) f = if e = f then t else 0 := by
  unfold g1
  by_cases h : t = 0
  · rw [if_pos h, h]
    show (0 : Int) = _
    split <;> rfl
  · rw [if_neg h]
    show (if e = f then t else 0) + 0 = _
    omega
theorem mem_g1 {e : GE} {t : Int} {p : GE × Int} (h : p ∈ g1 e t) : p = (e, t) ∧ ¬ t = 0 := by
  unfold g1 at h
  by_cases z : t = 0
  · rw [if_pos z] at h; exact absurd h List.not_mem_nil
  · rw [if_neg z] at h; exact ⟨List.mem_singleton.mp h, z⟩
theorem gs_g1 (e : GE) (t : Int) : gs (g1 e t) := by
  unfold g1
  split
  · trivial
  · exact ⟨fun q hq => absurd hq List.not_mem_nil, trivial⟩
theorem len_g1 (e : GE) (t : Int) : (g1 e t).length ≤ 1 := by
  unfold g1
  split
  · exact Nat.zero_le _
  · exact Nat.le_refl _
theorem Gc.fr {h h2 : XH} {q : Nat} {L : GL} (G : Gc h q L) (f1 : h2.2.1 q = h.2.1 q) (f2 : h2.2.2.1 (q + 1) = h.2.2.1 (q + 1)) (f3 : h2.2.2.1 (q + 2) = h.2.2.1 (q + 2)) : Gc h2 q L := by
  unfold Gc
  rw [f1, f2, f3]
  exact G
theorem Gc.z (h : XH) (q : Nat) : Gc (x_setI h q 2 0) q [] ∧ Fdr q h (x_setI h q 2 0) := by
  refine ⟨⟨by rw [sI_eq]; rfl, by decide, fun k e n hk => by cases hk⟩, rfl, rfl, fun r a _ _ => ⟨sI_nq h 0 a, rfl⟩⟩
section
variable {d : Nat} {h : XH} {y : Nat → Nat} {K : XK} {E : XE}
theorem t_X1_add {q n : Nat} {v k : Int64} {L : GL} {e : GE} {t : Int} (hd : 21 ≤ d) (hs : Sg h.1 y) (hG : Gq h.1 q n) (hn : n ≤ 400) (G : Gc h q L) (hl : L.length < n) (hv : v.toInt = t) (hk : k.toInt = gck e) (kk : ∀ h2, Gc h2 q (L ++ g1 e t) → Fdr q h h2 → K none h2) : Ca d m_X1_add [.ref q, .long v, .long k] h K E := by
  obtain ⟨d, rfl⟩ : ∃ e, d = e + 1 := ⟨d - 1, by omega⟩
  obtain ⟨G1, G2, G3⟩ := id G
  have e0 : (0 : Int64).toInt = 0 := rfl
  have en : (Int32.ofNat n).toInt = n := by
    rw [Int32.toInt_ofNat_of_lt (by omega)]
  refine w_X1_add (by omega) hs hG (by omega) ⟨fun z => ?_, fun z => ⟨fun w => ?_, fun w h1 e1 h2 e2 h3 e3 => ?_⟩⟩
  · have : t = 0 := by rw [← hv, z, e0]
    have e9 : L ++ g1 e t = L := by rw [g1, if_pos this, List.append_nil]
    exact kk h (by rw [e9]; exact G) (Fdr.rf _ _)
  · rw [i_le, en, G1] at w; omega
  · have tn : ¬ t = 0 := fun q9 => z (Int64.toInt_inj.mp (by rw [hv, q9, e0]))
    have eg : g1 e t = [(e, t)] := by rw [g1, if_neg tn]
    rw [pJ_in G1 (by omega)] at e1
    have c1 : h1.2.1 = h.2.1 := by rw [e1]; rfl
    rw [c1, pJ_in G1 (by omega)] at e2
    have c2 : h2.2.1 = h.2.1 := by rw [e2]; exact c1
    rw [c2] at e3
    have ci : ∀ r, r ≠ q → h3.2.1 r = h.2.1 r := fun r w => by rw [e3, sI_nq _ _ w, c2]
    have cj : ∀ r, r ≠ q + 1 → r ≠ q + 2 → h3.2.2.1 r = h.2.2.1 r := fun r a b => by rw [e3]; show h2.2.2.1 r = _; rw [e2, sJ_nq _ _ b, e1, sJ_nq _ _ a]
    have j1 : ∀ m, h3.2.2.1 (q + 1) m = if m = L.length then v else h.2.2.1 (q + 1) m := fun m => by
      rw [e3]
      show h2.2.2.1 (q + 1) m = _
      rw [e2, sJ_nq _ _ (by omega), e1]
      by_cases w : m = L.length
      · rw [if_pos w, w, sJ_eq]
      · rw [if_neg w, sJ_ne _ _ w]
    have j2 : ∀ m, h3.2.2.1 (q + 2) m = if m = L.length then k else h.2.2.1 (q + 2) m := fun m => by
      rw [e3]
      show h2.2.2.1 (q + 2) m = _
      rw [e2]
      by_cases w : m = L.length
      · rw [if_pos w, w, sJ_eq]
      · rw [if_neg w, sJ_ne _ _ w, e1, sJ_nq _ _ (by omega)]
    refine kk h3 ⟨?_, ?_, fun m f x hm => ?_⟩ ⟨?_, ?_, fun r a b g => ⟨ci r a, cj r b g⟩⟩
    · rw [e3, sI_eq, i_add (by rw [i_1]; omega) (by rw [i_1]; omega), G1, i_1, eg, List.length_append]; rfl
    · rw [eg, List.length_append]
      simp only [List.length_singleton]
      omega
    · rw [eg] at hm
      rw [j1, j2]
      by_cases w : m < L.length
      · rw [List.getElem?_append_left w] at hm
        rw [if_neg (by omega), if_neg (by omega)]
        exact G3 m f x hm
      · have hml := (List.getElem?_eq_some_iff.mp hm).1
        rw [List.length_append] at hml
        simp only [List.length_singleton] at hml
        have w2 : m = L.length := by omega
        rw [List.getElem?_append_right (by omega), w2, Nat.sub_self] at hm
        cases hm
        rw [if_pos w2, if_pos w2]
        exact ⟨hv, hk⟩
    · rw [e3]; show h2.1 = _; rw [e2]; show h1.1 = _; rw [e1]; rfl
    · rw [e3]; show h2.2.2.2 = _; rw [e2]; show h1.2.2.2 = _; rw [e1]; rfl
theorem t_X1_copy {q n o n_o : Nat} {L : GL} (hd : 23 ≤ d) (hs : Sg h.1 y) (hG : Gq h.1 q n) (hn : n ≤ 400) (hO : Gq h.1 o n_o) (hno : n_o ≤ 400) (ne : q + 2 < o ∨ o + 2 < q) (G : Gc h o L) (hl : L.length ≤ n) (hlo : L.length ≤ n_o) (nz : gNZ L) (kk : ∀ h2, Gc h2 q L → Fdr q h h2 → K none h2) : Ca d m_X1_copy [.ref q, .ref o] h K E := by
  obtain ⟨d, rfl⟩ : ∃ e, d = e + 1 := ⟨d - 1, by omega⟩
  have loop : ∀ (r s : Nat) (l2 : Int32) (h1 : XH), r + s = L.length → l2.toInt = s → Gc h1 q (L.take s) → Fdr q h h1 → b_X1_copy_6 d q o l2 h1 K E := by
    intro r
    induction r with
    | zero =>
      intro s l2 h1 hr h2 G1 F1
      have go : Gc h1 o L := G.fr (F1.2.2 o (by omega) (by omega) (by omega)).1 (F1.2.2 (o + 1) (by omega) (by omega) (by omega)).2 (F1.2.2 (o + 2) (by omega) (by omega) (by omega)).2
      have gc := go.1
      rw [List.take_of_length_le (by omega)] at G1
      exact w_X1_copy_6 (by omega) (F1.sg hs) (by rw [F1.1]; exact hG) (by omega) (by rw [F1.1]; exact hO) (by omega) ⟨fun _ => kk h1 G1 F1, fun z => absurd (i_le.mpr (by omega)) z⟩
    | succ r ih =>
      intro s l2 h1 hr h2 G1 F1
      have hs1 := F1.sg hs
      have go : Gc h1 o L := G.fr (F1.2.2 o (by omega) (by omega) (by omega)).1 (F1.2.2 (o + 1) (by omega) (by omega) (by omega)).2 (F1.2.2 (o + 2) (by omega) (by omega) (by omega)).2
      have gc := go.1
      obtain ⟨e, t, g⟩ := gget (A := L) (m := s) (by omega)
      obtain ⟨v1, v2⟩ := go.2.2 s e t g
      have tn : ¬ t = 0 := nz _ (List.mem_of_getElem? g)
      refine w_X1_copy_6 (by omega) hs1 (by rw [F1.1]; exact hG) (by omega) (by rw [F1.1]; exact hO) (by omega) ⟨fun z => absurd (i_le.mp z) (by omega), fun _ => ?_⟩
      refine t_X1_add (e := e) (t := t) (by omega) hs1 (by rw [F1.1]; exact hG) hn G1 (by rw [List.length_take]; omega) (by rw [gJ_in h2 (by omega)]; exact v1) (by rw [gJ_in h2 (by omega)]; exact v2) (fun h3 G3 F3 => ⟨rfl, F3.sg hs1, by rw [F3.1, F1.1]; exact hG, by rw [F3.1, F1.1]; exact hO, ih (s + 1) (l2 + 1) h3 (by omega) ?_ ?_ (F1.tr F3)⟩)
      · rw [i_add (by rw [i_1]; omega) (by rw [i_1]; omega), h2, i_1]; rfl
      · rw [g1, if_neg tn] at G3
        rw [List.take_add_one, g]
        exact G3
  refine w_X1_copy (by omega) hs hG (by omega) hO (by omega) (fun h1 e1 => ?_)
  obtain ⟨Z1, Z2⟩ := Gc.z h q
  rw [← e1] at Z1 Z2
  exact loop L.length 0 0 h1 (Nat.add_zero _) rfl Z1 Z2
theorem t_X1_exponentsFit {k : Int64} {e : GE} (hd : 21 ≤ d) (hs : Sg h.1 y) (hk : k.toInt = gck e) (he : gE e) (k1 : e99 e → K (some (.int 1)) h) (k0 : ¬ e99 e → K (some (.int 0)) h) : Ca d m_X1_exponentsFit [.long k] h K E := by
  obtain ⟨d, rfl⟩ : ∃ e, d = e + 1 := ⟨d - 1, by omega⟩
  have e4 : (4 : Int32).toInt = 4 := rfl
  have e9 : (99 : Int32).toInt = 99 := rfl
  have e8 : (-99 : Int32).toInt = -99 := rfl
  have h99 : e99 e ↔ ∀ i, 1 ≤ i → i ≤ 4 → -99 ≤ gex i e ∧ gex i e ≤ 99 := by
    constructor
    · rintro ⟨a1, a2, a3, a4⟩ i h1 h4
      match i, h1, h4 with
      | 1, _, _ => exact a1
      | 2, _, _ => exact a2
      | 3, _, _ => exact a3
      | 4, _, _ => exact a4
      | n + 5, _, h => exact absurd h (by omega)
    · intro q
      exact ⟨q 1 (by omega) (by omega), q 2 (by omega) (by omega), q 3 (by omega) (by omega), q 4 (by omega) (by omega)⟩
  have loop : ∀ (r s : Nat) (l2 l3 : Int32) (u4 : Option Value), r + s = 5 → 1 ≤ s → l3.toInt = s → (l2 = 1 ∧ (∀ i, 1 ≤ i → i < s → -99 ≤ gex i e ∧ gex i e ≤ 99) ∨ l2 = 0 ∧ ¬ e99 e) → b_X1_exponentsFit_4 d k l2 l3 u4 h K E := by
    intro r
    induction r with
    | zero =>
      intro s l2 l3 u4 hr h1 h3 J
      refine w_X1_exponentsFit_4 (by omega) hs ⟨fun _ => ?_, fun z => absurd (i_lt.mpr (by rw [e4]; omega)) z⟩
      rcases J with ⟨j1, j2⟩ | ⟨j1, j2⟩
      · exact ⟨Or.inr j1, by rw [j1]; exact k1 (h99.mpr (fun i a b => j2 i a (by omega)))⟩
      · exact ⟨Or.inl j1, by rw [j1]; exact k0 j2⟩
    | succ r ih =>
      intro s l2 l3 u4 hr h1 h3 J
      have nx : (l3 + 1).toInt = (s + 1 : Nat) := by rw [i_add (by rw [i_1]; omega) (by rw [i_1]; omega), h3, i_1]; rfl
      have xv := xpin_i hk he h3 h1 (by omega)
      have no : ¬ e99 e → ∀ u2 u4, b_X1_exponentsFit_38 d k u2 l3 u4 h K E := fun w u2 u4 => w_X1_exponentsFit_38 (by omega) hs (w_X1_exponentsFit_39 (by omega) hs (ih (s + 1) 0 _ _ (by omega) (by omega) nx (Or.inr ⟨rfl, w⟩)))
      refine w_X1_exponentsFit_4 (by omega) hs ⟨fun z => absurd (i_lt.mp z) (by rw [e4]; omega), fun _ => ⟨fun z => no ?_ _ _, fun z => ⟨fun w => no (fun v => ?_) _ _, fun w => ⟨fun w2 => no (fun v => ?_) _ _, fun w2 => w_X1_exponentsFit_39 (by omega) hs (ih (s + 1) 1 _ _ (by omega) (by omega) nx ?_)⟩⟩⟩⟩
      · rcases J with ⟨j1, _⟩ | ⟨_, j2⟩
        · rw [z] at j1; exact absurd j1.symm n1_0
        · exact j2
      · rw [i_lt, xv, e8] at w
        have := h99.mp v s h1 (by omega)
        omega
      · rw [i_lt, xv, e9] at w2
        have := h99.mp v s h1 (by omega)
        omega
      · rw [i_lt, xv, e8] at w
        rw [i_lt, xv, e9] at w2
        rcases J with ⟨j1, j2⟩ | ⟨j1, j2⟩
        · refine Or.inl ⟨rfl, fun i a b => ?_⟩
          by_cases q : i = s
          · rw [q]; omega
          · exact j2 i a (by omega)
        · exact absurd j1 z
  exact w_X1_exponentsFit (by omega) hs (loop 4 1 1 1 none (by omega) (by omega) rfl (Or.inl ⟨rfl, fun i a b => absurd b (by omega)⟩))
theorem t_X1_fits {q n : Nat} {L : GL} (hd : 23 ≤ d) (hs : Sg h.1 y) (hG : Gq h.1 q n) (hn : n ≤ 400) (G : Gc h q L) (hl : L.length ≤ n) (gd : gD L) (k1 : gfit L → K (some (.int 1)) h) (k0 : ¬ gfit L → K (some (.int 0)) h) : Ca d m_X1_fits [.ref q] h K E := by
  obtain ⟨d, rfl⟩ : ∃ e, d = e + 1 := ⟨d - 1, by omega⟩
  obtain ⟨G1, G2, G3⟩ := id G
  have e20 : (20 : Int32).toInt = 20 := rfl
  have eP : (100000000 : Int64).toInt = 100000000 := rfl
  have eN : (-100000000 : Int64).toInt = -100000000 := rfl
  have loop : ∀ (r s : Nat) (l1 l2 : Int32), r + s = L.length → l2.toInt = s → (l1 = 1 ∧ L.length ≤ 20 ∧ (∀ p ∈ L.take s, (-100000000 ≤ p.2 ∧ p.2 ≤ 100000000) ∧ e99 p.1) ∨ l1 = 0 ∧ ¬ gfit L) → b_X1_fits_17 d q l1 l2 h K E := by
    intro r
    induction r with
    | zero =>
      intro s l1 l2 hr h2 J
      refine w_X1_fits_17 (by omega) hs hG (by omega) ⟨fun _ => ?_, fun z => absurd (i_le.mpr (by omega)) z⟩
      rcases J with ⟨j1, j2, j3⟩ | ⟨j1, j2⟩
      · rw [List.take_of_length_le (by omega)] at j3
        exact ⟨Or.inr j1, by rw [j1]; exact k1 ⟨j2, j3⟩⟩
      · exact ⟨Or.inl j1, by rw [j1]; exact k0 j2⟩
    | succ r ih =>
      intro s l1 l2 hr h2 J
      have nx : (l2 + 1).toInt = (s + 1 : Nat) := by rw [i_add (by rw [i_1]; omega) (by rw [i_1]; omega), h2, i_1]; rfl
      obtain ⟨e, t, g⟩ := gget (A := L) (m := s) (by omega)
      obtain ⟨v1, v2⟩ := G3 s e t g
      have hm := List.mem_of_getElem? g
      have jv : (g_J h (q + 1) n l2).toInt = t := by rw [gJ_in h2 (by omega)]; exact v1
      have kv : (g_J h (q + 2) n l2).toInt = gck e := by rw [gJ_in h2 (by omega)]; exact v2
      have no : ¬ gfit L → ∀ u1, b_X1_fits_68 d q u1 l2 h K E := fun w u1 => w_X1_fits_68 (by omega) hs hG (by omega) (w_X1_fits_69 (by omega) hs hG (by omega) (ih (s + 1) 0 _ (by omega) nx (Or.inr ⟨rfl, w⟩)))
      refine w_X1_fits_17 (by omega) hs hG (by omega) ⟨fun z => absurd (i_le.mp z) (by omega), fun _ => ⟨fun z => no ?_ _, fun z => ⟨fun w => no (fun v => ?_) _, fun w => ⟨fun w2 => no (fun v => ?_) _, fun w2 => t_X1_exponentsFit (by omega) hs kv (gd _ hm) (fun w3 => ⟨1, rfl, hs, hG, fun v => absurd v n1_0, fun _ => w_X1_fits_69 (by omega) hs hG (by omega) (ih (s + 1) 1 _ (by omega) nx ?_)⟩) (fun w3 => ⟨0, rfl, hs, hG, fun _ => no (fun v => w3 (v.2 _ hm).2) _, fun v => absurd rfl v⟩)⟩⟩⟩⟩
      · rcases J with ⟨j1, _⟩ | ⟨_, j2⟩
        · rw [z] at j1; exact absurd j1.symm n1_0
        · exact j2
      · rw [j_lt, jv, eN] at w
        have := (v.2 _ hm).1.1
        dsimp only at this
        omega
      · rw [j_lt, jv, eP] at w2
        have := (v.2 _ hm).1.2
        dsimp only at this
        omega
      · rw [j_lt, jv, eN] at w
        rw [j_lt, jv, eP] at w2
        rcases J with ⟨j1, j2, j3⟩ | ⟨j1, j2⟩
        · refine Or.inl ⟨rfl, j2, fun p hp => ?_⟩
          rw [List.take_add_one, g] at hp
          rcases List.mem_append.mp hp with q9 | q9
          · exact j3 p q9
          · have : p = (e, t) := by
              rcases List.mem_singleton.mp q9 with rfl
              rfl
            rw [this]
            exact ⟨⟨by show -100000000 ≤ t; omega, by show t ≤ 100000000; omega⟩, w3⟩
        · exact absurd j1 z
  refine w_X1_fits (by omega) hs hG (by omega) ⟨fun z => w_X1_fits_14 (by omega) hs hG (by omega) (loop L.length 0 0 0 (Nat.add_zero _) rfl (Or.inr ⟨rfl, fun v => ?_⟩)), fun z => w_X1_fits_14 (by omega) hs hG (by omega) (loop L.length 0 1 0 (Nat.add_zero _) rfl (Or.inl ⟨rfl, ?_, fun p hp => absurd hp List.not_mem_nil⟩))⟩
  · rw [i_lt, e20, G1] at z
    have := v.1
    omega
  · rw [i_lt, e20, G1] at z
    omega
theorem t_X1_limit {q n : Nat} {L : GL} (hd : 21 ≤ d) (hs : Sg h.1 y) (hG : Gq h.1 q n) (hn : n ≤ 400) (G : Gc h q L) (hl : L.length ≤ n) (kk : ∀ r : Int32, r.toInt = gtn L → K (some (.int r)) h) : Ca d m_X1_limit [.ref q] h K E := by
  obtain ⟨d, rfl⟩ : ∃ e, d = e + 1 := ⟨d - 1, by omega⟩
  obtain ⟨G1, G2, G3⟩ := id G
  have eC : (550293209600 : Int64).toInt = 550293209600 := rfl
  have e0 : (0 : Int64).toInt = 0 := rfl
  cases L with
  | nil =>
    refine w_X1_limit (by omega) hs hG (by omega) ⟨fun _ => kk 0 rfl, fun z => absurd (i_ne.mpr (by rw [G1]; rfl)) z⟩
  | cons p L =>
    obtain ⟨v1, v2⟩ := G3 0 p.1 p.2 rfl
    have hl0 : 0 < n := by
      have : (p :: L).length = L.length + 1 := rfl
      omega
    have jv : (g_J h (q + 1) n 0).toInt = p.2 := by rw [gJ_in (i := 0) rfl hl0]; exact v1
    have kv : (g_J h (q + 2) n 0).toInt = gck p.1 := by rw [gJ_in (i := 0) rfl hl0]; exact v2
    have lc : (p :: L).length = L.length + 1 := rfl
    refine w_X1_limit (by omega) hs hG (by omega) ⟨fun z => absurd (i_ne.mp z) (by rw [G1, lc]; omega), fun _ => ⟨fun w => ⟨fun w2 => ⟨fun w3 => kk 3 ?_, fun w3 => kk 2 ?_⟩, fun w2 => kk 1 ?_⟩, fun w => kk 0 ?_⟩⟩
    all_goals show _ = (if gck p.1 < 550293209600 then 0 else if gck p.1 = 550293209600 then 1 else if 0 < p.2 then 2 else 3 : Int)
    · rw [j_le, eC, kv] at w
      have w2' : ¬ gck p.1 = 550293209600 := fun q9 => w2 (Int64.toInt_inj.mp (by rw [kv, q9, eC]))
      rw [j_le, jv, e0] at w3
      rw [if_neg (by omega), if_neg w2', if_neg (by omega)]; rfl
    · rw [j_le, eC, kv] at w
      have w2' : ¬ gck p.1 = 550293209600 := fun q9 => w2 (Int64.toInt_inj.mp (by rw [kv, q9, eC]))
      rw [j_le, jv, e0] at w3
      rw [if_neg (by omega), if_neg w2', if_pos (by omega)]; rfl
    · rw [j_le, eC, kv] at w
      have w2' := congrArg Int64.toInt (Classical.not_not.mp w2)
      rw [kv, eC] at w2'
      rw [if_neg (by omega), if_pos w2']; rfl
    · rw [j_le, eC, kv] at w
      rw [if_pos (by omega)]; rfl
theorem t_X1_comparedWith {q n o n_o : Nat} {A B : GL} (hd : 21 ≤ d) (hs : Sg h.1 y) (hG : Gq h.1 q n) (hn : n ≤ 400) (hO : Gq h.1 o n_o) (hno : n_o ≤ 400) (GA : Gc h q A) (GB : Gc h o B) (hla : A.length ≤ n) (hlb : B.length ≤ n_o) (cA : gcan A) (cB : gcan B) (kk : ∀ r : Int32, r.toInt = gcp A B → K (some (.int r)) h) : Ca d m_X1_comparedWith [.ref q, .ref o] h K E := by
  obtain ⟨d, rfl⟩ : ∃ e, d = e + 1 := ⟨d - 1, by omega⟩
  obtain ⟨A1, A2, A3⟩ := id GA
  obtain ⟨B1, B2, B3⟩ := id GB
  have e0 : (0 : Int64).toInt = 0 := rfl
  have hm : (mxI (h.2.1 q 2) (h.2.1 o 2)).toInt = (max A.length B.length : Nat) := by rw [mxI_i, A1, B1]; omega
  have dz : ∀ {L : GL} {s : Nat}, L.length ≤ s → L.drop s = [] := fun {L s} z => List.drop_eq_nil_of_le z
  have loop : ∀ (r s : Nat) (l3 : Int32) (u4 u5 u6 u7 u8 u9 u10 u11 : Option Value), max A.length B.length ≤ r + s → l3.toInt = s → s ≤ max A.length B.length → gcp (A.drop s) (B.drop s) = gcp A B → b_X1_comparedWith_14 d q o (mxI (h.2.1 q 2) (h.2.1 o 2)) l3 u4 u5 u6 u7 u8 u9 u10 u11 h K E := by
    intro r
    induction r with
    | zero =>
      intro s l3 u4 u5 u6 u7 u8 u9 u10 u11 hr h3 hsm hc
      refine w_X1_comparedWith_14 (by omega) hs hG (by omega) hO (by omega) ⟨fun _ => kk 0 ?_, fun z => absurd (i_le.mpr (by omega)) z⟩
      rw [← hc, dz (by omega), dz (by omega)]; rfl
    | succ r ih =>
      intro s l3 u4 u5 u6 u7 u8 u9 u10 u11 hr h3 hsm hc
      refine w_X1_comparedWith_14 (by omega) hs hG (by omega) hO (by omega) ⟨fun z => kk 0 ?_, fun z => ?_⟩
      · rw [i_le] at z
        rw [← hc, dz (by omega), dz (by omega)]; rfl
      rw [i_le] at z
      have nx : (l3 + 1).toInt = (s + 1 : Nat) := by rw [i_add (by rw [i_1]; omega) (by rw [i_1]; omega), h3, i_1]; rfl
      -- the end of a turn
      have fin : ∀ (m1 m2 : Int64) (u4 u5 u6 u7 u10 u11 : Option Value), (m1 = m2 → gcp (A.drop (s + 1)) (B.drop (s + 1)) = gcp A B) → (¬ m1 = m2 → csg m1.toInt m2.toInt = gcp A B) → b_X1_comparedWith_93 d q o (mxI (h.2.1 q 2) (h.2.1 o 2)) l3 u4 u5 u6 u7 m1 u10 u11 m2 h K E := fun m1 m2 u4 u5 u6 u7 u10 u11 p1 p2 => w_X1_comparedWith_93 (by omega) hs hG (by omega) hO (by omega) ⟨fun w => ih (s + 1) _ _ _ _ _ _ _ _ _ (by omega) nx (by omega) (p1 w), fun w => kk _ (by rw [c_J_i]; exact p2 w)⟩
      by_cases ca : s < A.length
      · obtain ⟨e, t, g⟩ := gget (A := A) (m := s) ca
        obtain ⟨v1, v2⟩ := A3 s e t g
        have ge := cA.2.1 _ (List.mem_of_getElem? g)
        have gt := cA.2.2 _ (List.mem_of_getElem? g)
        have gb := gck_b ge
        dsimp only at ge gt gb
        have jA : (g_J h (q + 1) n l3).toInt = t := by rw [gJ_in h3 (by omega)]; exact v1
        have kA : (g_J h (q + 2) n l3).toInt = gck e := by rw [gJ_in h3 (by omega)]; exact v2
        refine ⟨fun w => absurd (i_le.mp w) (by omega), fun _ => ?_⟩
        by_cases cb : s < B.length
        · obtain ⟨f, u, g2⟩ := gget (A := B) (m := s) cb
          obtain ⟨v3, v4⟩ := B3 s f u g2
          have gf := cB.2.1 _ (List.mem_of_getElem? g2)
          have gu := cB.2.2 _ (List.mem_of_getElem? g2)
          dsimp only at gf gu
          have jB : (g_J h (o + 1) n_o l3).toInt = u := by rw [gJ_in h3 (by omega)]; exact v3
          have kB : (g_J h (o + 2) n_o l3).toInt = gck f := by rw [gJ_in h3 (by omega)]; exact v4
          rw [gdrop g, gdrop g2] at hc
          have hc2 : (if gck f < gck e then csg t 0 else if gck e < gck f then csg 0 u else if t = u then gcp (A.drop (s + 1)) (B.drop (s + 1)) else csg t u) = gcp A B := hc
          refine w_X1_comparedWith_36 (by omega) hs hG (by omega) hO (by omega) ⟨fun w => absurd (i_le.mp w) (by omega), fun _ => w_X1_comparedWith_55 (by omega) hs hG (by omega) hO (by omega) ⟨fun w => ?_, fun w => ?_⟩⟩
          · rw [j_lt, kA, kB] at w
            rw [if_neg (by omega), if_pos w] at hc2
            refine w_X1_comparedWith_74 (by omega) hs hG (by omega) hO (by omega) ⟨fun w2 => absurd w2 (by rw [j_lt, kA, kB]; omega), fun _ => fin _ _ _ _ _ _ _ _ (fun q9 => absurd (congrArg Int64.toInt q9) (by rw [jB, e0]; omega)) (fun _ => by rw [e0, jB]; exact hc2)⟩
          · rw [j_lt, kA, kB] at w
            refine w_X1_comparedWith_74 (by omega) hs hG (by omega) hO (by omega) ⟨fun w2 => ?_, fun w2 => ?_⟩
            · rw [j_lt, kA, kB] at w2
              rw [if_pos w2] at hc2
              exact fin _ _ _ _ _ _ _ _ (fun q9 => absurd (congrArg Int64.toInt q9) (by rw [jA, e0]; omega)) (fun _ => by rw [e0, jA]; exact hc2)
            · rw [j_lt, kA, kB] at w2
              rw [if_neg w2, if_neg w] at hc2
              refine fin _ _ _ _ _ _ _ _ (fun q9 => ?_) (fun q9 => ?_)
              · have := congrArg Int64.toInt q9
                rw [jA, jB] at this
                rw [if_pos this] at hc2
                exact hc2
              · have : ¬ t = u := fun q8 => q9 (Int64.toInt_inj.mp (by rw [jA, jB, q8]))
                rw [if_neg this] at hc2
                rw [jA, jB]
                exact hc2
        · rw [gdrop g, dz (L := B) (by omega)] at hc
          have hc2 : csg t 0 = gcp A B := hc
          refine w_X1_comparedWith_36 (by omega) hs hG (by omega) hO (by omega) ⟨fun _ => w_X1_comparedWith_55 (by omega) hs hG (by omega) hO (by omega) ⟨fun w => absurd w (by rw [j_lt, kA, e0]; omega), fun _ => w_X1_comparedWith_74 (by omega) hs hG (by omega) hO (by omega) ⟨fun _ => fin _ _ _ _ _ _ _ _ (fun q9 => absurd (congrArg Int64.toInt q9) (by rw [jA, e0]; omega)) (fun _ => by rw [e0, jA]; exact hc2), fun w => absurd (by rw [j_lt, kA, e0]; omega) w⟩⟩, fun w => absurd (i_le.mpr (by omega)) w⟩
      · have cb : s < B.length := by omega
        obtain ⟨f, u, g2⟩ := gget (A := B) (m := s) cb
        obtain ⟨v3, v4⟩ := B3 s f u g2
        have gf := cB.2.1 _ (List.mem_of_getElem? g2)
        have gu := cB.2.2 _ (List.mem_of_getElem? g2)
        have gb := gck_b gf
        dsimp only at gf gu gb
        have jB : (g_J h (o + 1) n_o l3).toInt = u := by rw [gJ_in h3 (by omega)]; exact v3
        have kB : (g_J h (o + 2) n_o l3).toInt = gck f := by rw [gJ_in h3 (by omega)]; exact v4
        rw [gdrop g2, dz (L := A) (by omega)] at hc
        have hc2 : csg 0 u = gcp A B := hc
        refine ⟨fun _ => w_X1_comparedWith_36 (by omega) hs hG (by omega) hO (by omega) ⟨fun w => absurd (i_le.mp w) (by omega), fun _ => w_X1_comparedWith_55 (by omega) hs hG (by omega) hO (by omega) ⟨fun _ => w_X1_comparedWith_74 (by omega) hs hG (by omega) hO (by omega) ⟨fun w => absurd w (by rw [j_lt, kB, e0]; omega), fun _ => fin _ _ _ _ _ _ _ _ (fun q9 => absurd (congrArg Int64.toInt q9) (by rw [jB, e0]; omega)) (fun _ => by rw [e0, jB]; exact hc2)⟩, fun w => absurd (by rw [j_lt, kB, e0]; omega) w⟩⟩, fun w => absurd (i_le.mpr (by omega)) w⟩
  exact w_X1_comparedWith (by omega) hs hG (by omega) hO (by omega) (loop (max A.length B.length) 0 0 _ _ _ _ _ _ _ _ (by omega) rfl (by omega) rfl)
end
