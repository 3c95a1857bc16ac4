/-! ===== layer 2: contracts of the class's ordinals: write and made ===== -/
/-- one ordinal more -/
def up (ov : Nat → O) (c : Nat) (x : O) : Nat → O := fun i => if i = c then x else ov i
theorem up_lt {ov : Nat → O} {c i : Nat} {x : O} (h : i < c) : up ov c x i = ov i := if_neg (by omega)
theorem up_eq (ov : Nat → O) (c : Nat) (x : O) : up ov c x c = x := if_pos rfl
theorem sv_up {ov : Nat → O} {c : Nat} {x : O} : ∀ i, i ≤ c → sv (up ov c x) i = sv ov i := by
  intro i
  induction i with
  | zero => intro _; rfl
  | succ i ih =>
    intro h
    show sv (up ov c x) i + (pl (up ov c x i)).length = sv ov i + (pl (ov i)).length
    rw [ih (by omega), up_lt (by omega)]
theorem sv_8 {ov : Nat → O} {c : Nat} (h : ∀ i, i < c → (pl (ov i)).length ≤ 8) : ∀ i, i ≤ c → sv ov i ≤ 8 * i := by
  intro i
  induction i with
  | zero => intro _; exact Nat.le_refl _
  | succ i ih =>
    intro hi
    have := h i (by omega)
    have := ih (by omega)
    show sv ov i + (pl (ov i)).length ≤ _
    omega
theorem l_toI {x : Int64} {n : Nat} (h : x.toInt = n) (hn : n ≤ 1000000) : x.toInt32.toInt = n := by
  rw [Int64.toInt_toInt32, h]
  exact i_bm (by omega) (by omega)
theorem Do.keep {h h2 : XH} {q c : Nat} {ov : Nat → O} {L : List OP} (D : Do h q c ov L) (f : ∀ r, 11 ≤ r → r ≤ 17 → h2.2.1 r = h.2.1 r ∧ h2.2.2.1 r = h.2.2.1 r) (hq : q = 11 ∨ q = 14) : Do h2 q c ov L :=
  D.fr (f _ (by omega) (by omega)).1 (f _ (by omega) (by omega)).1 (f _ (by omega) (by omega)).2
section
variable {d : Nat} {h : XH} {y : Nat → Nat} {c k : Nat} {ov : Nat → O} {K : XK} {E : XE}
theorem St.gw {n : Nat} {h2 : XH} {y2 : Nat → Nat} (S : St h y c k ov) (hs : Sg h.1 y) (G : Gw n h y h2 y2) (hY : Yl y2) : St h2 y2 c k ov := by
  have hsz := sg_size hs
  have h6 : h2.2.1 6 = h.2.1 6 := (G.2.1 6 (by omega)).1
  have g0 := G.2.2.2.1 0 (by omega)
  have g1 := G.2.2.2.1 1 (by omega)
  have g2 := G.2.2.2.1 2 (by omega)
  have g3 := G.2.2.2.1 3 (by omega)
  have a0 : y 4 ≤ y2 4 := g0.1
  have a1 : y 5 ≤ y2 5 := g1.1
  have a2 : y 6 ≤ y2 6 := g2.1
  have a3 : y 7 ≤ y2 7 := g3.1
  obtain ⟨s1, s2, s3, s4, s5, s6, s7, s8⟩ := id S
  refine ⟨by rw [h6]; exact s1, s2, ⟨by omega, by omega, by omega, by omega, hY⟩, fun i hi => ?_, fun i hi => ?_, s6, s7, fun i hi m e n hm => ?_⟩
  · rw [g0.2 i (show i < y 4 by omega)]
    exact s4 i hi
  · rw [g1.2 i (show i < y 5 by omega)]
    exact s5 i hi
  · have hp := S.pix hi (List.getElem?_eq_some_iff.mp hm).1
    obtain ⟨j, j1, j2, j3, j4⟩ := s8 i hi m e n hm
    refine ⟨j, j1, j2, ?_, ?_⟩
    · rw [g3.2 _ (show sv ov i + m < y 7 by omega)]
      exact j3
    · rw [g2.2 _ (show sv ov i + m < y 6 by omega)]
      exact j4
theorem t_X2_write_loop {o : Nat} {L : List OP} {b l3 l4 : Int32} (hd : 20 ≤ d) (hs : Sg h.1 y) (S : St h y c k ov) (ho : Dq h.1 o) (ho6 : o = 11 ∨ o = 14) (D : Do h o c ov L) (hL : L ≠ []) (hg : gd (mk L)) (hc : c < 16384) (hb : b.toInt = dep (mk L)) (h3 : l3.toInt = sv ov c) (h4 : l4.toInt = (sv ov c + L.length : Nat)) (r0 : c + 2 ≤ y 4) (r1 : c + 1 ≤ y 5) (r2 : sv ov c + L.length ≤ y 6) (r3 : sv ov c + L.length ≤ y 7)
    (kk : ∀ h2, Sg h2.1 y → h2.1 = h.1 → h2.2.2.2 = h.2.2.2 → (∀ r, r ≤ 5 ∨ 11 ≤ r → r < 77 → h2.2.1 r = h.2.1 r ∧ h2.2.2.1 r = h.2.2.1 r) → St h2 y (c + 1) k (up ov c (mk L)) → K none h2) : b_X2_write_83 d 6 o b l3 l4 0 h K E := by
  have hlen : L.length ≤ 8 := by have := hg.2.1; rw [pl_mk] at this; exact this
  have htm : ∀ p ∈ L, p.2 ≤ 1000000 := by have := hg.2.2.1; rw [pl_mk] at this; exact this
  have hln := sg_len hs
  have hh := sg_hnd hs
  obtain ⟨x1, x2, x3, x4, x5, x6⟩ := sg_dis hs
  have hoo : o ≤ 14 ∧ 11 ≤ o := by omega
  have loop : ∀ (q m : Nat) (l5 : Int32) (h1 : XH), q + m = L.length → l5.toInt = m → h1.1 = h.1 → h1.2.2.2 = h.2.2.2 → h1.2.2.1 = h.2.2.1 → (∀ r, r ≠ y 2 → r ≠ y 3 → h1.2.1 r = h.2.1 r) → (∀ i, i < sv ov c → h1.2.1 (y 2) i = h.2.1 (y 2) i ∧ h1.2.1 (y 3) i = h.2.1 (y 3) i) → (∀ t e n, t < m → L[t]? = some (e, n) → ∃ j, j < c ∧ ov j = e ∧ (h1.2.1 (y 3) (sv ov c + t)).toInt = j ∧ (h1.2.1 (y 2) (sv ov c + t)).toInt = n) → b_X2_write_83 d 6 o b l3 l4 l5 h1 K E := by
    intro q
    induction q with
    | zero =>
      intro m l5 h1 hq h5 e1 e2 e3 f1 f2 f3
      have hs1 : Sg h1.1 y := by rw [e1]; exact hs
      have ho1 : Dq h1.1 o := by rw [e1]; exact ho
      have i6 : h1.2.1 6 = h.2.1 6 := f1 6 (by omega) (by omega)
      have hcnt : (h1.2.1 6 4).toInt = c := by rw [i6]; exact S.1.1
      have hcnt1 : (h1.2.1 6 4 + 1).toInt = (c + 1 : Nat) := by rw [i_add (by rw [i_1]; omega) (by rw [i_1]; omega), hcnt, i_1]; rfl
      refine w_X2_write_83 (by omega) hs1 ho1 ⟨fun _ h2 e4 h6 e5 h7 e6 => ?_, fun z => absurd (i_le.mpr (by rw [f1 o (by omega) (by omega), D.1]; omega)) z⟩
      rw [pI_in hcnt (by omega)] at e4
      have j6 : h2.2.1 6 = h1.2.1 6 := by rw [e4]; exact sI_nq _ _ (by omega)
      rw [j6, pI_in hcnt1 (by omega)] at e5
      have k6 : h6.2.1 6 = h1.2.1 6 := by rw [e5, sI_nq _ _ (by omega : 6 ≠ y 0)]; exact j6
      rw [k6] at e6
      have sh : h7.1 = h.1 := by rw [e6]; show h6.1 = _; rw [e5]; show h2.1 = _; rw [e4]; exact e1
      have Iall : ∀ r, r ≠ 6 → r ≠ y 0 → r ≠ y 1 → h7.2.1 r = h1.2.1 r := fun r a0 a1 a2 => by
        rw [e6, sI_nq _ _ a0, e5, sI_nq _ _ a1, e4, sI_nq _ _ a2]
      have Jall : h7.2.2.1 = h.2.2.1 := by rw [e6]; show h6.2.2.1 = _; rw [e5]; show h2.2.2.1 = _; rw [e4]; exact e3
      have I0 : ∀ i, h7.2.1 (y 0) i = if i = c + 1 then l4 else h.2.1 (y 0) i := fun i => by
        rw [e6, sI_nq _ _ (by omega : y 0 ≠ 6), e5]
        by_cases z : i = c + 1
        · rw [z, sI_eq, if_pos rfl]
        · rw [sI_ne _ _ z, if_neg z, e4, sI_nq _ _ x1, f1 _ x2 x3]
      have I1 : ∀ i, h7.2.1 (y 1) i = if i = c then b else h.2.1 (y 1) i := fun i => by
        rw [e6, sI_nq _ _ (by omega : y 1 ≠ 6), e5, sI_nq _ _ (Ne.symm x1), e4]
        by_cases z : i = c
        · rw [z, sI_eq, if_pos rfl]
        · rw [sI_ne _ _ z, if_neg z, f1 _ x4 x5]
      have I2 := Iall (y 2) (by omega) (Ne.symm x2) (Ne.symm x4)
      have I3 := Iall (y 3) (by omega) (Ne.symm x3) (Ne.symm x5)
      obtain ⟨s1, s2, s3, s4, s5, s6, s7, s8⟩ := id S
      refine kk h7 (by rw [sh]; exact hs) sh ?_ (fun r a b => ⟨?_, by rw [Jall]⟩) ⟨⟨?_, ?_, s1.2.2.1, by omega, by omega⟩, ?_, ⟨by omega, by omega, ?_, ?_, s3.2.2.2.2⟩, fun i hi => ?_, fun i hi => ?_, fun i hi => ?_, fun i h0 hi => ?_, fun i hi t e n ht => ?_⟩
      · rw [e6]; show h6.2.2.2 = _; rw [e5]; show h2.2.2.2 = _; rw [e4]; exact e2
      · rw [Iall r (by omega) (by omega) (by omega), f1 r (by omega) (by omega)]
      · rw [e6, sI_eq]; exact hcnt1
      · rw [e6, sI_ne _ _ (by omega : 5 ≠ 4), k6, i6]; exact s1.2.1
      · rw [up_lt (by omega)]; exact s2
      · show sv (up ov c (mk L)) c + (pl (up ov c (mk L) c)).length ≤ y 6
        rw [sv_up _ (Nat.le_refl _), up_eq, pl_mk]; exact r2
      · show sv (up ov c (mk L)) c + (pl (up ov c (mk L) c)).length ≤ y 7
        rw [sv_up _ (Nat.le_refl _), up_eq, pl_mk]; exact r3
      · rw [I0]
        by_cases z : i = c + 1
        · rw [if_pos z, z, h4]
          show _ = ((sv (up ov c (mk L)) c + (pl (up ov c (mk L) c)).length : Nat) : Int)
          rw [sv_up _ (Nat.le_refl _), up_eq, pl_mk]
        · rw [if_neg z, sv_up _ (by omega)]
          exact s4 i (by omega)
      · rw [I1]
        by_cases z : i = c
        · rw [if_pos z, z, hb, up_eq]
        · rw [if_neg z, up_lt (by omega)]
          exact s5 i (by omega)
      · by_cases z : i = c
        · rw [z, up_eq]; exact hg
        · rw [up_lt (by omega)]; exact s6 i (by omega)
      · by_cases z : i = c
        · rw [z, up_eq]
          intro w
          exact hL (mk_inj (show mk L = mk [] from w))
        · rw [up_lt (by omega)]; exact s7 i h0 (by omega)
      · rw [I2, I3, sv_up _ (by omega)]
        by_cases z : i = c
        · rw [z, up_eq, pl_mk] at ht
          obtain ⟨j, j1, j2, j3, j4⟩ := f3 t e n (by have := (List.getElem?_eq_some_iff.mp ht).1; omega) ht
          rw [z]
          exact ⟨j, j1, by rw [up_lt j1]; exact j2, j3, j4⟩
        · rw [up_lt (by omega)] at ht
          have hp := S.pix (show i < c by omega) (List.getElem?_eq_some_iff.mp ht).1
          obtain ⟨j, j1, j2, j3, j4⟩ := s8 i (by omega) t e n ht
          rw [(f2 _ hp).1, (f2 _ hp).2]
          exact ⟨j, j1, by rw [up_lt (by omega)]; exact j2, j3, j4⟩
    | succ q ih =>
      intro m l5 h1 hq h5 e1 e2 e3 f1 f2 f3
      have hs1 : Sg h1.1 y := by rw [e1]; exact hs
      have ho1 : Dq h1.1 o := by rw [e1]; exact ho
      obtain ⟨e, n, g⟩ := getc (A := L) (m := m) (by omega)
      obtain ⟨j, j1, j2, j3, j4⟩ := D.2.2 m e n g
      have hix : (l3 + l5).toInt = (sv ov c + m : Nat) := by rw [i_add (by omega) (by omega), h3, h5]; omega
      refine w_X2_write_83 (by omega) hs1 ho1 ⟨fun z => absurd (i_le.mp z) (by rw [f1 o (by omega) (by omega), D.1]; omega), fun _ h6 e6 h8 e8 => ?_⟩
      rw [pI_in hix (by omega), gJ_in h5 (by omega), e3] at e6
      rw [pI_in hix (by omega), g_in h5 (by omega)] at e8
      have v6 : h6.2.1 (o + 2) m = h.2.1 (o + 2) m := by rw [e6, sI_nq _ _ (by omega), f1 _ (by omega) (by omega)]
      rw [v6] at e8
      have I2 : ∀ i, h8.2.1 (y 2) i = if i = sv ov c + m then (h.2.2.1 (o + 1) m).toInt32 else h1.2.1 (y 2) i := fun i => by
        rw [e8, sI_nq _ _ x6, e6]
        by_cases z : i = sv ov c + m
        · rw [z, sI_eq, if_pos rfl]
        · rw [sI_ne _ _ z, if_neg z]
      have I3 : ∀ i, h8.2.1 (y 3) i = if i = sv ov c + m then h.2.1 (o + 2) m else h1.2.1 (y 3) i := fun i => by
        rw [e8]
        by_cases z : i = sv ov c + m
        · rw [z, sI_eq, if_pos rfl]
        · rw [sI_ne _ _ z, if_neg z, e6, sI_nq _ _ (Ne.symm x6)]
      refine ih (m + 1) (l5 + 1) h8 (by omega) ?_ ?_ ?_ ?_ (fun r a b => ?_) (fun i hi => ?_) (fun t e9 n9 ht hg9 => ?_)
      · rw [i_add (by rw [i_1]; omega) (by rw [i_1]; omega), h5, i_1]; rfl
      · rw [e8]; show h6.1 = _; rw [e6]; exact e1
      · rw [e8]; show h6.2.2.2 = _; rw [e6]; exact e2
      · rw [e8]; show h6.2.2.1 = _; rw [e6]; exact e3
      · rw [e8, sI_nq _ _ b, e6, sI_nq _ _ a]; exact f1 r a b
      · rw [I2, I3, if_neg (by omega), if_neg (by omega)]; exact f2 i hi
      · rw [I2, I3]
        by_cases z : t = m
        · rw [if_pos (by rw [z]), if_pos (by rw [z])]
          rw [z, g] at hg9
          cases hg9
          exact ⟨j, j1, j2, j3, l_toI j4 (htm _ (List.mem_of_getElem? g))⟩
        · rw [if_neg (by omega), if_neg (by omega)]
          exact f3 t e9 n9 (by omega) hg9
  exact loop _ 0 0 h (Nat.add_zero _) rfl rfl rfl rfl (fun _ _ _ => rfl) (fun _ _ => ⟨rfl, rfl⟩) (fun t _ _ ht => by omega)
theorem t_X2_write {o : Nat} {L : List OP} {b : Int32} (hd : 21 ≤ d) (hs : Sg h.1 y) (S : St h y c k ov) (ho : Dq h.1 o) (ho6 : o = 11 ∨ o = 14) (D : Do h o c ov L) (hL : L ≠ []) (hg : gd (mk L)) (hc : c < 16384) (hb : b.toInt = dep (mk L))
    (kk : ∀ h2 y2, Fs 0 h y h2 y2 → (∀ r, 11 ≤ r → r ≤ 17 → h2.2.1 r = h.2.1 r ∧ h2.2.2.1 r = h.2.2.1 r) → St h2 y2 (c + 1) k (up ov c (mk L)) → K none h2) : Ca d m_X2_write [.ref 6, .ref o, .int b] h K E := by
  obtain ⟨d, rfl⟩ : ∃ e, d = e + 1 := ⟨d - 1, by omega⟩
  have hlen : L.length ≤ 8 := by have := hg.2.1; rw [pl_mk] at this; exact this
  have hsv : sv ov c ≤ 8 * c := sv_8 (fun i hi => S.len hi) c (Nat.le_refl _)
  have hcnt := S.1.1
  have e2' : (2 : Int32).toInt = 2 := rfl
  have k0 : (h.2.1 6 4 + 2).toInt = (c + 2 : Nat) := by rw [i_add (by rw [e2']; omega) (by rw [e2']; omega), hcnt, e2']; rfl
  have st0 := S.start hs hcnt (Nat.le_refl c)
  have kend : (g_I h (y 0) (y 4) (h.2.1 6 4) + h.2.1 o 2).toInt = (sv ov c + L.length : Nat) := by
    rw [i_add (by rw [st0, D.1]; omega) (by rw [st0, D.1]; omega), st0, D.1]
    omega
  have hY := S.2.2.1.2.2.2.2
  unfold Yl at hY
  refine w_X2_write (by omega) hs ho ?_
  refine grow (b := 0) (by omega) hs ho ho6 (by omega) k0 (by omega) (fun h5 y6 G1 g1 q1 p1 => ?_)
  have a1 := q1 5 (by omega) (by omega)
  have a2 := q1 6 (by omega) (by omega)
  have a3 := q1 7 (by omega) (by omega)
  have g1' : c + 2 ≤ y6 4 := g1
  have p1' : y6 4 = y 4 ∨ y6 4 = 2 * (c + 2) := p1
  have S1 := S.gw hs G1 ⟨by omega, by omega, by omega, by omega⟩
  have ho1 : Dq h5.1 o := by rcases ho6 with z | z <;> subst z; exact sg_D11 G1.1; exact sg_D14 G1.1
  have k1 : (h5.2.1 6 4 + 1).toInt = (c + 1 : Nat) := by rw [i_add (by rw [i_1, S1.1.1]; omega) (by rw [i_1, S1.1.1]; omega), S1.1.1, i_1]; rfl
  refine grow (b := 1) (by omega) G1.1 ho1 ho6 (by omega) k1 (by omega) (fun h9 y10 G2 g2 q2 p2 => ?_)
  have b1 := q2 4 (by omega) (by omega)
  have b2 := q2 6 (by omega) (by omega)
  have b3 := q2 7 (by omega) (by omega)
  have g2' : c + 1 ≤ y10 5 := g2
  have p2' : y10 5 = y6 5 ∨ y10 5 = 2 * (c + 1) := p2
  have ho2 : Dq h9.1 o := by rcases ho6 with z | z <;> subst z; exact sg_D11 G2.1; exact sg_D14 G2.1
  refine grow (b := 2) (by omega) G2.1 ho2 ho6 (by omega) kend (by omega) (fun h13 y14 G3 g3 q3 p3 => ?_)
  have c1 := q3 4 (by omega) (by omega)
  have c2 := q3 5 (by omega) (by omega)
  have c3 := q3 7 (by omega) (by omega)
  have g3' : sv ov c + L.length ≤ y14 6 := g3
  have p3' : y14 6 = y10 6 ∨ y14 6 = 2 * (sv ov c + L.length) := p3
  have ho3 : Dq h13.1 o := by rcases ho6 with z | z <;> subst z; exact sg_D11 G3.1; exact sg_D14 G3.1
  refine grow (b := 3) (by omega) G3.1 ho3 ho6 (by omega) kend (by omega) (fun h17 y18 G4 g4 q4 p4 => ?_)
  have d1 := q4 4 (by omega) (by omega)
  have d2 := q4 5 (by omega) (by omega)
  have d3 := q4 6 (by omega) (by omega)
  have g4' : sv ov c + L.length ≤ y18 7 := g4
  have p4' : y18 7 = y14 7 ∨ y18 7 = 2 * (sv ov c + L.length) := p4
  have ho4 : Dq h17.1 o := by rcases ho6 with z | z <;> subst z; exact sg_D11 G4.1; exact sg_D14 G4.1
  have G : Gw 0 h y h17 y18 := ((G1.tr G2).tr G3).tr G4
  have S4 := S.gw hs G ⟨by omega, by omega, by omega, by omega⟩
  have hsz := sg_size hs
  have D4 : Do h17 o c ov L := D.keep (fun r a b => G.2.1 r (by omega)) ho6
  exact t_X2_write_loop (by omega) G4.1 S4 ho4 ho6 D4 hL hg hc hb st0 kend (by omega) (by omega) (by omega) (by omega) (fun h2 s2 e1 e2 f1 S2 => kk h2 y18 (by
    obtain ⟨f2, f3, f4, f5, f6⟩ := Fs.gw hs G
    refine ⟨s2, fun r a b => ?_, f4, by rw [e1]; exact f5, by rw [e2]; exact f6⟩
    rw [(f1 r (by omega) b).1, (f1 r (by omega) b).2]
    exact f3 r a b) (fun r a b => by
    rw [(f1 r (by omega) (by omega)).1, (f1 r (by omega) (by omega)).2]
    exact G.2.1 r (by omega)) S2)
theorem nw_I {t : XT} {z r : Nat} (hr : r < h.1.length) : (x_new h t z).2.1 r = h.2.1 r := by
  show (if r = h.1.length then _ else h.2.1 r) = _
  rw [if_neg (by omega)]
theorem nw_J {t : XT} {z r : Nat} (hr : r < h.1.length) : (x_new h t z).2.2.1 r = h.2.2.1 r := by
  show (if r = h.1.length then _ else h.2.2.1 r) = _
  rw [if_neg (by omega)]
theorem sg_nw {T : List XT} {t : XT} (hs : Sg T y) : Sg (T ++ [t]) y := by
  have hap : ∀ {r : Nat} {t2 : XT}, T[r]? = some t2 → (T ++ [t])[r]? = some t2 := fun {r t2} z => by
    rw [List.getElem?_append_left (List.getElem?_eq_some_iff.mp z).1]
    exact z
  obtain ⟨s1, s2, s3, s4, s5⟩ := hs
  exact ⟨fun k t hk => hap (s1 k t hk), hap s2, ⟨hap s3.1, hap s3.2.1, hap s3.2.2.1, hap s3.2.2.2⟩, hap s4, s5⟩
theorem St.forget (S : St h y c k ov) (hs : Sg h.1 y) : St (x_setI h 6 4 (h.2.1 6 5)) y k k ov := by
  have hh := sg_hnd hs
  obtain ⟨s1, s2, s3, s4, s5, s6, s7, s8⟩ := id S
  have hk := s1.2.2.2.1
  have hm := sv_mono ov hk
  refine ⟨⟨by rw [sI_eq]; exact s1.2.1, by rw [sI_ne _ _ (by omega : 5 ≠ 4)]; exact s1.2.1, s1.2.2.1, Nat.le_refl _, by omega⟩, s2, ⟨by omega, by omega, by omega, by omega, s3.2.2.2.2⟩, fun i hi => ?_, fun i hi => ?_, fun i hi => s6 i (by omega), fun i a b => s7 i a (by omega), fun i hi => ?_⟩
  · rw [sI_nq _ _ (by omega)]; exact s4 i (by omega)
  · rw [sI_nq _ _ (by omega)]; exact s5 i (by omega)
  · rw [sI_nq _ _ (by omega), sI_nq _ _ (by omega)]; exact s8 i (by omega)
theorem St.nw {t : XT} {z : Nat} (S : St h y c k ov) (hs : Sg h.1 y) : St (x_new h t z) y c k ov := by
  have := sg_size hs
  exact S.fr (nw_I (by omega)) (nw_I (sg_yr hs (b := 0) (by omega))) (nw_I (sg_yr hs (b := 1) (by omega))) (nw_I (sg_yr hs (b := 2) (by omega))) (nw_I (sg_yr hs (b := 3) (by omega)))
/-- what is made of a draft: it is laid, or the store is as it was kept -/
theorem t_X2_made {o : Nat} {L : List OP} (hd : 22 ≤ d) (hs : Sg h.1 y) (S : St h y c k ov) (ho6 : o = 11 ∨ o = 14) (D : Do h o c ov L) (hn : nf (mk L)) (hc : c < 16384)
    (kk : ∀ (r : Int32) (h2 : XH) (y2 : Nat → Nat) (ov2 : Nat → O) (c2 r2 : Nat), okm (mk L) → r.toInt = r2 → r2 < c2 → ov2 r2 = mk L → (∀ i, i < c → ov2 i = ov i) → c ≤ c2 → c2 ≤ c + 1 → Fs 0 h y h2 y2 → (∀ r, 11 ≤ r → r ≤ 17 → h2.2.1 r = h.2.1 r ∧ h2.2.2.1 r = h.2.2.1 r) → St h2 y2 c2 k ov2 → K (some (.int r)) h2)
    (ke : ∀ (h2 : XH), ¬ okm (mk L) → Fs 1 h y h2 y → St h2 y k k ov → E 3 h2) : Ca d m_X2_made [.ref 6, .ref o] h K E := by
  obtain ⟨d, rfl⟩ : ∃ e, d = e + 1 := ⟨d - 1, by omega⟩
  have ho : Dq h.1 o := by rcases ho6 with z | z <;> subst z; exact sg_D11 hs; exact sg_D14 hs
  have hsz := sg_size hs
  have fail : ∀ (u1 u2 : Option Value), ¬ okm (mk L) → b_X2_made_37 d 6 u1 u2 h K E := by
    intro u1 u2 hno
    refine w_X2_made_37 (by omega) hs ho (fun h1 e1 => ke _ hno ?_ ?_)
    · subst e1
      refine ⟨sg_nw hs, fun r a b => ⟨?_, ?_⟩, ⟨rfl, rfl⟩, ?_, ?_⟩
      · rw [nw_I (h := x_setI h 6 4 (h.2.1 6 5)) (show r < h.1.length by omega), sI_nq _ _ (by omega)]
      · rw [nw_J (h := x_setI h 6 4 (h.2.1 6 5)) (show r < h.1.length by omega)]; rfl
      · show (h.1 ++ [_]).length + _ ≤ _
        rw [List.length_append]
        simp only [List.length_singleton]
        omega
      · show h.2.2.2 + 6 + 2 * Ty y ≤ h.2.2.2 + 2 * Ty y + 6 * 1
        omega
    · subst e1
      exact St.nw (S.forget hs) hs
  have hL : L = [] ↔ (h.2.1 o 2).toInt = 0 := by
    rw [D.1]
    constructor
    · intro z; rw [z]; rfl
    · intro z; exact List.eq_nil_of_length_eq_zero (by omega)
  refine w_X2_made (by omega) hs ho ⟨fun z => ?_, fun z => ?_⟩
  · have hne : L ≠ [] := fun w => z (i_ne.mpr (hL.mp w))
    have hdm := dep_mk L hne
    refine t_X2_depthOf (by omega) hs S ho D (fun r hr => ⟨r, rfl, hs, ho, fun q => fail _ _ ?_, fun q => ?_⟩)
    · intro w
      have := w.2.2
      have e5 : (5 : Int32).toInt = 5 := rfl
      rw [i_lt, hr, e5] at q
      omega
    · have e5 : (5 : Int32).toInt = 5 := rfl
      rw [i_lt, hr, e5] at q
      refine t_X2_powersFit (by omega) hs ho D (fun r2 hr2 => ⟨r2, rfl, hs, ho, fun q2 => fail _ _ ?_, fun q2 => ⟨fun q3 => ?_, fun q3 => ?_⟩⟩)
      · intro w
        refine hr2.mpr ?_ q2
        have w1 := w.1
        have w2 := w.2.1
        rw [pl_mk] at w1 w2
        exact ⟨w1, w2⟩
      · have hok : okm (mk L) := by
          refine ⟨?_, ?_, by omega⟩
          · rw [pl_mk]; exact (hr2.mp q2).1
          · rw [pl_mk]; exact (hr2.mp q2).2
        refine t_X2_write (by omega) hs S ho ho6 D hne ⟨hn, hok⟩ hc (by rw [hr, hdm]) (fun h2 y2 F f S2 => ?_)
        refine ⟨rfl, y2, F.1, by rcases ho6 with z | z <;> subst z; exact sg_D11 F.1; exact sg_D14 F.1, ?_⟩
        refine kk _ h2 y2 _ (c + 1) c hok ?_ (by omega) (up_eq _ _ _) (fun i hi => up_lt hi) (by omega) (Nat.le_refl _) F f S2
        have := S2.1.1
        rw [i_sub (by rw [i_1]; omega) (by rw [i_1]; omega), this, i_1]
        omega
      · have e6 : (16384 : Int32).toInt = 16384 := rfl
        exact absurd (i_lt.mpr (by rw [S.1.1, e6]; omega)) q3
  · have hne : L = [] := hL.mpr (i_ne.mp (Classical.not_not.mp z))
    subst hne
    exact kk 0 h y ov c 0 ⟨Nat.zero_le _, (fun p hp => absurd hp List.not_mem_nil), Nat.zero_le _⟩ rfl (by have := S.1.2.2; omega) S.s0 (fun _ _ => rfl) (Nat.le_refl _) (by omega) (Fs.rf hs) (fun _ _ _ => ⟨rfl, rfl⟩) S
end
