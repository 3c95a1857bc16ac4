/-! ===== layer 4: the live bound: what is new in a descent ===== -/
theorem tl_l {Q : List OP} {e : O} {s : Nat} (h : e = .leaf) : tl (Q ++ [(e, s)]) = s := by
  unfold tl
  rw [at_last, h]
theorem tl_n {Q : List OP} {e : O} {s : Nat} (h : ¬ e = .leaf) : tl (Q ++ [(e, s)]) = 0 := by
  unfold tl
  rw [at_last]
  cases e with
  | leaf => exact absurd rfl h
  | inner => rfl
theorem nf_one {x : O} {Q : List OP} {e : O} {s : Nat} (h : nf x) (g : pl x = Q ++ [(e, s)]) : 1 ≤ s :=
  srt_one (nf_srt _ h) (e, s) (by rw [g]; exact List.mem_append.mpr (Or.inr List.mem_cons_self))
theorem nf_e {x e : O} (h : nf x) (g : ex x e) : nf e := by
  obtain ⟨q, q1, q2⟩ := g
  rw [← q2]; exact nf_ex _ h q q1
/-- 0, or in X -/
def ol (X z : O) : Prop := z = .leaf ∨ inS X z
def okE (X E : O) : Prop := ∀ z, ex E z → ol X z
def VA1 (X x : O) : Prop := ∀ E, ex x E → okE X E
def VN1 (X x : O) : Prop := ∃ L e t, pl x = L ++ [(e, t)] ∧ ¬ e = .leaf ∧ ((¬ la e = .leaf ∧ t = 1 ∧ ∀ q, q ∈ L → okE X q.1) ∨ (la e = .leaf ∧ (∀ q, q ∈ L → ∀ z, ex q.1 z → ol X z ∨ ex e z) ∧ 10 ≤ L.length + 1 + tl (pl e) + (if 1 < t then 1 else 0)))
def VV (X x : O) : Prop := VA1 X x ∨ VN1 X x
theorem ol_okE {X z : O} (h : ol X z) : okE X z := by
  intro y hy
  rcases h with w | w
  · rw [w] at hy; exact (ex_leaf hy).elim
  · exact Or.inr (inS_tr _ _ _ w (ex_S hy))
section
variable {X x : O} {n lv : Nat} {L : List OP} {e : O} {t : Nat}
/-- the last exponent is a limit -/
theorem V_lim (hn : 9 ≤ n) (nx : nf x) (dx : dep x ≤ lv + 1) (hL : pl x = L ++ [(e, t)]) (z : ¬ e = .leaf) (f0 : ¬ la e = .leaf) (h : ∀ q, q ∈ L ++ (if 1 < t then [(e, t - 1)] else []) → okE X q.1) : VN1 X (stpF n (lv + 1) x) := by
  have xe : ex x e := ⟨(e, t), by rw [hL]; exact List.mem_append.mpr (Or.inr List.mem_cons_self), rfl⟩
  have de := ex_dep xe
  have xf := ex_la z
  have df := ex_dep xf
  have d1 := dep_pos f0
  obtain ⟨k, rfl⟩ : ∃ k, lv = k + 2 := ⟨lv - 2, by omega⟩
  obtain ⟨Q, ⟨f, s⟩, hQ⟩ := pl_snoc z
  have ef := la_eq hQ
  rw [ef] at f0 xf df d1
  have t0 : tl (pl e) = 0 := by rw [hQ]; exact tl_n f0
  have pe := stp_1 (n := n) (lv := k + 2) hL z
  rw [t0, if_neg (Nat.lt_irrefl 0)] at pe
  refine ⟨_, _, _, pe, stp_nl (by rw [ef]; exact f0), ?_⟩
  by_cases g : la (stpF n (k + 2) e) = .leaf
  · refine Or.inr ⟨g, fun q hq z hz => Or.inl (h q hq z hz), ?_⟩
    rw [stp_la (by rw [ef]; exact f0), ef] at g
    have pf := stp_1 (n := n) (lv := k + 1) hQ f0
    have c0 : la f = .leaf := Classical.byContradiction fun w => stp_nl w g
    obtain ⟨R, ⟨u, v⟩, hR⟩ := pl_snoc f0
    have eu := la_eq hR
    rw [c0] at eu
    have v1 := nf_one (nf_e (nf_e nx xe) xf) hR
    have tv : tl (pl f) = v := by rw [hR]; exact tl_l eu.symm
    rw [tv, if_pos (show 0 < v by omega)] at pf
    rw [pf, tl_l g]
    omega
  · exact Or.inl ⟨g, rfl, h⟩
theorem V_step (hn : 9 ≤ n) (nx : nf x) (dx : dep x ≤ lv + 1) (ok : (pl (stpF n (lv + 1) x)).length ≤ 8) (v : VV X x) : VV X (stpF n (lv + 1) x) := by
  rcases v with a | ⟨L, e, t, hL, z, alt⟩
  · by_cases w : x = .leaf
    · rw [w, stp_z]; exact Or.inl (fun E hE => (ex_leaf hE).elim)
    obtain ⟨L, ⟨e, t⟩, hL⟩ := pl_snoc w
    have xe : ex x e := ⟨(e, t), by rw [hL]; exact List.mem_append.mpr (Or.inr List.mem_cons_self), rfl⟩
    by_cases z : e = .leaf
    · refine Or.inl (fun E hE => ?_)
      rcases stp_ex hE with u | ⟨u, -⟩
      · exact a E u
      · rw [la_eq hL] at u; exact absurd z u
    by_cases f0 : la e = .leaf
    · refine Or.inl (fun E hE => ?_)
      rcases stp_ex hE with u | ⟨-, u⟩
      · exact a E u
      · rw [la_eq hL] at u
        have d1 := dep_pos z
        have de := ex_dep xe
        obtain ⟨k, rfl⟩ : ∃ k, lv = k + 1 := ⟨lv - 1, by omega⟩
        intro y hy
        rw [u] at hy
        rcases stp_ex hy with r | ⟨r, -⟩
        · exact a e xe y r
        · exact absurd f0 r
    · refine Or.inr (V_lim hn nx dx hL z f0 (fun q hq => ?_))
      rcases stp_mid hq with u | ⟨u, -⟩
      · exact a q.1 ⟨q, by rw [hL]; exact List.mem_append.mpr (Or.inl u), rfl⟩
      · rw [u]; exact a e xe
  · rcases alt with ⟨f0, t1, h⟩ | ⟨f0, h, c⟩
    · refine Or.inr (V_lim hn nx dx hL z f0 (fun q hq => ?_))
      rcases stp_mid hq with u | ⟨-, u⟩
      · exact h q u
      · omega
    · have xe : ex x e := ⟨(e, t), by rw [hL]; exact List.mem_append.mpr (Or.inr List.mem_cons_self), rfl⟩
      have d1 := dep_pos z
      have de := ex_dep xe
      obtain ⟨k, rfl⟩ : ∃ k, lv = k + 1 := ⟨lv - 1, by omega⟩
      obtain ⟨Q, ⟨f, s⟩, hQ⟩ := pl_snoc z
      have ef := la_eq hQ
      rw [f0] at ef
      have ts : tl (pl e) = s := by rw [hQ]; exact tl_l ef.symm
      have s1 := nf_one (nf_e nx xe) hQ
      have pe := stp_1 (n := n) (lv := k + 1) hL z
      rw [ts, if_pos (show 0 < s by omega)] at pe
      rw [ts] at c
      have lM : (L ++ (if 1 < t then [(e, t - 1)] else [])).length = L.length + (if 1 < t then 1 else 0) := by
        rw [List.length_append]
        by_cases w : 1 < t
        · rw [if_pos w, if_pos w]; rfl
        · rw [if_neg w, if_neg w]; rfl
      have len : (L ++ (if 1 < t then [(e, t - 1)] else [])).length + 1 ≤ 8 := by
        have := ok
        rw [pe, List.length_append] at this
        exact this
      have s2 : 1 < s := by omega
      have pf := stp_0 (n := n) (lv := k) hQ ef.symm
      rw [if_pos s2] at pf
      have up : ∀ y, ex e y → ex (stpF n (k + 1) e) y := by
        rintro y ⟨q, q1, q2⟩
        rw [hQ] at q1
        rcases List.mem_append.mp q1 with w | w
        · exact ⟨q, by rw [pf]; exact List.mem_append.mpr (Or.inl w), q2⟩
        · rw [List.mem_singleton.mp w] at q2
          exact ⟨(f, s - 1), by rw [pf]; exact List.mem_append.mpr (Or.inr List.mem_cons_self), q2⟩
      refine Or.inr ⟨_, _, _, pe, ?_, Or.inr ⟨by rw [la_eq pf]; exact ef.symm, fun q hq y hy => ?_, ?_⟩⟩
      · exact ex_nl (up f ⟨(f, s), by rw [hQ]; exact List.mem_append.mpr (Or.inr List.mem_cons_self), rfl⟩)
      · rcases stp_mid hq with u | ⟨u, -⟩
        · rcases h q u y hy with r | r
          · exact Or.inl r
          · exact Or.inr (up y r)
        · rw [u] at hy; exact Or.inr (up y hy)
      · rw [pf, tl_l ef.symm, lM, if_pos (show 1 < n by omega)]
        omega
end
/-- so, along the last exponents -/
def JJ (X : O) : Nat → O → Prop
  | 0, _ => True
  | k + 1, x => VV X x ∧ JJ X k (la x)
theorem JJ_ol {X : O} : ∀ (k : Nat) (E : O), okE X E → JJ X k E := by
  intro k
  induction k with
  | zero => intro _ _; trivial
  | succ k ih =>
    intro E h
    refine ⟨Or.inl (fun z hz => ol_okE (h z hz)), ih _ ?_⟩
    by_cases w : E = .leaf
    · rw [w, la_leaf]; exact fun z hz => (ex_leaf hz).elim
    · exact ol_okE (h _ (ex_la w))
theorem JJ_step {X : O} {n : Nat} (hn : 9 ≤ n) : ∀ (k lv : Nat) (x : O), nf x → dep x ≤ lv + 1 → stpok n (lv + 1) x → JJ X k x → JJ X k (stpF n (lv + 1) x) := by
  intro k
  induction k with
  | zero => intro _ _ _ _ _ _; trivial
  | succ k ih =>
    intro lv x nx dx ok h
    by_cases w : x = .leaf
    · rw [w] at h ⊢; rw [stp_z]; exact h
    obtain ⟨v, j⟩ := h
    obtain ⟨L, ⟨e, t⟩, hL⟩ := pl_snoc w
    have xe : ex x e := ⟨(e, t), by rw [hL]; exact List.mem_append.mpr (Or.inr List.mem_cons_self), rfl⟩
    rw [stpok_eq (p := (e, t)) (by rw [hL]; exact at_last _ _)] at ok
    obtain ⟨ok1, ok2⟩ := ok
    refine ⟨V_step hn nx dx ok2.1 v, ?_⟩
    rw [la_eq hL] at j
    by_cases z : e = .leaf
    · rcases v with a | ⟨L2, e2, t2, hL2, z2, -⟩
      · refine JJ_ol k _ ?_
        by_cases u : stpF n (lv + 1) x = .leaf
        · rw [u, la_leaf]; exact fun z hz => (ex_leaf hz).elim
        · rcases stp_ex (ex_la u) with r | ⟨r, -⟩
          · exact a _ r
          · rw [la_eq hL] at r; exact absurd z r
      · have e2e : e2 = e := (la_eq hL2).symm.trans (la_eq hL)
        exact absurd (e2e.trans z) z2
    · have d1 := dep_pos z
      have de := ex_dep xe
      obtain ⟨q, rfl⟩ : ∃ q, lv = q + 1 := ⟨lv - 1, by omega⟩
      rw [stp_la (by rw [la_eq hL]; exact z), la_eq hL]
      exact ih q e (nf_e nx xe) (by omega) ok1 j
theorem exs_l (x : O) {z : O} (h : ex x z) : z ∈ (pl x).map (fun q => q.1) := by
  obtain ⟨q, q1, q2⟩ := h
  exact List.mem_map.mpr ⟨q, q1, q2⟩
/-- what is new is little -/
theorem JJ_new {X : O} : ∀ (k : Nat) (x : O), hgd x → dep x ≤ k + 1 → JJ X k x → ∃ l : List O, l.length ≤ 8 * k ∧ ∀ z, inS x z → ol X z ∨ z ∈ l := by
  intro k
  induction k with
  | zero =>
    intro x g d _
    refine ⟨[], Nat.zero_le _, fun z hz => ?_⟩
    obtain ⟨e, he, w⟩ := in_ex hz
    have e0 : e = .leaf := Classical.byContradiction fun v => by
      have := dep_pos v; have := ex_dep he; omega
    rw [e0] at w
    rcases w with w | w
    · exact Or.inl (Or.inl w)
    · exact w.elim
  | succ k ih =>
    intro x g d h
    obtain ⟨v, j⟩ := h
    have len := hgd_len g
    have dl : dep (la x) ≤ k + 1 := by
      by_cases w : x = .leaf
      · rw [w, la_leaf]; exact Nat.zero_le _
      · have := ex_dep (ex_la w); omega
    obtain ⟨l, hl, hi⟩ := ih (la x) (hgd_la g) dl j
    refine ⟨(pl x).map (fun q => q.1) ++ l, by rw [List.length_append, List.length_map]; omega, fun z hz => ?_⟩
    have big : ∀ w, ol X w → inS w z → ol X z ∨ z ∈ (pl x).map (fun q => q.1) ++ l := fun w hw hz => by
      rcases hw with u | u
      · rw [u] at hz; exact hz.elim
      · exact Or.inl (Or.inr (inS_tr _ _ _ u hz))
    have okc : ∀ E, okE X E → inS E z → ol X z ∨ z ∈ (pl x).map (fun q => q.1) ++ l := fun E hE hz => by
      obtain ⟨e, he, w⟩ := in_ex hz
      rcases w with w | w
      · rw [w]; exact Or.inl (hE e he)
      · exact big e (hE e he) w
    have lst : inS (la x) z → ol X z ∨ z ∈ (pl x).map (fun q => q.1) ++ l := fun w => by
      rcases hi z w with u | u
      · exact Or.inl u
      · exact Or.inr (List.mem_append.mpr (Or.inr u))
    obtain ⟨E, hE, w⟩ := in_ex hz
    rcases w with w | w
    · rw [w]; exact Or.inr (List.mem_append.mpr (Or.inl (exs_l x hE)))
    rcases v with a | ⟨L, e, t, hL, nz, alt⟩
    · exact okc E (a E hE) w
    · have le := la_eq hL
      obtain ⟨q, q1, q2⟩ := hE
      rw [hL] at q1
      rcases List.mem_append.mp q1 with u | u
      · rcases alt with ⟨-, -, h⟩ | ⟨-, h, -⟩
        · exact okc E (by rw [← q2]; exact h q u) w
        · obtain ⟨y, hy, c⟩ := in_ex w
          rw [← q2] at hy
          rcases h q u y hy with r | r
          · rcases c with c | c
            · rw [c]; exact Or.inl r
            · exact big y r c
          · refine lst ?_
            rw [le]
            rcases c with c | c
            · rw [c]; exact ex_S r
            · exact ex_in r c
      · rw [List.mem_singleton.mp u] at q2
        refine lst ?_
        rw [le]
        have : e = E := q2
        rw [this]; exact w
theorem hgd_stp {n : Nat} (hn : 1 ≤ n) : ∀ (lv : Nat) (x : O), dep x ≤ lv → hgd x → stpok n lv x → hgd (stpF n lv x) := by
  intro lv
  induction lv with
  | zero =>
    intro x d g _
    have : x = .leaf := Classical.byContradiction fun v => by have := dep_pos v; omega
    rw [this, stp_z, ← this]; exact g
  | succ lv ih =>
    intro x d g ok
    by_cases w : x = .leaf
    · rw [w, stp_z, ← w]; exact g
    obtain ⟨L, ⟨e, t⟩, hL⟩ := pl_snoc w
    have xe : ex x e := ⟨(e, t), by rw [hL]; exact List.mem_append.mpr (Or.inr List.mem_cons_self), rfl⟩
    rw [stpok_eq (p := (e, t)) (by rw [hL]; exact at_last _ _)] at ok
    refine hgd_of ⟨(stp_lt n hn (lv + 1) x d g.1.1).1, ok.2⟩ (fun p hp => ?_)
    rcases stp_ex ⟨p, hp, rfl⟩ with u | ⟨-, u⟩
    · exact hgd_ex g u
    · rw [u, la_eq hL]
      exact ih e (by have := ex_dep xe; omega) (hgd_ex g xe) ok.1
theorem itr_s (n : Nat) : ∀ (f s : Nat) (x : O), itr n (f + 1) s x = stpF (n + (s + f)) 5 (itr n f s x) := by
  intro f
  induction f with
  | zero => intro s x; rfl
  | succ f ih =>
    intro s x
    show itr n (f + 1) (s + 1) (stpF (n + s) 5 x) = stpF (n + (s + (f + 1))) 5 (itr n f (s + 1) (stpF (n + s) 5 x))
    rw [ih, show s + 1 + f = s + (f + 1) by omega]
section
variable {n f : Nat} {T : O}
theorem itr_hgd (hn : 1 ≤ n) (gT : hgd T) : ∀ f, (∀ g, g < f → stpok (n + g) 5 (itr n g 0 T)) → hgd (itr n f 0 T) := by
  intro f
  induction f with
  | zero => intro _; exact gT
  | succ f ih =>
    intro h
    have g := ih (fun q hq => h q (by omega))
    rw [itr_s, Nat.zero_add]
    exact hgd_stp (by omega) 5 _ (hgd_dep g) g (h f (by omega))
theorem in_la {x z : O} (h : inS (la x) z) : inS x z := by
  by_cases w : x = .leaf
  · rw [w, la_leaf] at h; exact h.elim
  · exact ex_in (ex_la w) h
/-- four new ones in a step -/
theorem stp_new (n : Nat) (x : O) : ∃ l : List O, l.length ≤ 4 ∧ ∀ z, inS (stpF n 5 x) z → z = .leaf ∨ inS x z ∨ z ∈ l := by
  refine ⟨[stpF n 4 (la x), stpF n 3 (la (la x)), stpF n 2 (la (la (la x))), stpF n 1 (la (la (la (la x))))], Nat.le_refl _, fun z h => ?_⟩
  rcases stp_in h with w | ⟨-, w | w⟩
  · exact Or.inr (Or.inl w)
  · rw [w]; exact Or.inr (Or.inr List.mem_cons_self)
  rcases stp_in w with w | ⟨-, w | w⟩
  · exact Or.inr (Or.inl (in_la w))
  · rw [w]; exact Or.inr (Or.inr (List.mem_cons_of_mem _ List.mem_cons_self))
  rcases stp_in w with w | ⟨-, w | w⟩
  · exact Or.inr (Or.inl (in_la (in_la w)))
  · rw [w]; exact Or.inr (Or.inr (List.mem_cons_of_mem _ (List.mem_cons_of_mem _ List.mem_cons_self)))
  rcases stp_in w with w | ⟨-, w | w⟩
  · exact Or.inr (Or.inl (in_la (in_la (in_la w))))
  · rw [w]; exact Or.inr (Or.inr (List.mem_cons_of_mem _ (List.mem_cons_of_mem _ (List.mem_cons_of_mem _ List.mem_cons_self))))
  rcases stp_in w with w | ⟨-, w | w⟩
  · exact Or.inr (Or.inl (in_la (in_la (in_la (in_la w)))))
  · exact Or.inl w
  · exact False.elim w
theorem itr_new : ∀ f, ∃ l : List O, l.length ≤ 4 * f ∧ ∀ z, inS (itr n f 0 T) z → z = .leaf ∨ inS T z ∨ z ∈ l := by
  intro f
  induction f with
  | zero => exact ⟨[], Nat.le_refl _, fun z hz => Or.inr (Or.inl hz)⟩
  | succ f ih =>
    obtain ⟨l, h1, h2⟩ := ih
    obtain ⟨l2, g1, g2⟩ := stp_new (n + (0 + f)) (itr n f 0 T)
    refine ⟨l2 ++ l, by rw [List.length_append]; omega, fun z hz => ?_⟩
    rw [itr_s] at hz
    rcases g2 z hz with w | w | w
    · exact Or.inl w
    · rcases h2 z w with u | u | u
      · exact Or.inl u
      · exact Or.inr (Or.inl u)
      · exact Or.inr (Or.inr (List.mem_append.mpr (Or.inr u)))
    · exact Or.inr (Or.inr (List.mem_append.mpr (Or.inl w)))
theorem itr_JJ (gT : hgd T) (hn : 1 ≤ n) (s : Nat) (hs : 9 ≤ n + s) : ∀ k, (∀ g, g < s + k → stpok (n + g) 5 (itr n g 0 T)) → JJ (itr n s 0 T) 4 (itr n (s + k) 0 T) := by
  intro k
  induction k with
  | zero => intro _; exact JJ_ol 4 _ (fun z hz => Or.inr (ex_S hz))
  | succ k ih =>
    intro h
    have h2 : ∀ g, g < s + k → stpok (n + g) 5 (itr n g 0 T) := fun q hq => h q (by omega)
    have g := itr_hgd hn gT (s + k) h2
    have j := ih h2
    show JJ (itr n s 0 T) 4 (itr n (s + k + 1) 0 T)
    rw [itr_s, Nat.zero_add]
    exact JJ_step (by omega) 4 4 _ g.1.1 (hgd_dep g) (h (s + k) (by omega)) j
/-- at most 64 new ones, in what a descent comes to -/
theorem itr_64 (gT : hgd T) (hn : 1 ≤ n) (f : Nat) (h : ∀ g, g < f → stpok (n + g) 5 (itr n g 0 T)) : ∃ l : List O, l.length ≤ 64 ∧ ∀ z, inS (itr n f 0 T) z → z = .leaf ∨ inS T z ∨ z ∈ l := by
  by_cases c : f ≤ 8
  · obtain ⟨l, h1, h2⟩ := itr_new (n := n) (T := T) f
    exact ⟨l, by omega, h2⟩
  · obtain ⟨k, rfl⟩ : ∃ k, f = 8 + k := ⟨f - 8, by omega⟩
    obtain ⟨l, h1, h2⟩ := itr_new (n := n) (T := T) 8
    have g := itr_hgd hn gT (8 + k) h
    obtain ⟨l2, g1, g2⟩ := JJ_new 4 _ g (hgd_dep g) (itr_JJ gT hn 8 (by omega) k h)
    refine ⟨l2 ++ l, by rw [List.length_append]; omega, fun z hz => ?_⟩
    rcases g2 z hz with (w | w) | w
    · exact Or.inl w
    · rcases h2 z w with u | u | u
      · exact Or.inl u
      · exact Or.inr (Or.inl u)
      · exact Or.inr (Or.inr (List.mem_append.mpr (Or.inr u)))
    · exact Or.inr (Or.inr (List.mem_append.mpr (Or.inl w)))
end
/-! the count -/
/-- 68 more for what is live in a place -/
theorem HW_live {T : O} {F : O → Nat} (g : hgd T) (h : HW T F) : ∃ G, gtot G ≤ 68 ∧ ∀ y, ¬ y = .leaf → (y = T ∨ inS T y) → 8 ≤ F y + gsum G y := by
  by_cases w : T = .leaf
  · refine ⟨[], Nat.zero_le _, fun y hy v => ?_⟩
    rw [w] at v
    rcases v with v | v
    · exact absurd v hy
    · exact v.elim
  obtain ⟨A, p, e⟩ := pl_snoc w
  have xl := ex_la w
  have d1 := ex_dep xl
  have d5 := hgd_dep g
  refine ⟨(T, 8) :: (la T, 8) :: (gmp (fun _ => 4) A ++ gmp dep (pl (la T))), ?_, fun y hy v => ?_⟩
  · have h1 := gmp_le (f := fun _ => 4) (b := 4) (L := A) (fun q _ => Nat.le_refl _)
    have h2 := hgd_len g
    rw [e, List.length_append] at h2
    have h3 : [p].length = 1 := rfl
    have h4 := gmp_le (f := dep) (b := 3) (L := pl (la T)) (fun q hq => by have := ex_dep (x := la T) ⟨q, hq, rfl⟩; omega)
    have h5 := hgd_len (hgd_la g)
    have h6 := gt_app (gmp (fun _ => 4) A) (gmp dep (pl (la T)))
    show 8 + (8 + gtot (gmp (fun _ => 4) A ++ gmp dep (pl (la T)))) ≤ 68
    omega
  · obtain ⟨a1, a2, a3, a4⟩ := h y hy
    have s1 : gsum (gmp (fun _ => 4) A) y + gsum (gmp dep (pl (la T))) y ≤ gsum ((T, 8) :: (la T, 8) :: (gmp (fun _ => 4) A ++ gmp dep (pl (la T)))) y := by
      show _ ≤ ouif (T = y) 8 0 + (ouif (la T = y) 8 0 + gsum (gmp (fun _ => 4) A ++ gmp dep (pl (la T))) y)
      rw [gsum_app]; omega
    rcases v with v | v
    · have : 8 ≤ gsum ((T, 8) :: (la T, 8) :: (gmp (fun _ => 4) A ++ gmp dep (pl (la T)))) y := gs_mem (by rw [v]; exact List.mem_cons_self)
      omega
    obtain ⟨z, hz, u⟩ := in_ex v
    rcases u with u | u
    · by_cases c : y = la T
      · have : 8 ≤ gsum ((T, 8) :: (la T, 8) :: (gmp (fun _ => 4) A ++ gmp dep (pl (la T)))) y := gs_mem (by rw [c]; exact List.mem_cons_of_mem _ List.mem_cons_self)
        omega
      · rw [← u] at hz
        have h4 := a4 hz c
        obtain ⟨q, hq, eq⟩ := hz
        rw [e] at hq
        rw [la_eq e] at c
        rcases List.mem_append.mp hq with r | r
        · have : 4 ≤ gsum (gmp (fun _ => 4) A) y := by
            rw [← eq]; exact gs_mem (gmp_mem (f := fun _ => 4) r)
          omega
        · rw [List.mem_singleton.mp r] at eq; exact absurd eq.symm c
    · obtain ⟨z2, hz2, u2⟩ := in_ex u
      rcases u2 with u2 | u2
      · rw [← u2] at hz2
        by_cases c : ex (la T) y
        · have := a2 c
          have := gmp_ex (f := dep) c
          omega
        · have := a3 z hz hz2 c; omega
      · have := a1 z z2 hz hz2 u2; omega
theorem HW_all {S : XS} {F : O → Nat} (H : HG S) (h : ∀ p, p < 16 → S.1 p = 1 → HW (S.2.1 p) F) : ∀ k, k ≤ 16 → ∃ G, gtot G ≤ 68 * k ∧ ∀ p, p < k → S.1 p = 1 → ∀ y, ¬ y = .leaf → (y = S.2.1 p ∨ inS (S.2.1 p) y) → 8 ≤ F y + gsum G y := by
  intro k
  induction k with
  | zero => intro _; exact ⟨[], Nat.le_refl _, fun p hp => absurd hp (by omega)⟩
  | succ k ih =>
    intro hk
    obtain ⟨G, h1, h2⟩ := ih (by omega)
    by_cases c : S.1 k = 1
    · obtain ⟨G2, g1, g2⟩ := HW_live (H k (by omega) c) (h k (by omega) c)
      refine ⟨G2 ++ G, by rw [gt_app]; omega, fun p hp hk2 y hy v => ?_⟩
      rw [gsum_app]
      by_cases z : p = k
      · rw [z] at v
        have := g2 y hy v; omega
      · have := h2 p (by omega) hk2 y hy v; omega
    · refine ⟨G, by omega, fun p hp hk2 y hy v => ?_⟩
      by_cases z : p = k
      · rw [z] at hk2; exact absurd hk2 c
      · exact h2 p (by omega) hk2 y hy v
def ovl (ov : Nat → O) : Nat → List O
  | 0 => []
  | k + 1 => ov k :: ovl ov k
theorem ovl_m {ov : Nat → O} {x : O} : ∀ k, x ∈ ovl ov k → ∃ i, i < k ∧ x = ov i := by
  intro k
  induction k with
  | zero => intro h; exact absurd h List.not_mem_nil
  | succ k ih =>
    intro h
    rcases List.mem_cons.mp h with w | w
    · exact ⟨k, by omega, w⟩
    · obtain ⟨i, hi, e⟩ := ih w
      exact ⟨i, by omega, e⟩
theorem ovl_n {ov : Nat → O} : ∀ m, (∀ i j, i < m → j < m → ov i = ov j → i = j) → (ovl ov m).Nodup ∧ (ovl ov m).length = m := by
  intro m
  induction m with
  | zero => intro _; exact ⟨List.nodup_nil, rfl⟩
  | succ m ih =>
    intro h
    obtain ⟨i1, i2⟩ := ih (fun i j hi hj e => h i j (by omega) (by omega) e)
    refine ⟨List.nodup_cons.mpr ⟨fun w => ?_, i1⟩, by show (ovl ov m).length + 1 = _; omega⟩
    obtain ⟨i, hi, e⟩ := ovl_m m w
    have := h m i (by omega) (by omega) e
    omega
theorem fsum_8 {F : O → Nat} : ∀ xs : List O, (∀ y, y ∈ xs → 8 ≤ F y) → 8 * xs.length ≤ fsum F xs := by
  intro xs
  induction xs with
  | nil => intro _; exact Nat.zero_le _
  | cons x xs ih =>
    intro h
    have h1 := h x List.mem_cons_self
    have h2 := ih (fun y hy => h y (List.mem_cons_of_mem _ hy))
    show 8 * (xs.length + 1) ≤ F x + fsum F xs
    omega
theorem live_cnt {n m : Nat} {S : XS} {ov : Nat → O} (H : HG S) (B : BW n S) (l : List O) (inj : ∀ i j, i < m → j < m → ov i = ov j → i = j) (h : ∀ i, i < m → ov i = .leaf ∨ ov i ∈ l ∨ ∃ p, p < 16 ∧ S.1 p = 1 ∧ (ov i = S.2.1 p ∨ inS (S.2.1 p) (ov i))) : 8 * m ≤ 28 * n + 1096 + 8 * l.length := by
  obtain ⟨F, f1, f2⟩ := B
  obtain ⟨G, g1, g2⟩ := HW_all H f2 16 (Nat.le_refl _)
  obtain ⟨n1, n2⟩ := ovl_n m inj
  have t1 := gt_le (b := 8) (G := l.map (fun z => (z, 8))) (fun q hq => by
    obtain ⟨r, -, e⟩ := List.mem_map.mp hq
    rw [← e]; exact Nat.le_refl _)
  rw [List.length_map] at t1
  have t2 := gt_app (l.map (fun z => (z, 8))) G
  have a1 := fsum_8 (F := fun y => F y + gsum ((.leaf, 8) :: (l.map (fun z => (z, 8)) ++ G)) y) (ovl ov m) (fun y hy => by
    obtain ⟨i, hi, e⟩ := ovl_m m hy
    have s : gsum ((.leaf, 8) :: (l.map (fun z => (z, 8)) ++ G)) y = ouif (.leaf = y) 8 0 + (gsum (l.map (fun z => (z, 8))) y + gsum G y) := by
      rw [← gsum_app]; rfl
    by_cases z : y = .leaf
    · have : 8 ≤ gsum ((.leaf, 8) :: (l.map (fun z => (z, 8)) ++ G)) y := gs_mem (by rw [z]; exact List.mem_cons_self)
      omega
    rcases h i hi with w | w | ⟨p, p1, p2, w⟩
    · rw [← e] at w; exact absurd w z
    · rw [← e] at w
      have : 8 ≤ gsum (l.map (fun z => (z, 8))) y := gs_mem (List.mem_map.mpr ⟨y, w, rfl⟩)
      omega
    · rw [← e] at w
      have := g2 p p1 p2 y z w
      omega)
  rw [fsum_add F (gsum ((.leaf, 8) :: (l.map (fun z => (z, 8)) ++ G))), n2] at a1
  have a2 := f1 _ n1
  have a3 := fsum_gs n1 ((.leaf, 8) :: (l.map (fun z => (z, 8)) ++ G))
  have a4 : gtot ((.leaf, 8) :: (l.map (fun z => (z, 8)) ++ G)) = 8 + gtot (l.map (fun z => (z, 8)) ++ G) := rfl
  omega
theorem BW_LBS {n : Nat} {S : XS} (hn : n ≤ 511) (H : HG S) (B : BW n S) : LBS S := by
  intro m ov inj h
  have := live_cnt H B [] inj (fun i hi => by
    rcases h i hi with w | w
    · exact Or.inl w
    · exact Or.inr (Or.inr w))
  have e : ([] : List O).length = 0 := rfl
  omega
theorem BW_LBD {n : Nat} {S : XS} (hn : n ≤ 511) (H : HG S) (B : BW n S) : LBD S := by
  intro p nn f hp hk h1 h2 hf hok m ov inj h
  obtain ⟨l, l1, l2⟩ := itr_64 (H p hp hk) h1 f hok
  have := live_cnt H B (itr nn f 0 (S.2.1 p) :: l) inj (fun i hi => by
    rcases h i hi with w | w | w | w
    · exact Or.inl w
    · exact Or.inr (Or.inl (by rw [w]; exact List.mem_cons_self))
    · rcases l2 _ w with u | u | u
      · exact Or.inl u
      · exact Or.inr (Or.inr ⟨p, hp, hk, Or.inr u⟩)
      · exact Or.inr (Or.inl (List.mem_cons_of_mem _ u))
    · exact Or.inr (Or.inr w))
  have e : (itr nn f 0 (S.2.1 p) :: l).length = l.length + 1 := rfl
  omega
theorem law_ok : x_Law := law_of BW BW_0 (fun _ _ hn _ H B => ⟨BW_LBS hn H B, BW_LBD hn H B⟩) (fun _ _ _ V H B s => ⟨chg_VA V (chg_of V s), fun H2 => BW_c B H H2 (chg_of V s)⟩) (fun _ _ B => BW_s B)
