/-! ===== layer 4: the live bound: the step; all calls ===== -/
section
variable {n lv : Nat} {x : O} {L : List OP} {e : O} {t : Nat}
theorem stp_l (h : pl x = L ++ [(e, t)]) : lsL (pl x) 1 = L ++ (if 1 < t then [(e, t - 1)] else []) := by
  rw [lsL_eq (e := e) (n := t) (by rw [h]; exact at_last _ _), h]
  congr 1
  rw [List.length_append, show L.length + [(e, t)].length - 1 = L.length from rfl, List.take_left']
  rfl
theorem stp_0 (h : pl x = L ++ [(e, t)]) (he : e = .leaf) : pl (stpF n (lv + 1) x) = L ++ (if 1 < t then [(e, t - 1)] else []) := by
  have c0 : oc ((e, t) : OP).1 .leaf = 0 := by rw [he]; rfl
  rw [stpF_eq (p := (e, t)) (by rw [h]; exact at_last _ _), pl_mk, stp_l h, if_pos c0, List.append_nil]
theorem stp_1 (h : pl x = L ++ [(e, t)]) (he : ¬ e = .leaf) : pl (stpF n (lv + 1) x) = (L ++ (if 1 < t then [(e, t - 1)] else [])) ++ [(stpF n lv e, if 0 < tl (pl e) then n else 1)] := by
  rw [stpF_eq (p := (e, t)) (by rw [h]; exact at_last _ _), pl_mk, stp_l h, if_neg (fun w => he (oc_eq _ _ w))]
end
theorem stp_mid {L : List OP} {e : O} {t : Nat} {q : OP} (h : q ∈ L ++ (if 1 < t then [(e, t - 1)] else [])) : q ∈ L ∨ (q.1 = e ∧ 1 < t) := by
  rcases List.mem_append.mp h with w | w
  · exact Or.inl w
  · by_cases z : 1 < t
    · rw [if_pos z] at w; rw [List.mem_singleton.mp w]; exact Or.inr ⟨rfl, z⟩
    · rw [if_neg z] at w; exact absurd w List.not_mem_nil
theorem stp_z (n lv : Nat) : stpF n lv .leaf = .leaf := (stp_leaf n lv).1
theorem stp_ex {n lv : Nat} {x y : O} (h : ex (stpF n (lv + 1) x) y) : ex x y ∨ (¬ la x = .leaf ∧ y = stpF n lv (la x)) := by
  by_cases w : x = .leaf
  · rw [w, stp_z] at h; exact (ex_leaf h).elim
  obtain ⟨L, ⟨e, t⟩, hL⟩ := pl_snoc w
  have xe : ex x e := ⟨(e, t), by rw [hL]; exact List.mem_append.mpr (Or.inr List.mem_cons_self), rfl⟩
  have mid : ∀ q, q ∈ L ++ (if 1 < t then [(e, t - 1)] else []) → ex x q.1 := fun q hq => by
    rcases stp_mid hq with v | ⟨v, -⟩
    · exact ⟨q, by rw [hL]; exact List.mem_append.mpr (Or.inl v), rfl⟩
    · rw [v]; exact xe
  obtain ⟨q, hq, eq⟩ := h
  rw [la_eq hL]
  by_cases z : e = .leaf
  · rw [stp_0 hL z] at hq
    rw [← eq]; exact Or.inl (mid q hq)
  · rw [stp_1 hL z] at hq
    rcases List.mem_append.mp hq with v | v
    · rw [← eq]; exact Or.inl (mid q v)
    · rw [← eq, List.mem_singleton.mp v]; exact Or.inr ⟨z, rfl⟩
theorem stp_la {n lv : Nat} {x : O} (h : ¬ la x = .leaf) : la (stpF n (lv + 1) x) = stpF n lv (la x) := by
  by_cases w : x = .leaf
  · rw [w, la_leaf] at h; exact absurd rfl h
  obtain ⟨L, ⟨e, t⟩, hL⟩ := pl_snoc w
  rw [la_eq hL] at h ⊢
  exact la_eq (stp_1 hL h)
theorem stp_nl {n lv : Nat} {x : O} (h : ¬ la x = .leaf) : ¬ stpF n (lv + 1) x = .leaf := by
  by_cases w : x = .leaf
  · rw [w, la_leaf] at h; exact absurd rfl h
  obtain ⟨L, ⟨e, t⟩, hL⟩ := pl_snoc w
  rw [la_eq hL] at h
  intro v
  have h2 := stp_1 (n := n) (lv := lv) hL h
  rw [v] at h2
  exact absurd h2.symm (by intro z; exact List.append_ne_nil_of_right_ne_nil _ (List.cons_ne_nil _ _) z)
theorem stp_keep {n lv : Nat} {x y : O} (h : ex x y) (g : ¬ y = la x) : ex (stpF n (lv + 1) x) y := by
  obtain ⟨L, ⟨e, t⟩, hL⟩ := pl_snoc (ex_nl h)
  rw [la_eq hL] at g
  obtain ⟨q, hq, eq⟩ := h
  rw [hL] at hq
  rcases List.mem_append.mp hq with v | v
  · by_cases z : e = .leaf
    · exact ⟨q, by rw [stp_0 hL z]; exact List.mem_append.mpr (Or.inl v), eq⟩
    · exact ⟨q, by rw [stp_1 hL z]; exact List.mem_append.mpr (Or.inl (List.mem_append.mpr (Or.inl v))), eq⟩
  · rw [List.mem_singleton.mp v] at eq
    exact absurd eq.symm g
theorem stp_in {n lv : Nat} {x y : O} (h : inS (stpF n (lv + 1) x) y) : inS x y ∨ (¬ la x = .leaf ∧ (y = stpF n lv (la x) ∨ inS (stpF n lv (la x)) y)) := by
  obtain ⟨z, hz, w⟩ := in_ex h
  rcases stp_ex hz with v | ⟨v1, v2⟩
  · rcases w with w | w
    · rw [w]; exact Or.inl (ex_S v)
    · exact Or.inl (ex_in v w)
  · rw [v2] at w; exact Or.inr ⟨v1, w⟩
/-- the gains below an exponent's exponent -/
theorem stp_gf {n : Nat} {f : O} (nf : ¬ f = .leaf) (df : dep f ≤ 3) : ∃ G, gtot G + dep f ≤ 24 ∧ (¬ stpF n 3 f = .leaf → 8 ≤ gsum G (stpF n 3 f) + dep (stpF n 3 f)) ∧ ∀ y, ¬ y = .leaf → inS (stpF n 3 f) y → inS f y ∨ 8 ≤ gsum G y := by
  by_cases l1 : stpF n 3 f = .leaf
  · exact ⟨[], by show 0 + dep f ≤ 24; omega, fun v => absurd l1 v, fun y _ v => by rw [l1] at v; exact v.elim⟩
  have p1 := dep_pos l1
  have one : (∀ y, ¬ y = .leaf → inS (stpF n 3 f) y → inS f y) → ∃ G, gtot G + dep f ≤ 24 ∧ (¬ stpF n 3 f = .leaf → 8 ≤ gsum G (stpF n 3 f) + dep (stpF n 3 f)) ∧ ∀ y, ¬ y = .leaf → inS (stpF n 3 f) y → inS f y ∨ 8 ≤ gsum G y := fun k => by
    refine ⟨[(stpF n 3 f, 8 - dep (stpF n 3 f))], by show 8 - dep (stpF n 3 f) + 0 + dep f ≤ 24; omega, fun _ => ?_, fun y hy v => Or.inl (k y hy v)⟩
    have : 8 - dep (stpF n 3 f) ≤ gsum [(stpF n 3 f, 8 - dep (stpF n 3 f))] (stpF n 3 f) := gs_mem List.mem_cons_self
    omega
  by_cases g1 : la f = .leaf
  · exact one (fun y _ v => by
      rcases stp_in v with w | ⟨w, -⟩
      · exact w
      · exact absurd g1 w)
  have xg := ex_la nf
  have dg := ex_dep xg
  by_cases l2 : stpF n 2 (la f) = .leaf
  · exact one (fun y hy v => by
      rcases stp_in v with w | ⟨-, w | w⟩
      · exact w
      · rw [l2] at w; exact absurd w hy
      · rw [l2] at w; exact w.elim)
  have q1 : ex (stpF n 3 f) (stpF n 2 (la f)) := by rw [← stp_la g1]; exact ex_la l1
  have d1 := ex_dep q1
  have p2 := dep_pos l2
  have two : (∀ y, ¬ y = .leaf → inS (stpF n 2 (la f)) y → inS f y) → ∃ G, gtot G + dep f ≤ 24 ∧ (¬ stpF n 3 f = .leaf → 8 ≤ gsum G (stpF n 3 f) + dep (stpF n 3 f)) ∧ ∀ y, ¬ y = .leaf → inS (stpF n 3 f) y → inS f y ∨ 8 ≤ gsum G y := fun k => by
    refine ⟨[(stpF n 3 f, 8 - dep (stpF n 3 f)), (stpF n 2 (la f), 8)], by show 8 - dep (stpF n 3 f) + (8 + 0) + dep f ≤ 24; omega, fun _ => ?_, fun y hy v => ?_⟩
    · have : 8 - dep (stpF n 3 f) ≤ gsum [(stpF n 3 f, 8 - dep (stpF n 3 f)), (stpF n 2 (la f), 8)] (stpF n 3 f) := gs_mem List.mem_cons_self
      omega
    · rcases stp_in v with w | ⟨-, w | w⟩
      · exact Or.inl w
      · rw [w]; exact Or.inr (gs_mem (List.mem_cons_of_mem _ List.mem_cons_self))
      · exact Or.inl (k y hy w)
  have lift : ∀ y, inS (la f) y → inS f y := fun y v => ex_in xg v
  by_cases h1 : la (la f) = .leaf
  · exact two (fun y _ v => by
      rcases stp_in v with w | ⟨w, -⟩
      · exact lift y w
      · exact absurd h1 w)
  have xh := ex_la (x := la f) (fun w => h1 (by rw [w, la_leaf]))
  have dh := ex_dep xh
  by_cases l3 : stpF n 1 (la (la f)) = .leaf
  · exact two (fun y hy v => by
      rcases stp_in v with w | ⟨-, w | w⟩
      · exact lift y w
      · rw [l3] at w; exact absurd w hy
      · rw [l3] at w; exact w.elim)
  have q2 : ex (stpF n 2 (la f)) (stpF n 1 (la (la f))) := by rw [← stp_la h1]; exact ex_la l2
  have d2 := ex_dep q2
  have p3 := dep_pos l3
  refine ⟨[(stpF n 3 f, 8 - dep (stpF n 3 f)), (stpF n 2 (la f), 8), (stpF n 1 (la (la f)), 8)], by show 8 - dep (stpF n 3 f) + (8 + (8 + 0)) + dep f ≤ 24; omega, fun _ => ?_, fun y hy v => ?_⟩
  · have : 8 - dep (stpF n 3 f) ≤ gsum [(stpF n 3 f, 8 - dep (stpF n 3 f)), (stpF n 2 (la f), 8), (stpF n 1 (la (la f)), 8)] (stpF n 3 f) := gs_mem List.mem_cons_self
    omega
  · rcases stp_in v with w | ⟨-, w | w⟩
    · exact Or.inl w
    · rw [w]; exact Or.inr (gs_mem (List.mem_cons_of_mem _ List.mem_cons_self))
    · rcases stp_in w with u | ⟨-, u | u⟩
      · exact Or.inl (lift y u)
      · rw [u]; exact Or.inr (gs_mem (List.mem_cons_of_mem _ (List.mem_cons_of_mem _ List.mem_cons_self)))
      · rcases stp_in u with z | ⟨z, -⟩
        · exact Or.inl (lift y (ex_in xh z))
        · have := dep_pos z
          have := ex_dep (ex_la (x := la (la f)) h1)
          omega
theorem GW_step {n : Nat} {A : O} {F : O → Nat} (gA : hgd A) (nA : ¬ A = .leaf) (a : HW A F) : GW (stpF n 5 A) F := by
  have xe := ex_la nA
  have de := ex_dep xe
  have d5 := hgd_dep gA
  by_cases e0 : la A = .leaf
  · have sub : ∀ z, ex (stpF n 5 A) z → ex A z := fun z hz => by
      rcases stp_ex hz with w | ⟨w, -⟩
      · exact w
      · exact absurd e0 w
    have no : ∀ z, ¬ ex (la A) z := fun z v => by rw [e0] at v; exact ex_leaf v
    refine HW.g (fun y hy => ?_)
    obtain ⟨a1, a2, a3, a4⟩ := a y hy
    refine ⟨fun e f u v r => a1 e f (sub e u) v r, fun u => ?_, fun e u v _ => a3 e (sub e u) v (no y), fun u _ => a4 (sub y u) (by rw [e0]; exact hy)⟩
    by_cases w : stpF n 5 A = .leaf
    · rw [w, la_leaf] at u; exact (ex_leaf u).elim
    · have := a3 _ (sub _ (ex_la w)) u (no y); omega
  have lT : la (stpF n 5 A) = stpF n 4 (la A) := stp_la e0
  -- the gains, all but those of the last exponent
  have key : ∀ G : List (O × Nat), (∀ y, ¬ y = .leaf → ex (stpF n 4 (la A)) y → 8 ≤ F y + gsum G y + dep y) → (∀ y z, ¬ y = .leaf → ex (stpF n 4 (la A)) z → inS z y → 8 ≤ F y + gsum G y) → (∀ y, ¬ y = .leaf → ex (la A) y → ¬ ex (stpF n 4 (la A)) y → 8 ≤ F y + gsum G y) → HW (stpF n 5 A) (fun y => F y + gsum ((la A, 4) :: G) y) := by
    intro G k1 k2 k3 y hy
    obtain ⟨a1, a2, a3, a4⟩ := a y hy
    have up : F y + gsum G y ≤ F y + gsum ((la A, 4) :: G) y := by
      show _ ≤ F y + (ouif (la A = y) 4 0 + gsum G y); omega
    dsimp only
    rw [lT]
    refine ⟨fun e f u v r => ?_, fun u => ?_, fun e u v r => ?_, fun u v => ?_⟩
    · rcases stp_ex u with w | ⟨-, w⟩
      · have := a1 e f w v r; omega
      · rw [w] at v
        have := k2 y f hy v r; omega
    · have := k1 y hy u; omega
    · rcases stp_ex u with w | ⟨-, w⟩
      · by_cases c : ex (la A) y
        · have := k3 y hy c r; omega
        · have := a3 e w v c; omega
      · rw [w] at v; exact absurd v r
    · rcases stp_ex u with w | ⟨-, w⟩
      · by_cases c : y = la A
        · have : 4 ≤ gsum ((la A, 4) :: G) y := gs_mem (by rw [c]; exact List.mem_cons_self)
          omega
        · have := a4 w c; omega
      · exact absurd w v
  by_cases f0 : la (la A) = .leaf
  · have sub : ∀ z, ex (stpF n 4 (la A)) z → ex (la A) z := fun z hz => by
      rcases stp_ex hz with w | ⟨w, -⟩
      · exact w
      · exact absurd f0 w
    refine ⟨[(la A, 4)], by show 4 + 0 ≤ 28; omega, key [] (fun y hy u => ?_) (fun y z hy u v => ?_) (fun y hy u v => ?_)⟩
    · have := (a y hy).2.1 (sub y u); omega
    · have := (a y hy).1 _ z xe (sub z u) v; omega
    · exact absurd (stp_keep u (by rw [f0]; exact hy)) v
  · have xf := ex_la e0
    have df := ex_dep xf
    obtain ⟨G, t, c1, c2⟩ := stp_gf (n := n) f0 (by omega)
    have up : ∀ y, gsum G y ≤ gsum ((la (la A), dep (la (la A))) :: G) y := fun y => by
      show _ ≤ ouif (la (la A) = y) (dep (la (la A))) 0 + gsum G y; omega
    refine ⟨(la A, 4) :: (la (la A), dep (la (la A))) :: G, by show 4 + (dep (la (la A)) + gtot G) ≤ 28; omega, key _ (fun y hy u => ?_) (fun y z hy u v => ?_) (fun y hy u v => ?_)⟩
    · have up := up y
      rcases stp_ex u with w | ⟨-, w⟩
      · have := (a y hy).2.1 w; omega
      · have := c1 (by rw [← w]; exact hy)
        rw [← w] at this
        omega
    · have up := up y
      rcases stp_ex u with w | ⟨-, w⟩
      · have := (a y hy).1 _ z xe w v; omega
      · rw [w] at v
        rcases c2 y hy v with s | s
        · have := (a y hy).1 _ _ xe xf s; omega
        · omega
    · by_cases c : y = la (la A)
      · have h1 := (a y hy).2.1 u
        have h2 : dep (la (la A)) ≤ gsum ((la (la A), dep (la (la A))) :: G) y := gs_mem (by rw [c]; exact List.mem_cons_self)
        rw [← c] at h2
        rw [← c]
        omega
      · exact absurd (stp_keep u c) v
theorem src_GW {S : XS} {x : O} {F : O → Nat} (H : HG S) (g : hgd x) (s : Src S x) (h : ∀ p, p < 16 → S.1 p = 1 → HW (S.2.1 p) F) : GW x F := by
  rcases s with w | ⟨q, q1, q2, w | ⟨pr, w1, w⟩ | ⟨n, -, -, w1, -, w⟩⟩ | ⟨q, r, q1, r1, q2, r2, w | w | w | w⟩
  · exact (HW_fin w).g
  · rw [w] at g ⊢; exact GW_omega (H q q1 q2) g (h q q1 q2)
  · rw [w]; exact (HW_ex (H q q1 q2) (h q q1 q2) ⟨pr, w1, rfl⟩).g
  · rw [w]; exact GW_step (H q q1 q2) w1 (h q q1 q2)
  · rw [w]; exact GW_add (H q q1 q2) (h q q1 q2) (h r r1 r2)
  · rw [w] at g ⊢; exact GW_na (H q q1 q2) (H r r1 r2) g (h q q1 q2) (h r r1 r2)
  · rw [w] at g ⊢; exact GW_mul (H q q1 q2) (H r r1 r2) g (h q q1 q2) (h r r1 r2)
  · rw [w] at g ⊢; exact GW_nm (H q q1 q2) (H r r1 r2) g (h q q1 q2) (h r r1 r2)
/-- n calls: 28 for each is enough -/
def BW (n : Nat) (S : XS) : Prop := ∃ F : O → Nat, (∀ xs : List O, xs.Nodup → fsum F xs ≤ 28 * n) ∧ ∀ p, p < 16 → S.1 p = 1 → HW (S.2.1 p) F
theorem fsum_z : ∀ xs : List O, fsum (fun _ => 0) xs = 0 := by
  intro xs
  induction xs with
  | nil => rfl
  | cons x xs ih => show 0 + fsum (fun _ => 0) xs = 0; omega
theorem BW_0 : BW 0 S_0 := ⟨fun _ => 0, fun xs _ => by rw [fsum_z]; exact Nat.zero_le _, fun p _ w => absurd w (by show ¬ (0 : Int32) = 1; decide)⟩
theorem BW_s {n : Nat} {S : XS} (h : BW n S) : BW (n + 1) S := by
  obtain ⟨F, h1, h2⟩ := h
  exact ⟨F, fun xs hx => by have := h1 xs hx; omega, h2⟩
theorem BW_c {n : Nat} {S S2 : XS} (h : BW n S) (H : HG S) (H2 : HG S2) (c : Chg S S2) : BW (n + 1) S2 := by
  obtain ⟨F, h1, h2⟩ := id h
  have le : ∀ xs : List O, xs.Nodup → fsum F xs ≤ 28 * (n + 1) := fun xs hx => by have := h1 xs hx; omega
  have oth : ∀ (p : Nat) (kd : Int32), ¬ kd = 1 → ∀ q, q < 16 → upw S.1 p kd q = 1 → HW (S.2.1 q) F := fun p kd hk q hq w => by
    by_cases z : q = p
    · rw [z, upw_e] at w; exact absurd w hk
    · rw [upw_n _ _ z] at w; exact h2 q hq w
  rcases c with rfl | ⟨p, hp, rfl | ⟨z, -, rfl⟩ | ⟨L, -, rfl⟩ | ⟨x, s, rfl⟩⟩
  · exact BW_s h
  · exact ⟨F, le, oth p 0 (by decide)⟩
  · exact ⟨F, le, oth p 2 (by decide)⟩
  · exact ⟨F, le, oth p 3 (by decide)⟩
  · have g : hgd x := by
      have := H2 p hp (upw_e S.1 p 1)
      have e : (sO S p x).2.1 p = x := upw_e S.2.1 p x
      rw [e] at this; exact this
    obtain ⟨G, t, w⟩ := src_GW H g s h2
    refine ⟨fun y => F y + gsum G y, fun xs hx => ?_, fun q hq hk => ?_⟩
    · have a := h1 xs hx
      have b := fsum_gs hx G
      rw [fsum_add F (gsum G)]
      omega
    · by_cases z : q = p
      · rw [z]; show HW (upw S.2.1 p x p) _; rw [upw_e]; exact w
      · show HW (upw S.2.1 p x q) _
        rw [upw_n _ _ z]
        exact (h2 q hq ((upw_n S.1 1 z).symm.trans hk)).up (fun y => Nat.le_add_right _ _)
