/-! ===== layer 2: one row for each instruction that reads or writes the heap ===== -/
theorem Ex.hp {d : Nat} {hs : XHs} {tb : List (Option XI)} {pc : Nat} {L : XL} {st : List Value} {h : XH} {P : XO → XH → Prop} {ins : Instr} {a b c : Nat} {v : Int32} {w : Int64} {r : Option XR} (ht : tb[pc]? = some (some (ins, a, b, c, v, w))) (hp : xpure pc ins a v w L st = none) (hm : ∀ c2, xeff c2 hs pc ins a b c L st h = r) (H : Rs d hs tb r P) : Ex d hs tb (pc, L, st) h P := by
  refine Ex.st (fun c2 => ?_) H
  unfold xstp
  rw [ht]
  (try dsimp only)
  rw [hp]
  exact hm c2
section
variable {d : Nat} {hs : XHs} {tb : List (Option XI)} {pc : Nat} {L : XL} {st : List Value} {h : XH} {P : XO → XH → Prop} {a b c q : Nat} {v : Int32} {w : Int64}
theorem Ex.getI {i : Nat} {rs : List (Option Nat)} (ht : tb[pc]? = some (some (.getfield i, a, b, c, v, w))) (hc : c = 0 ∨ c = 3) (hq : h.1[q]? = some (0, a, rs)) (H : Ex d hs tb (pc + 3, L, .int (h.2.1 q b) :: st) h P) : Ex d hs tb (pc, L, .ref q :: st) h P := by
  refine Ex.hp ht rfl (r := some (.inl ((pc + 3, L, .int (h.2.1 q b) :: st), h))) (fun c2 => ?_) H
  show xmem pc (.getfield i) a b c L (.ref q :: st) h = _
  unfold xmem
  (try dsimp only)
  rw [hq]
  show (if a = a then _ else (none : Option XR)) = _
  rw [if_pos rfl]
  rcases hc with z | z <;> subst z <;> rfl
theorem Ex.getJ {i : Nat} {rs : List (Option Nat)} (ht : tb[pc]? = some (some (.getfield i, a, b, 1, v, w))) (hq : h.1[q]? = some (0, a, rs)) (H : Ex d hs tb (pc + 3, L, .long (h.2.2.1 q b) :: st) h P) : Ex d hs tb (pc, L, .ref q :: st) h P := by
  refine Ex.hp ht rfl (r := some (.inl ((pc + 3, L, .long (h.2.2.1 q b) :: st), h))) (fun c2 => ?_) H
  show xmem pc (.getfield i) a b 1 L (.ref q :: st) h = _
  unfold xmem
  (try dsimp only)
  rw [hq]
  show (if a = a then _ else (none : Option XR)) = _
  rw [if_pos rfl]
  rfl
theorem Ex.getQ {i : Nat} {rs : List (Option Nat)} {x : Nat} (ht : tb[pc]? = some (some (.getfield i, a, b, 2, v, w))) (hq : h.1[q]? = some (0, a, rs)) (hx : rs[b]? = some (some x)) (H : Ex d hs tb (pc + 3, L, .ref x :: st) h P) : Ex d hs tb (pc, L, .ref q :: st) h P := by
  refine Ex.hp ht rfl (r := some (.inl ((pc + 3, L, .ref x :: st), h))) (fun c2 => ?_) H
  show xmem pc (.getfield i) a b 2 L (.ref q :: st) h = _
  unfold xmem
  (try dsimp only)
  rw [hq]
  show (if a = a then _ else (none : Option XR)) = _
  rw [if_pos rfl]
  have hg : rs.getD b none = some x := by rw [List.getD_eq_getElem?_getD, hx]; rfl
  rw [hg]
  rfl
theorem Ex.putI {i : Nat} {rs : List (Option Nat)} {x : Int32} (ht : tb[pc]? = some (some (.putfield i, a, b, 0, v, w))) (hq : h.1[q]? = some (0, a, rs)) (H : Ex d hs tb (pc + 3, L, st) (x_setI h q b x) P) : Ex d hs tb (pc, L, .int x :: .ref q :: st) h P := by
  refine Ex.hp ht rfl (r := some (.inl ((pc + 3, L, st), x_setI h q b x))) (fun c2 => ?_) H
  show xmem pc (.putfield i) a b 0 L (.int x :: .ref q :: st) h = _
  unfold xmem
  (try dsimp only)
  rw [hq]
  show (if a = a then _ else (none : Option XR)) = _
  rw [if_pos rfl]
  rfl
theorem Ex.putZ {i : Nat} {rs : List (Option Nat)} {x : Int32} (ht : tb[pc]? = some (some (.putfield i, a, b, 3, v, w))) (hq : h.1[q]? = some (0, a, rs)) (hx : x = 0 ∨ x = 1) (H : Ex d hs tb (pc + 3, L, st) (x_setI h q b x) P) : Ex d hs tb (pc, L, .int x :: .ref q :: st) h P := by
  refine Ex.hp ht rfl (r := some (.inl ((pc + 3, L, st), x_setI h q b x))) (fun c2 => ?_) H
  show xmem pc (.putfield i) a b 3 L (.int x :: .ref q :: st) h = _
  unfold xmem
  (try dsimp only)
  rw [hq]
  show (if a = a then _ else (none : Option XR)) = _
  rw [if_pos rfl]
  show (if x = 0 ∨ x = 1 then _ else (none : Option XR)) = _
  rw [if_pos hx]
  rfl
theorem Ex.putJ {i : Nat} {rs : List (Option Nat)} {x : Int64} (ht : tb[pc]? = some (some (.putfield i, a, b, 1, v, w))) (hq : h.1[q]? = some (0, a, rs)) (H : Ex d hs tb (pc + 3, L, st) (x_setJ h q b x) P) : Ex d hs tb (pc, L, .long x :: .ref q :: st) h P := by
  refine Ex.hp ht rfl (r := some (.inl ((pc + 3, L, st), x_setJ h q b x))) (fun c2 => ?_) H
  show xmem pc (.putfield i) a b 1 L (.long x :: .ref q :: st) h = _
  unfold xmem
  (try dsimp only)
  rw [hq]
  show (if a = a ∧ 1 = 1 then _ else (none : Option XR)) = _
  rw [if_pos ⟨rfl, rfl⟩]
  rfl
theorem Ex.putQ {i : Nat} {rs : List (Option Nat)} {x : Nat} (ht : tb[pc]? = some (some (.putfield i, a, b, 2, v, w))) (hq : h.1[q]? = some (0, a, rs)) (hb : b < rs.length) (H : Ex d hs tb (pc + 3, L, st) (x_setT h q (0, a, rs.set b (some x))) P) : Ex d hs tb (pc, L, .ref x :: .ref q :: st) h P := by
  refine Ex.hp ht rfl (r := some (.inl ((pc + 3, L, st), x_setT h q (0, a, rs.set b (some x))))) (fun c2 => ?_) H
  show xmem pc (.putfield i) a b 2 L (.ref x :: .ref q :: st) h = _
  unfold xmem
  (try dsimp only)
  rw [hq]
  show (if a = a ∧ 2 = 2 ∧ b < rs.length then _ else (none : Option XR)) = _
  rw [if_pos ⟨rfl, rfl, hb⟩]
  rfl
theorem Ex.iald {k n : Nat} {rs : List (Option Nat)} {j : Int32} (ht : tb[pc]? = some (some (.iaload, a, b, c, v, w))) (hk : k = 1 ∨ k = 5) (hq : h.1[q]? = some (k, n, rs)) (hj : ¬ (j < 0 ∨ n ≤ j.toNatClampNeg)) (H : Ex d hs tb (pc + 1, L, .int (h.2.1 q j.toNatClampNeg) :: st) h P) : Ex d hs tb (pc, L, .int j :: .ref q :: st) h P := by
  refine Ex.hp ht rfl (r := some (.inl ((pc + 1, L, .int (h.2.1 q j.toNatClampNeg) :: st), h))) (fun c2 => ?_) H
  show xmem pc .iaload a b c L (.int j :: .ref q :: st) h = _
  unfold xmem
  (try dsimp only)
  rw [hq]
  rcases hk with z | z <;> subst z <;> (show (if j < 0 ∨ n ≤ j.toNatClampNeg then (none : Option XR) else _) = _) <;> rw [if_neg hj] <;> rfl
theorem Ex.lald {n : Nat} {rs : List (Option Nat)} {j : Int32} (ht : tb[pc]? = some (some (.laload, a, b, c, v, w))) (hq : h.1[q]? = some (2, n, rs)) (hj : ¬ (j < 0 ∨ n ≤ j.toNatClampNeg)) (H : Ex d hs tb (pc + 1, L, .long (h.2.2.1 q j.toNatClampNeg) :: st) h P) : Ex d hs tb (pc, L, .int j :: .ref q :: st) h P := by
  refine Ex.hp ht rfl (r := some (.inl ((pc + 1, L, .long (h.2.2.1 q j.toNatClampNeg) :: st), h))) (fun c2 => ?_) H
  show xmem pc .laload a b c L (.int j :: .ref q :: st) h = _
  unfold xmem
  (try dsimp only)
  rw [hq]
  show (if j < 0 ∨ n ≤ j.toNatClampNeg then (none : Option XR) else _) = _
  rw [if_neg hj]
  rfl
theorem Ex.aald {n x : Nat} {rs : List (Option Nat)} {j : Int32} (ht : tb[pc]? = some (some (.aaload, a, b, c, v, w))) (hq : h.1[q]? = some (3, n, rs)) (hj : ¬ (j < 0 ∨ n ≤ j.toNatClampNeg)) (hx : rs[j.toNatClampNeg]? = some (some x)) (H : Ex d hs tb (pc + 1, L, .ref x :: st) h P) : Ex d hs tb (pc, L, .int j :: .ref q :: st) h P := by
  refine Ex.hp ht rfl (r := some (.inl ((pc + 1, L, .ref x :: st), h))) (fun c2 => ?_) H
  show xmem pc .aaload a b c L (.int j :: .ref q :: st) h = _
  unfold xmem
  (try dsimp only)
  rw [hq]
  show (if j < 0 ∨ n ≤ j.toNatClampNeg then (none : Option XR) else _) = _
  rw [if_neg hj]
  have hg : rs.getD j.toNatClampNeg none = some x := by rw [List.getD_eq_getElem?_getD, hx]; rfl
  rw [hg]
  rfl
theorem Ex.iast {n : Nat} {rs : List (Option Nat)} {j x : Int32} (ht : tb[pc]? = some (some (.iastore, a, b, c, v, w))) (hq : h.1[q]? = some (1, n, rs)) (hj : ¬ (j < 0 ∨ n ≤ j.toNatClampNeg)) (H : Ex d hs tb (pc + 1, L, st) (x_setI h q j.toNatClampNeg x) P) : Ex d hs tb (pc, L, .int x :: .int j :: .ref q :: st) h P := by
  refine Ex.hp ht rfl (r := some (.inl ((pc + 1, L, st), x_setI h q j.toNatClampNeg x))) (fun c2 => ?_) H
  show xmem pc .iastore a b c L (.int x :: .int j :: .ref q :: st) h = _
  unfold xmem
  (try dsimp only)
  rw [hq]
  show (if j < 0 ∨ n ≤ j.toNatClampNeg then (none : Option XR) else _) = _
  rw [if_neg hj]
  rfl
theorem Ex.last {n : Nat} {rs : List (Option Nat)} {j : Int32} {x : Int64} (ht : tb[pc]? = some (some (.lastore, a, b, c, v, w))) (hq : h.1[q]? = some (2, n, rs)) (hj : ¬ (j < 0 ∨ n ≤ j.toNatClampNeg)) (H : Ex d hs tb (pc + 1, L, st) (x_setJ h q j.toNatClampNeg x) P) : Ex d hs tb (pc, L, .long x :: .int j :: .ref q :: st) h P := by
  refine Ex.hp ht rfl (r := some (.inl ((pc + 1, L, st), x_setJ h q j.toNatClampNeg x))) (fun c2 => ?_) H
  show xmem pc .lastore a b c L (.long x :: .int j :: .ref q :: st) h = _
  unfold xmem
  (try dsimp only)
  rw [hq]
  show (if j < 0 ∨ n ≤ j.toNatClampNeg then (none : Option XR) else _) = _
  rw [if_neg hj]
  rfl
theorem Ex.aast {n x ts : Nat} {rs us : List (Option Nat)} {j : Int32} (ht : tb[pc]? = some (some (.aastore, a, b, c, v, w))) (hq : h.1[q]? = some (3, n, rs)) (hx : h.1[x]? = some (0, 1, us)) (hj : ¬ (j < 0 ∨ n ≤ j.toNatClampNeg ∨ rs.length ≤ j.toNatClampNeg)) (H : Ex d hs tb (pc + 1, L, st) (x_setT h q (3, n, rs.set j.toNatClampNeg (some x))) P) : Ex d hs tb (pc, L, .ref x :: .int j :: .ref q :: st) h P := by
  refine Ex.hp ht rfl (r := some (.inl ((pc + 1, L, st), x_setT h q (3, n, rs.set j.toNatClampNeg (some x))))) (fun c2 => ?_) H
  show xmem pc .aastore a b c L (.ref x :: .int j :: .ref q :: st) h = _
  unfold xmem
  (try dsimp only)
  rw [hq, hx]
  show (if j < 0 ∨ n ≤ j.toNatClampNeg ∨ rs.length ≤ j.toNatClampNeg then (none : Option XR) else _) = _
  rw [if_neg hj]
  rfl
theorem Ex.alen {k n : Nat} {rs : List (Option Nat)} (ht : tb[pc]? = some (some (.arraylength, a, b, c, v, w))) (hk : k = 1 ∨ k = 2 ∨ k = 3 ∨ k = 5) (hq : h.1[q]? = some (k, n, rs)) (H : Ex d hs tb (pc + 1, L, .int (Int32.ofNat n) :: st) h P) : Ex d hs tb (pc, L, .ref q :: st) h P := by
  refine Ex.hp ht rfl (r := some (.inl ((pc + 1, L, .int (Int32.ofNat n) :: st), h))) (fun c2 => ?_) H
  show xmem pc .arraylength a b c L (.ref q :: st) h = _
  unfold xmem
  (try dsimp only)
  rw [hq]
  rcases hk with z | z | z | z <;> subst z <;> rfl
theorem Ex.newA {i : ArrayType} {n : Int32} (ht : tb[pc]? = some (some (.newarray i, a, b, c, v, w))) (hn : ¬ (n < 0 ∨ 67108864 < n.toNatClampNeg)) (H : Ex d hs tb (pc + 2, L, .ref h.1.length :: st) (x_new h (a, n.toNatClampNeg, []) n.toNatClampNeg) P) : Ex d hs tb (pc, L, .int n :: st) h P := by
  refine Ex.hp ht rfl (r := some (.inl ((pc + 2, L, .ref h.1.length :: st), x_new h (a, n.toNatClampNeg, []) n.toNatClampNeg))) (fun c2 => ?_) H
  show xmem pc (.newarray i) a b c L (.int n :: st) h = _
  unfold xmem
  (try dsimp only)
  rw [if_neg hn]
  rfl
theorem Ex.newR {i : Nat} {n : Int32} (ht : tb[pc]? = some (some (.anewarray i, a, b, c, v, w))) (hn : ¬ (n < 0 ∨ 67108864 < n.toNatClampNeg)) (H : Ex d hs tb (pc + 3, L, .ref h.1.length :: st) (x_new h (3, n.toNatClampNeg, List.replicate n.toNatClampNeg none) n.toNatClampNeg) P) : Ex d hs tb (pc, L, .int n :: st) h P := by
  refine Ex.hp ht rfl (r := some (.inl ((pc + 3, L, .ref h.1.length :: st), x_new h (3, n.toNatClampNeg, List.replicate n.toNatClampNeg none) n.toNatClampNeg))) (fun c2 => ?_) H
  show xmem pc (.anewarray i) a b c L (.int n :: st) h = _
  unfold xmem
  (try dsimp only)
  rw [if_neg hn]
  rfl
theorem Ex.newO {i : Nat} (ht : tb[pc]? = some (some (.new i, a, b, 0, v, w))) (H : Ex d hs tb (pc + 3, L, .ref h.1.length :: st) (x_new h (0, a, List.replicate b none) b) P) : Ex d hs tb (pc, L, st) h P := by
  refine Ex.hp ht rfl (r := some (.inl ((pc + 3, L, .ref h.1.length :: st), x_new h (0, a, List.replicate b none) b))) (fun c2 => ?_) H
  rfl
theorem Ex.thr {i : Nat} (ht : tb[pc]? = some (some (.new i, a, b, 1, v, w))) (hst : x_cats st ≤ 8) (H : P (.inr a) (x_new h (4, a, []) 6)) : Ex d hs tb (pc, L, st) h P := by
  refine Ex.hp ht rfl (r := some (.inr (.inr a, x_new h (4, a, []) 6))) (fun c2 => ?_) H
  show (if x_cats st ≤ 8 then _ else _) = _
  rw [if_pos hst]
theorem Ex.iret {x : Int32} (ht : tb[pc]? = some (some (.ireturn, a, b, c, v, w))) (ha : a = 1 ∨ a = 2 ∧ (x = 0 ∨ x = 1)) (H : P (.inl (some (.int x))) h) : Ex d hs tb (pc, L, [.int x]) h P := by
  refine Ex.hp ht rfl (r := some (.inr (.inl (some (.int x)), h))) (fun c2 => ?_) H
  show (if a = 1 ∨ a = 2 ∧ (x = 0 ∨ x = 1) then _ else _) = _
  rw [if_pos ha]
theorem Ex.lret {x : Int64} (ht : tb[pc]? = some (some (.lreturn, a, b, c, v, w))) (H : P (.inl (some (.long x))) h) : Ex d hs tb (pc, L, [.long x]) h P :=
  Ex.hp ht rfl (r := some (.inr (.inl (some (.long x)), h))) (fun _ => rfl) H
theorem Ex.aret {x : Nat} (ht : tb[pc]? = some (some (.areturn, a, b, c, v, w))) (H : P (.inl (some (.ref x))) h) : Ex d hs tb (pc, L, [.ref x]) h P :=
  Ex.hp ht rfl (r := some (.inr (.inl (some (.ref x)), h))) (fun _ => rfl) H
theorem Ex.vret (ht : tb[pc]? = some (some (.return_, a, b, c, v, w))) (H : P (.inl none) h) : Ex d hs tb (pc, L, []) h P :=
  Ex.hp ht rfl (r := some (.inr (.inl none, h))) (fun _ => rfl) H
end
