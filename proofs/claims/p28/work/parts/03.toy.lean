/-! ===== the toy machine: a heap of handles, the decoded instructions, calls by number ===== -/
/-- the shape of a cell: 0 an object (its class's number; its references by slot), 1 ints, 2 longs, 3 references (length; references), 4 an exception, 5 the script -/
abbrev XT : Type := Nat × Nat × List (Option Nat)
/-- shapes by handle; ints and longs by handle and slot; slots used -/
abbrev XH : Type := List XT × (Nat → Nat → Int32) × (Nat → Nat → Int64) × Nat
abbrev XL : Type := List (Option Value)
/-- returned, or threw the exception of that number -/
abbrev XO : Type := Option Value ⊕ Nat
/-- an instruction with what it means: numbers a, b, c, an int, a long -/
abbrev XI : Type := Instr × Nat × Nat × Nat × Int32 × Int64
abbrev XF : Type := Nat × XL × List Value
abbrev XR : Type := (XF × XH) ⊕ (XO × XH)
def x_u1 {α : Type} (f : Nat → α) (k : Nat) (v : α) : Nat → α := fun b => if b = k then v else f b
def x_u2 {α : Type} (f : Nat → Nat → α) (h k : Nat) (v : α) : Nat → Nat → α := fun a => if a = h then x_u1 (f a) k v else f a
def x_cl (L : XL) (k : Nat) : XL := match k with
  | 0 => L
  | j + 1 => match L[j]? with
    | some (some (.long _)) => L.set j none
    | some (some (.double _)) => L.set j none
    | _ => L
def x_s1 (L : XL) (k : Nat) (v : Value) : XL := (x_cl L k).set k (some v)
def x_s2 (L : XL) (k : Nat) (v : Value) : XL := ((x_cl L k).set k (some v)).set (k + 1) none
def x_ldI (L : XL) (k : Nat) (f : Int32 → XF) : Option XF := match L[k]? with
  | some (some (.int x)) => some (f x)
  | _ => none
def x_ldL (L : XL) (k : Nat) (f : Int64 → XF) : Option XF := match L[k]? with
  | some (some (.long x)) => some (f x)
  | _ => none
def x_ldA (L : XL) (k : Nat) (f : Nat → XF) (g : XF) : Option XF := match L[k]? with
  | some (some (.ref x)) => some (f x)
  | some (some .null) => some g
  | _ => none
def x_if (b : Prop) [Decidable b] (x y : XF) : Option XF := some (if b then x else y)
/-- what an instruction does that neither reads nor writes the heap -/
def xpure (pc : Nat) (ins : Instr) (a : Nat) (v : Int32) (w : Int64) (L : XL) (st : List Value) : Option XF :=
  match ins, st with
  | .iconst _, st => some (pc + 1, L, .int v :: st)
  | .bipush _, st => some (pc + 2, L, .int v :: st)
  | .sipush _, st => some (pc + 3, L, .int v :: st)
  | .lconst _, st => some (pc + 1, L, .long w :: st)
  | .aconst_null, st => some (pc + 1, L, .null :: st)
  | .ldc _, st => some (pc + 2, L, .int v :: st)
  | .ldc_w _, st => some (pc + 3, L, .int v :: st)
  | .ldc2_w _, st => some (pc + 3, L, .long w :: st)
  | .iload k, st => x_ldI L k fun x => (pc + 2, L, .int x :: st)
  | .iload_n k, st => x_ldI L k fun x => (pc + 1, L, .int x :: st)
  | .lload k, st => x_ldL L k fun x => (pc + 2, L, .long x :: st)
  | .lload_n k, st => x_ldL L k fun x => (pc + 1, L, .long x :: st)
  | .aload k, st => x_ldA L k (fun x => (pc + 2, L, .ref x :: st)) (pc + 2, L, .null :: st)
  | .aload_n k, st => x_ldA L k (fun x => (pc + 1, L, .ref x :: st)) (pc + 1, L, .null :: st)
  | .istore k, .int x :: st => if k < L.length then some (pc + 2, x_s1 L k (.int x), st) else none
  | .istore_n k, .int x :: st => if (k : Nat) < L.length then some (pc + 1, x_s1 L k (.int x), st) else none
  | .lstore k, .long x :: st => if k + 1 < L.length then some (pc + 2, x_s2 L k (.long x), st) else none
  | .lstore_n k, .long x :: st => if (k : Nat) + 1 < L.length then some (pc + 1, x_s2 L k (.long x), st) else none
  | .astore k, .ref x :: st => if k < L.length then some (pc + 2, x_s1 L k (.ref x), st) else none
  | .astore_n k, .ref x :: st => if (k : Nat) < L.length then some (pc + 1, x_s1 L k (.ref x), st) else none
  | .iinc k _, st => if k < L.length then x_ldI L k (fun x => (pc + 3, x_s1 L k (.int (x + v)), st)) else none
  | .iadd, .int y :: .int x :: st => some (pc + 1, L, .int (x + y) :: st)
  | .isub, .int y :: .int x :: st => some (pc + 1, L, .int (x - y) :: st)
  | .imul, .int y :: .int x :: st => some (pc + 1, L, .int (x * y) :: st)
  | .iand, .int y :: .int x :: st => some (pc + 1, L, .int (x &&& y) :: st)
  | .ishl, .int y :: .int x :: st => some (pc + 1, L, .int (x <<< (y &&& 31)) :: st)
  | .ishr, .int y :: .int x :: st => some (pc + 1, L, .int (x >>> (y &&& 31)) :: st)
  | .ladd, .long y :: .long x :: st => some (pc + 1, L, .long (x + y) :: st)
  | .lsub, .long y :: .long x :: st => some (pc + 1, L, .long (x - y) :: st)
  | .lmul, .long y :: .long x :: st => some (pc + 1, L, .long (x * y) :: st)
  | .land, .long y :: .long x :: st => some (pc + 1, L, .long (x &&& y) :: st)
  | .ldiv, .long y :: .long x :: st => if y = 0 then none else some (pc + 1, L, .long (x / y) :: st)
  | .lrem, .long y :: .long x :: st => if y = 0 then none else some (pc + 1, L, .long (x - x / y * y) :: st)
  | .lshl, .int y :: .long x :: st => some (pc + 1, L, .long (x <<< (y.toInt64 &&& 63)) :: st)
  | .lshr, .int y :: .long x :: st => some (pc + 1, L, .long (x >>> (y.toInt64 &&& 63)) :: st)
  | .i2l, .int x :: st => some (pc + 1, L, .long x.toInt64 :: st)
  | .l2i, .long x :: st => some (pc + 1, L, .int x.toInt32 :: st)
  | .lcmp, .long y :: .long x :: st => some (pc + 1, L, .int (lg_cmp x y) :: st)
  | .dup, .int x :: st => some (pc + 1, L, .int x :: .int x :: st)
  | .dup, .ref x :: st => some (pc + 1, L, .ref x :: .ref x :: st)
  | .dup2, .int y :: .ref x :: st => some (pc + 1, L, .int y :: .ref x :: .int y :: .ref x :: st)
  | .pop, .int _ :: st => some (pc + 1, L, st)
  | .ifCond .eq _, .int x :: st => x_if (x = 0) (a, L, st) (pc + 3, L, st)
  | .ifCond .ne _, .int x :: st => x_if (¬ x = 0) (a, L, st) (pc + 3, L, st)
  | .ifCond .lt _, .int x :: st => x_if (x < 0) (a, L, st) (pc + 3, L, st)
  | .ifCond .ge _, .int x :: st => x_if (0 ≤ x) (a, L, st) (pc + 3, L, st)
  | .ifCond .gt _, .int x :: st => x_if (0 < x) (a, L, st) (pc + 3, L, st)
  | .ifCond .le _, .int x :: st => x_if (x ≤ 0) (a, L, st) (pc + 3, L, st)
  | .if_icmp .eq _, .int y :: .int x :: st => x_if (x = y) (a, L, st) (pc + 3, L, st)
  | .if_icmp .ne _, .int y :: .int x :: st => x_if (¬ x = y) (a, L, st) (pc + 3, L, st)
  | .if_icmp .lt _, .int y :: .int x :: st => x_if (x < y) (a, L, st) (pc + 3, L, st)
  | .if_icmp .ge _, .int y :: .int x :: st => x_if (y ≤ x) (a, L, st) (pc + 3, L, st)
  | .if_icmp .gt _, .int y :: .int x :: st => x_if (y < x) (a, L, st) (pc + 3, L, st)
  | .if_icmp .le _, .int y :: .int x :: st => x_if (x ≤ y) (a, L, st) (pc + 3, L, st)
  | .ifnull _, .ref _ :: st => some (pc + 3, L, st)
  | .ifnull _, .null :: st => some (a, L, st)
  | .ifnonnull _, .ref _ :: st => some (a, L, st)
  | .ifnonnull _, .null :: st => some (pc + 3, L, st)
  | .goto _, st => some (a, L, st)
  | .tableswitch d lo hi os, .int x :: st =>
    some ((if x.toInt < lo ∨ hi < x.toInt then ((pc : Int) + d).toNat else ((pc : Int) + os.getD (x.toInt - lo).toNat 0).toNat), L, st)
  | .ior, .int y :: .int x :: st => some (pc + 1, L, .int (x ||| y) :: st)
  | .ineg, .int x :: st => some (pc + 1, L, .int (-x) :: st)
  | .idiv, .int y :: .int x :: st => if y = 0 then none else some (pc + 1, L, .int (x / y) :: st)
  | .irem, .int y :: .int x :: st => if y = 0 then none else some (pc + 1, L, .int (x - x / y * y) :: st)
  | _, _ => none
/-- a cell more, its numbers 0 -/
def x_new (h : XH) (t : XT) (z : Nat) : XH := (h.1 ++ [t], (fun q => if q = h.1.length then (fun _ => 0) else h.2.1 q), (fun q => if q = h.1.length then (fun _ => 0) else h.2.2.1 q), h.2.2.2 + z)
def x_setI (h : XH) (q k : Nat) (v : Int32) : XH := (h.1, x_u2 h.2.1 q k v, h.2.2.1, h.2.2.2)
def x_setJ (h : XH) (q k : Nat) (v : Int64) : XH := (h.1, h.2.1, x_u2 h.2.2.1 q k v, h.2.2.2)
def x_setT (h : XH) (q : Nat) (t : XT) : XH := (h.1.set q t, h.2.1, h.2.2.1, h.2.2.2)
/-- 'from' copied over the first n of 'to' -/
def x_copy (h : XH) (from_ to n : Nat) : XH := (h.1, (fun q => if q = to then (fun j => if j < n then h.2.1 from_ j else h.2.1 to j) else h.2.1 q), h.2.2.1, h.2.2.2)
def x_bad (j : Int32) (n : Nat) : Prop := j < 0 ∨ n ≤ j.toNatClampNeg
def x_go (pc : Nat) (L : XL) (st : List Value) (h : XH) : Option XR := some (.inl ((pc, L, st), h))
/-- the handler of an exception: its row of the method's table, the local where it is laid, the width of that store -/
def x_hand (hs : List (Nat × Nat × Nat × Nat × Nat × Nat)) (pc ex : Nat) : Option (Nat × Nat) := match hs with
  | [] => none
  | (s, e, hp, x, k, w) :: hs => if s ≤ pc ∧ pc < e ∧ x = ex then some (hp + w, k) else x_hand hs pc ex
def x_back (hs : List (Nat × Nat × Nat × Nat × Nat × Nat)) (pc : Nat) (L : XL) (rest : List Value) (r : Option (XO × XH)) : Option XR := match r with
  | none => none
  | some (.inl v, h) => x_go (pc + 3) L (v.toList ++ rest) h
  | some (.inr ex, h) => match x_hand hs pc ex with
    | none => (match hs with
      | [] => some (.inr (.inr ex, h))
      | _ => none)
    | some (p2, k) => if k < L.length then x_go p2 ((x_cl L k).set k none) [] h else none
def x_cats (st : List Value) : Nat := (st.map fun v => v.category).sum
/-- calls -/
def xinvS (call : Nat → List Value → XH → Option (XO × XH)) (hs : List (Nat × Nat × Nat × Nat × Nat × Nat)) (pc : Nat) (a b c : Nat) (L : XL) (st : List Value) (h : XH) : Option XR :=
  if b ≤ st.length ∧ x_cats (st.drop b) ≤ 8 then (match c with
    | 0 => x_back hs pc L (st.drop b) (call a (st.take b).reverse h)
    | 1 => (match st with
      | .int y :: .int x :: st => x_go (pc + 3) L (.int (if x < y then y else x) :: st) h
      | _ => none)
    | 2 => (match st with
      | .int y :: .int x :: st => x_go (pc + 3) L (.int (if y < x then y else x) :: st) h
      | _ => none)
    | 3 => (match st with
      | .long y :: .long x :: st => x_go (pc + 3) L (.long (if y < x then x else y) :: st) h
      | _ => none)
    | 4 => (match st with
      | .long y :: .long x :: st => x_go (pc + 3) L (.long (if y < x then y else x) :: st) h
      | _ => none)
    | 6 => (match st with
      | .int n :: .int dp :: .ref q :: .int sp :: .ref q0 :: st => (match h.1[q0]?, h.1[q]? with
        | some (1, n0, _), some (1, n1, _) => if n < 0 ∨ ¬ dp = 0 ∨ ¬ sp = 0 ∨ n0 < n.toNatClampNeg ∨ n1 < n.toNatClampNeg ∨ q0 = q then none else x_go (pc + 3) L st (x_copy h q0 q n.toNatClampNeg)
        | _, _ => none)
      | _ => none)
    | _ => none) else none
def xinvV (call : Nat → List Value → XH → Option (XO × XH)) (hs : List (Nat × Nat × Nat × Nat × Nat × Nat)) (pc : Nat) (a b c : Nat) (L : XL) (st : List Value) (h : XH) : Option XR :=
  if b ≤ st.length ∧ x_cats (st.drop b) ≤ 8 then (match (st.take b).reverse with
    | .ref q :: vs => (match h.1[q]? with
      | some (0, ci, _) => if ci = c then x_back hs pc L (st.drop b) (call a (.ref q :: vs) h) else none
      | _ => none)
    | _ => none) else none
def xinvI (call : Nat → List Value → XH → Option (XO × XH)) (hs : List (Nat × Nat × Nat × Nat × Nat × Nat)) (pc : Nat) (a b c : Nat) (L : XL) (st : List Value) (h : XH) : Option XR :=
  if b ≤ st.length ∧ x_cats (st.drop b) ≤ 8 then (match (st.take b).reverse with
    | .ref q :: vs => (match c with
      | 5 => (match vs with
        | [] => x_go (pc + 3) L (st.drop b) h
        | _ => none)
      | _ => x_back hs pc L (st.drop b) (call a (.ref q :: vs) h))
    | _ => none) else none
/-- what an instruction does that reads or writes the heap, calls, makes or ends -/
def xmem (pc : Nat) (ins : Instr) (a b c : Nat) (L : XL) (st : List Value) (h : XH) : Option XR :=
  match ins, st with
  | .getfield _, .ref q :: st => match h.1[q]? with
    | some (0, ci, rs) => if ci = a then (match c with
      | 0 => x_go (pc + 3) L (.int (h.2.1 q b) :: st) h
      | 3 => x_go (pc + 3) L (.int (h.2.1 q b) :: st) h
      | 1 => x_go (pc + 3) L (.long (h.2.2.1 q b) :: st) h
      | 2 => x_go (pc + 3) L (va_rf (rs.getD b none) :: st) h
      | _ => none) else none
    | _ => none
  | .putfield _, .int x :: .ref q :: st => match h.1[q]? with
    | some (0, ci, _) => if ci = a then (match c with
      | 0 => x_go (pc + 3) L st (x_setI h q b x)
      | 3 => if x = 0 ∨ x = 1 then x_go (pc + 3) L st (x_setI h q b x) else none
      | _ => none) else none
    | _ => none
  | .putfield _, .long x :: .ref q :: st => match h.1[q]? with
    | some (0, ci, _) => if ci = a ∧ c = 1 then x_go (pc + 3) L st (x_setJ h q b x) else none
    | _ => none
  | .putfield _, .ref x :: .ref q :: st => match h.1[q]? with
    | some (0, ci, rs) => if ci = a ∧ c = 2 ∧ b < rs.length then x_go (pc + 3) L st (x_setT h q (0, ci, rs.set b (some x))) else none
    | _ => none
  | .iaload, .int j :: .ref q :: st => match h.1[q]? with
    | some (1, n, _) => if j < 0 ∨ n ≤ j.toNatClampNeg then none else x_go (pc + 1) L (.int (h.2.1 q j.toNatClampNeg) :: st) h
    | some (5, n, _) => if j < 0 ∨ n ≤ j.toNatClampNeg then none else x_go (pc + 1) L (.int (h.2.1 q j.toNatClampNeg) :: st) h
    | _ => none
  | .laload, .int j :: .ref q :: st => match h.1[q]? with
    | some (2, n, _) => if j < 0 ∨ n ≤ j.toNatClampNeg then none else x_go (pc + 1) L (.long (h.2.2.1 q j.toNatClampNeg) :: st) h
    | _ => none
  | .aaload, .int j :: .ref q :: st => match h.1[q]? with
    | some (3, n, rs) => if j < 0 ∨ n ≤ j.toNatClampNeg then none else x_go (pc + 1) L (va_rf (rs.getD j.toNatClampNeg none) :: st) h
    | _ => none
  | .iastore, .int x :: .int j :: .ref q :: st => match h.1[q]? with
    | some (1, n, _) => if j < 0 ∨ n ≤ j.toNatClampNeg then none else x_go (pc + 1) L st (x_setI h q j.toNatClampNeg x)
    | _ => none
  | .lastore, .long x :: .int j :: .ref q :: st => match h.1[q]? with
    | some (2, n, _) => if j < 0 ∨ n ≤ j.toNatClampNeg then none else x_go (pc + 1) L st (x_setJ h q j.toNatClampNeg x)
    | _ => none
  | .aastore, .ref x :: .int j :: .ref q :: st => match h.1[q]?, h.1[x]? with
    | some (3, n, rs), some (0, 1, _) => if j < 0 ∨ n ≤ j.toNatClampNeg ∨ rs.length ≤ j.toNatClampNeg then none else x_go (pc + 1) L st (x_setT h q (3, n, rs.set j.toNatClampNeg (some x)))
    | _, _ => none
  | .arraylength, .ref q :: st => match h.1[q]? with
    | some (1, n, _) => x_go (pc + 1) L (.int (Int32.ofNat n) :: st) h
    | some (2, n, _) => x_go (pc + 1) L (.int (Int32.ofNat n) :: st) h
    | some (3, n, _) => x_go (pc + 1) L (.int (Int32.ofNat n) :: st) h
    | some (5, n, _) => x_go (pc + 1) L (.int (Int32.ofNat n) :: st) h
    | _ => none
  | .newarray _, .int n :: st => if n < 0 ∨ 67108864 < n.toNatClampNeg then none else x_go (pc + 2) L (.ref h.1.length :: st) (x_new h (a, n.toNatClampNeg, []) n.toNatClampNeg)
  | .anewarray _, .int n :: st => if n < 0 ∨ 67108864 < n.toNatClampNeg then none else x_go (pc + 3) L (.ref h.1.length :: st) (x_new h (3, n.toNatClampNeg, List.replicate n.toNatClampNeg none) n.toNatClampNeg)
  | .new _, st => match c with
    | 0 => x_go (pc + 3) L (.ref h.1.length :: st) (x_new h (0, a, List.replicate b none) b)
    | 1 => if x_cats st ≤ 8 then some (.inr (.inr a, x_new h (4, a, []) 6)) else none
    | _ => none
  | .ireturn, [.int x] => if a = 1 ∨ a = 2 ∧ (x = 0 ∨ x = 1) then some (.inr (.inl (some (.int x)), h)) else none
  | .lreturn, [.long x] => some (.inr (.inl (some (.long x)), h))
  | .areturn, [.ref x] => some (.inr (.inl (some (.ref x)), h))
  | .areturn, [.null] => some (.inr (.inl (some .null), h))
  | .return_, [] => some (.inr (.inl none, h))
  | _, _ => none
def xeff (call : Nat → List Value → XH → Option (XO × XH)) (hs : List (Nat × Nat × Nat × Nat × Nat × Nat)) (pc : Nat) (ins : Instr) (a b c : Nat) (L : XL) (st : List Value) (h : XH) : Option XR :=
  match ins with
  | .invokestatic _ => xinvS call hs pc a b c L st h
  | .invokevirtual _ => xinvV call hs pc a b c L st h
  | .invokespecial _ => xinvI call hs pc a b c L st h
  | ins => xmem pc ins a b c L st h
def xstp (call : Nat → List Value → XH → Option (XO × XH)) (hs : List (Nat × Nat × Nat × Nat × Nat × Nat)) (tb : List (Option XI)) (fr : XF) (h : XH) : Option XR :=
  match tb[fr.1]? with
  | some (some (ins, a, b, c, v, w)) => (match xpure fr.1 ins a v w fr.2.1 fr.2.2 with
    | some fr2 => some (.inl (fr2, h))
    | none => xeff call hs fr.1 ins a b c fr.2.1 fr.2.2 h)
  | _ => none
def xex (call : Nat → List Value → XH → Option (XO × XH)) (hs : List (Nat × Nat × Nat × Nat × Nat × Nat)) (tb : List (Option XI)) : Nat → XF → XH → Option (XO × XH)
  | 0, _, _ => none
  | f + 1, fr, h => match xstp call hs tb fr h with
    | some (.inl (fr2, h2)) => xex call hs tb f fr2 h2
    | some (.inr r) => some r
    | none => none
/-- the locals at a method's entry -/
def x_args : List Value → XL
  | [] => []
  | .long x :: vs => some (.long x) :: none :: x_args vs
  | v :: vs => some v :: x_args vs
def x_entry (vs : List Value) (n : Nat) : XL := x_args vs ++ List.replicate (n - (x_args vs).length) none
/-- no double among the arguments -/
def x_nod (vs : List Value) : Bool := vs.all fun v => match v with
  | .double _ => false
  | _ => true
/-- handles 0 to n of the run: h is longer than, and has used more than, h0 -/
def x_le (h0 h : XH) : Prop := h0.1.length ≤ h.1.length ∧ h0.2.2.2 ≤ h.2.2.2
theorem x_le.rf (h : XH) : x_le h h := ⟨Nat.le_refl _, Nat.le_refl _⟩
theorem x_le.tr {h0 h1 h2 : XH} (a : x_le h0 h1) (b : x_le h1 h2) : x_le h0 h2 := ⟨Nat.le_trans a.1 b.1, Nat.le_trans a.2 b.2⟩
theorem x_le_new (h : XH) (t : XT) (z : Nat) : x_le h (x_new h t z) := ⟨by simp [x_new], by simp [x_new]⟩
theorem x_le_setT (h : XH) (q : Nat) (t : XT) : x_le h (x_setT h q t) := ⟨by simp [x_setT], by simp [x_setT]⟩
def x_of : XR → XH
  | .inl r => r.2
  | .inr r => r.2
theorem x_go_le {pc : Nat} {L : XL} {st : List Value} {h0 h : XH} {r : XR} (hl : x_le h0 h) (e : x_go pc L st h = some r) : x_le h0 (x_of r) := by
  cases e
  exact hl
theorem x_back_le {call : Nat → List Value → XH → Option (XO × XH)} (hc : ∀ j as h o h2, call j as h = some (o, h2) → x_le h h2) {hs : List (Nat × Nat × Nat × Nat × Nat × Nat)} {pc : Nat} {L : XL} {rest : List Value} {j : Nat} {as : List Value} {h : XH} {r : XR} (e : x_back hs pc L rest (call j as h) = some r) : x_le h (x_of r) := by
  cases hr : call j as h with
  | none => rw [hr] at e; cases e
  | some y =>
    obtain ⟨o, h2⟩ := y
    have hl := hc _ _ _ _ _ hr
    rw [hr] at e
    cases o with
    | inl v => exact x_go_le hl e
    | inr ex =>
      simp only [x_back] at e
      cases hh : x_hand hs pc ex with
      | none =>
        rw [hh] at e
        cases hs with
        | nil => cases e; exact hl
        | cons x xs => cases e
      | some y =>
        rw [hh] at e
        obtain ⟨p2, k⟩ := y
        dsimp only at e
        split at e
        · exact x_go_le hl e
        · cases e
theorem xinvS_le {call : Nat → List Value → XH → Option (XO × XH)} (hc : ∀ j as h o h2, call j as h = some (o, h2) → x_le h h2) {hs : List (Nat × Nat × Nat × Nat × Nat × Nat)} {pc : Nat} {a b c : Nat} {L : XL} {st : List Value} {h : XH} {r : XR} (e : xinvS call hs pc a b c L st h = some r) : x_le h (x_of r) := by
  unfold xinvS at e
  repeat' split at e
  all_goals first
    | (cases e; done)
    | exact x_back_le hc e
    | exact x_go_le (x_le.rf _) e
    | exact x_go_le (h0 := h) (h := x_copy h _ _ _) ⟨Nat.le_refl _, Nat.le_refl _⟩ e
theorem xinvV_le {call : Nat → List Value → XH → Option (XO × XH)} (hc : ∀ j as h o h2, call j as h = some (o, h2) → x_le h h2) {hs : List (Nat × Nat × Nat × Nat × Nat × Nat)} {pc : Nat} {a b c : Nat} {L : XL} {st : List Value} {h : XH} {r : XR} (e : xinvV call hs pc a b c L st h = some r) : x_le h (x_of r) := by
  unfold xinvV at e
  repeat' split at e
  all_goals first
    | (cases e; done)
    | exact x_back_le hc e
theorem xinvI_le {call : Nat → List Value → XH → Option (XO × XH)} (hc : ∀ j as h o h2, call j as h = some (o, h2) → x_le h h2) {hs : List (Nat × Nat × Nat × Nat × Nat × Nat)} {pc : Nat} {a b c : Nat} {L : XL} {st : List Value} {h : XH} {r : XR} (e : xinvI call hs pc a b c L st h = some r) : x_le h (x_of r) := by
  unfold xinvI at e
  repeat' split at e
  all_goals first
    | (cases e; done)
    | exact x_back_le hc e
    | exact x_go_le (x_le.rf _) e
set_option maxHeartbeats 4000000 in
theorem xmem_le {pc : Nat} {ins : Instr} {a b c : Nat} {L : XL} {st : List Value} {h : XH} {r : XR} (e : xmem pc ins a b c L st h = some r) : x_le h (x_of r) := by
  unfold xmem at e
  repeat' split at e
  all_goals first
    | (cases e; done)
    | exact x_go_le (x_le.rf _) e
    | exact x_go_le (x_le_new _ _ _) e
    | exact x_go_le (x_le_setT _ _ _) e
    | (cases e; exact x_le.rf _)
    | (cases e; exact x_le_new _ _ _)
theorem xeff_le {call : Nat → List Value → XH → Option (XO × XH)} (hc : ∀ j as h o h2, call j as h = some (o, h2) → x_le h h2) {hs : List (Nat × Nat × Nat × Nat × Nat × Nat)} {pc : Nat} {ins : Instr} {a b c : Nat} {L : XL} {st : List Value} {h : XH} {r : XR} (e : xeff call hs pc ins a b c L st h = some r) : x_le h (x_of r) := by
  unfold xeff at e
  split at e
  · exact xinvS_le hc e
  · exact xinvV_le hc e
  · exact xinvI_le hc e
  · exact xmem_le e
theorem xstp_le {call : Nat → List Value → XH → Option (XO × XH)} (hc : ∀ j as h o h2, call j as h = some (o, h2) → x_le h h2) {hs : List (Nat × Nat × Nat × Nat × Nat × Nat)} {tb : List (Option XI)} {fr : XF} {h : XH} {r : XR} (e : xstp call hs tb fr h = some r) : x_le h (x_of r) := by
  unfold xstp at e
  repeat' split at e
  · cases e
    exact x_le.rf _
  · exact xeff_le hc e
  · cases e
theorem xex_le {call : Nat → List Value → XH → Option (XO × XH)} (hc : ∀ j as h o h2, call j as h = some (o, h2) → x_le h h2) {hs : List (Nat × Nat × Nat × Nat × Nat × Nat)} {tb : List (Option XI)} : ∀ (f : Nat) (fr : XF) (h : XH) (o : XO) (h2 : XH), xex call hs tb f fr h = some (o, h2) → x_le h h2 := by
  intro f
  induction f with
  | zero => intro fr h o h2 e; cases e
  | succ f ih =>
    intro fr h o h2 e
    simp only [xex] at e
    split at e
    · rename_i fr2 h3 es
      exact (xstp_le hc es).tr (ih _ _ _ _ e)
    · rename_i r es
      cases e
      exact xstp_le hc es
    · cases e
/-- more steps, or a callee that answers more often, change no answer -/
theorem x_back_up {c1 c2 : Nat → List Value → XH → Option (XO × XH)} (hc : ∀ j as h r, c1 j as h = some r → c2 j as h = some r) {hs : List (Nat × Nat × Nat × Nat × Nat × Nat)} {pc : Nat} {L : XL} {rest : List Value} {j : Nat} {as : List Value} {h : XH} {r : XR} (e : x_back hs pc L rest (c1 j as h) = some r) : x_back hs pc L rest (c2 j as h) = some r := by
  cases hr : c1 j as h with
  | none => rw [hr] at e; cases e
  | some y => rw [hc _ _ _ _ hr]; rw [hr] at e; exact e
theorem xinvS_up {c1 c2 : Nat → List Value → XH → Option (XO × XH)} (hc : ∀ j as h r, c1 j as h = some r → c2 j as h = some r) {hs : List (Nat × Nat × Nat × Nat × Nat × Nat)} {pc : Nat} {a b c : Nat} {L : XL} {st : List Value} {h : XH} {r : XR} (e : xinvS c1 hs pc a b c L st h = some r) : xinvS c2 hs pc a b c L st h = some r := by
  unfold xinvS at e ⊢
  by_cases hb : b ≤ st.length ∧ x_cats (st.drop b) ≤ 8
  · rw [if_pos hb] at e ⊢
    match c with
    | 0 => exact x_back_up hc e
    | 1 => exact e
    | 2 => exact e
    | 3 => exact e
    | 4 => exact e
    | 5 => exact e
    | 6 => exact e
    | c + 7 => exact e
  · rw [if_neg hb] at e
    cases e
theorem xinvV_up {c1 c2 : Nat → List Value → XH → Option (XO × XH)} (hc : ∀ j as h r, c1 j as h = some r → c2 j as h = some r) {hs : List (Nat × Nat × Nat × Nat × Nat × Nat)} {pc : Nat} {a b c : Nat} {L : XL} {st : List Value} {h : XH} {r : XR} (e : xinvV c1 hs pc a b c L st h = some r) : xinvV c2 hs pc a b c L st h = some r := by
  unfold xinvV at e ⊢
  by_cases hb : b ≤ st.length ∧ x_cats (st.drop b) ≤ 8
  · rw [if_pos hb] at e ⊢
    generalize hv : (st.take b).reverse = V at e ⊢
    match V with
    | [] => exact e
    | .ref q :: vs =>
      dsimp only at e ⊢
      cases hq : h.1[q]? with
      | none => rw [hq] at e; cases e
      | some t =>
        rw [hq] at e
        obtain ⟨k, ci, rs⟩ := t
        match k with
        | 0 =>
          replace e : (if ci = c then x_back hs pc L (List.drop b st) (c1 a (Value.ref q :: vs) h) else none) = some r := e
          show (if ci = c then x_back hs pc L (List.drop b st) (c2 a (Value.ref q :: vs) h) else none) = some r
          by_cases h5 : ci = c
          · rw [if_pos h5] at e ⊢
            exact x_back_up hc e
          · rw [if_neg h5] at e
            cases e
        | k + 1 => exact e
    | .int _ :: _ => exact e
    | .long _ :: _ => exact e
    | .float _ :: _ => exact e
    | .double _ :: _ => exact e
    | .null :: _ => exact e
    | .retAddr _ :: _ => exact e
  · rw [if_neg hb] at e
    cases e
theorem xinvI_up {c1 c2 : Nat → List Value → XH → Option (XO × XH)} (hc : ∀ j as h r, c1 j as h = some r → c2 j as h = some r) {hs : List (Nat × Nat × Nat × Nat × Nat × Nat)} {pc : Nat} {a b c : Nat} {L : XL} {st : List Value} {h : XH} {r : XR} (e : xinvI c1 hs pc a b c L st h = some r) : xinvI c2 hs pc a b c L st h = some r := by
  unfold xinvI at e ⊢
  by_cases hb : b ≤ st.length ∧ x_cats (st.drop b) ≤ 8
  · rw [if_pos hb] at e ⊢
    generalize hv : (st.take b).reverse = V at e ⊢
    match V with
    | [] => exact e
    | .ref q :: vs =>
      dsimp only at e ⊢
      by_cases h5 : c = 5
      · subst h5
        exact e
      · match c with
        | 0 => exact x_back_up hc e
        | 1 => exact x_back_up hc e
        | 2 => exact x_back_up hc e
        | 3 => exact x_back_up hc e
        | 4 => exact x_back_up hc e
        | 5 => exact absurd rfl h5
        | c + 6 => exact x_back_up hc e
    | .int _ :: _ => exact e
    | .long _ :: _ => exact e
    | .float _ :: _ => exact e
    | .double _ :: _ => exact e
    | .null :: _ => exact e
    | .retAddr _ :: _ => exact e
  · rw [if_neg hb] at e
    cases e
theorem xeff_up {c1 c2 : Nat → List Value → XH → Option (XO × XH)} (hc : ∀ j as h r, c1 j as h = some r → c2 j as h = some r) {hs : List (Nat × Nat × Nat × Nat × Nat × Nat)} {pc : Nat} {ins : Instr} {a b c : Nat} {L : XL} {st : List Value} {h : XH} {r : XR} (e : xeff c1 hs pc ins a b c L st h = some r) : xeff c2 hs pc ins a b c L st h = some r := by
  cases ins <;> first
    | exact e
    | exact xinvS_up hc e
    | exact xinvV_up hc e
    | exact xinvI_up hc e
theorem xstp_up {c1 c2 : Nat → List Value → XH → Option (XO × XH)} (hc : ∀ j as h r, c1 j as h = some r → c2 j as h = some r) {hs : List (Nat × Nat × Nat × Nat × Nat × Nat)} {tb : List (Option XI)} {fr : XF} {h : XH} {r : XR} (e : xstp c1 hs tb fr h = some r) : xstp c2 hs tb fr h = some r := by
  unfold xstp at e ⊢
  cases ht : tb[fr.1]? with
  | none => rw [ht] at e; cases e
  | some o =>
    rw [ht] at e
    cases o with
    | none => cases e
    | some t =>
      obtain ⟨ins, a, b, c, v, w⟩ := t
      dsimp only at e ⊢
      cases hp : xpure fr.1 ins a v w fr.2.1 fr.2.2 with
      | some fr2 => rw [hp] at e; exact e
      | none =>
        rw [hp] at e
        exact xeff_up hc e
theorem xex_up {c1 c2 : Nat → List Value → XH → Option (XO × XH)} (hc : ∀ j as h r, c1 j as h = some r → c2 j as h = some r) {hs : List (Nat × Nat × Nat × Nat × Nat × Nat)} {tb : List (Option XI)} : ∀ (f1 f2 : Nat) (fr : XF) (h : XH) (r : XO × XH), f1 ≤ f2 → xex c1 hs tb f1 fr h = some r → xex c2 hs tb f2 fr h = some r := by
  intro f1
  induction f1 with
  | zero => intro f2 fr h r _ e; cases e
  | succ f ih =>
    intro f2 fr h r hf e
    obtain ⟨f3, rfl⟩ : ∃ f3, f2 = f3 + 1 := ⟨f2 - 1, by omega⟩
    simp only [xex] at e ⊢
    cases es : xstp c1 hs tb fr h with
    | none => rw [es] at e; cases e
    | some y =>
      rw [es] at e
      rw [xstp_up hc es]
      cases y with
      | inl y => exact ih _ _ _ _ (by omega) e
      | inr y => exact e
