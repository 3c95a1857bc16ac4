/-! ===== the pure instructions ===== -/
def xen : Nat → String
  | 1 => "java/lang/IndexOutOfBoundsException"
  | 2 => "java/lang/IllegalArgumentException"
  | _ => "java/lang/IllegalStateException"
def xlen (ins : Instr) (a : Nat) : Nat := match ins with
  | .bipush _ => 2
  | .ldc _ => 2
  | .iload _ => 2
  | .lload _ => 2
  | .aload _ => 2
  | .istore _ => 2
  | .lstore _ => 2
  | .astore _ => 2
  | .newarray _ => 2
  | .sipush _ => 3
  | .ldc_w _ => 3
  | .ldc2_w _ => 3
  | .iinc _ _ => 3
  | .ifCond _ _ => 3
  | .if_icmp _ _ => 3
  | .ifnull _ => 3
  | .ifnonnull _ => 3
  | .goto _ => 3
  | .getfield _ => 3
  | .putfield _ => 3
  | .invokestatic _ => 3
  | .invokevirtual _ => 3
  | .invokespecial _ => 3
  | .new _ => 3
  | .anewarray _ => 3
  | .tableswitch _ _ _ _ => a
  | _ => 1
/-- what the table must have of a pure instruction -/
def xckP (o pc : Nat) (ins : Instr) (a : Nat) (v : Int32) (w : Int64) : Bool := match ins with
  | .iconst n => decide (Int32.ofInt n = v)
  | .bipush n => decide ((Int8.ofInt n).toInt32 = v)
  | .sipush n => decide ((Int16.ofInt n).toInt32 = v)
  | .lconst n => decide (Int64.ofNat (n : Nat) = w)
  | .iinc _ n => decide (Int32.ofInt n = v)
  | .ifCond _ off => decide ((pc : Int) + off = (a : Int))
  | .if_icmp _ off => decide ((pc : Int) + off = (a : Int))
  | .ifnull off => decide ((pc : Int) + off = (a : Int))
  | .ifnonnull off => decide ((pc : Int) + off = (a : Int))
  | .goto off => decide ((pc : Int) + off = (a : Int))
  | .ldc2_w i => decide ((o, i, w) ∈ xKL)
  | .ldc_w i => decide ((o, i, v) ∈ xKI)
  | .ldc i => decide ((o, i, v) ∈ xKI)
  | .tableswitch d lo hi os => decide (0 ≤ (pc : Int) + d) && os.toList.all (fun x => decide (0 ≤ (pc : Int) + x)) && decide (hi - lo + 1 = (os.size : Int))
  | _ => true
def xDec : List MethodName := [Bundle.initS "java/lang/RuntimeException", Bundle.initS "java/lang/Exception", Bundle.initS Bundle.tN]
/-- what holds of a state of the machine all along -/
def xS (G : XG) (U : State) : Prop :=
  G.1 ≤ G.2.1 ∧ va_K G.2.2.1 vwCl [(G.2.2.2.1, .int), (G.2.2.2.2.1, .long), (G.2.2.2.2.2.1, .object RX1)] U ∧ (U.isArrayOf G.2.2.2.2.2.2 .int ∧ G.2.2.2.2.2.2.vm ≠ .unknown) ∧
  vx_Zq Bundle.tN "UNASSIGNED_STACK" Bundle.steD (xFr G) U U.heap ∧ vx_Zq Bundle.tN "SUPPRESSED_SENTINEL" Bundle.listD (xFr G) U U.heap ∧
  (∀ q ∈ xTH, ∃ sa, vk_R (xcn q.1) q.2.2.2.1 q.2.2.2.2.2.2 sa U) ∧ va_AO RX1 U ∧ (∀ q ∈ xNS, va_Nw (.methodLinkNest (xcn q.1) q.2.1 (xy q.2.2) "Transseria") U) ∧
  (∀ n : Nat, va_Nw (.castable (xen n) (xen n)) U) ∧ (∀ a b : Nat, xen a ≠ xen b → va_Nc (xen a) (xen b) U) ∧ (∀ y ∈ xDec, va_Nw (.declares y) U)
theorem xS.warm {G : XG} {s U : State} (h : xS G s) (hW : s.WarmedH U.vm) (hk : ∀ q : Nat, q < s.heap.size → ¬ xFr G q → U.heap[q]? = s.heap[q]?) : xS G U := by
  obtain ⟨h1, h2, h3, h4, h5, h6, h7, h8, h9, h10, h11⟩ := h
  exact ⟨h1, va_K.moved hW.alike h2, ⟨State.isArrayOf_alike hW.alike h3.1, h3.2⟩, vx_Zq.moved hW.alike (h4.kept hk), vx_Zq.moved hW.alike (h5.kept hk),
    fun q hq => by obtain ⟨sa, hs⟩ := h6 q hq; exact ⟨sa, vk_R.warm hW hs⟩, va_AO.moved hW.alike h7, fun q hq => va_Nw.warmM hW (h8 q hq), fun n => va_Nw.warmC hW (h9 n), fun a b hab => va_Nc.moved hW.alike (h10 a b hab), fun y hy => va_Nw.warmD hW (h11 y hy)⟩
/-- what holds in a frame of a method -/
def xCx (p : Program) (l : Launch) (s : State) (m : MethodId) (args : Array Value) (meth : Method) (c : Code) (G : XG) (o : Nat) (bytes : ByteArray) (mL : Nat) : Prop :=
  p.tables.exec = Jvm.exec ∧ c.code = bytes ∧ c.maxLocals = mL ∧ s.vm.findClass (xcn o) = some m.cls ∧ (∀ w ∈ xT, w.before args s = true) ∧ meth.locks = false ∧ xS G s ∧ l.stackTraces = false
theorem xKI_ok : ∀ q ∈ xKI, Cond.constant (xcn q.1) q.2.1 q.2.2 ∈ lw_tbl := by decide +kernel
theorem xKL_ok : ∀ q ∈ xKL, Cond.constantLong (xcn q.1) q.2.1 q.2.2 ∈ lw_tbl := by decide +kernel
theorem xT_of {w : Cond} (h : w ∈ lw_tbl) (hg : goodWord w = true) : w ∈ xT := List.mem_filter.mpr ⟨h, hg⟩
section XP
variable {p : Program} {l : Launch} {e : Env} {R : Room} {s : State} {m : MethodId} {args : Array Value} {below : List Frame} {meth : Method} {c : Code} {G : XG}
/-- the walk of the model from where the toy stands -/
def xW (p : Program) (l : Launch) (e : Env) (R : Room) (s : State) (m : MethodId) (args : Array Value) (below : List Frame) (meth : Method) (c : Code) (G : XG) (n0 z0 : Nat) (Q : State → Prop) (fr : XF) (h : XH) : Prop :=
  ∀ (H : Heap) (locs : List Loc) (ls : Array Slot) (cells slots : Nat), xR G h H → va_S (xFr G) s.heap H locs → x_ls G ls fr.2.1 → n0 + cells = h.1.length → z0 + slots = h.2.2.2 →
    W p l e R s m args below meth c H locs cells slots Q (F0 m fr.1 ls (fr.2.2.map (xV G)))
set_option maxHeartbeats 8000000 in
theorem xpure_ok {o : Nat} {bytes : ByteArray} {mL n0 z0 : Nat} {Q : State → Prop} (C : xCx p l s m args meth c G o bytes mL) {pc : Nat} {ins : Instr} {a : Nat} {v : Int32} {w : Int64} {L : XL} {st : List Value} {h : XH} {fr2 : XF}
    (hd : decode bytes pc = .ok (ins, xlen ins a)) (hck : xckP o pc ins a v w = true) (e0 : xpure pc ins a v w L st = some fr2) (k : xW p l e R s m args below meth c G n0 z0 Q fr2 h) : xW p l e R s m args below meth c G n0 z0 Q (pc, L, st) h := by
  obtain ⟨hx, hb, hml, hown, hts, hlocks, hS, hfl⟩ := C
  intro H locs ls cells slots hR hV hl hc hz
  unfold xpure at e0
  split at e0
  case h_1 n st => cases e0; exact lv_iconst hx hb hd (of_decide_eq_true hck) (k H locs ls cells slots hR hV hl hc hz)
  case h_2 n st => cases e0; exact lv_bipush hx hb hd (of_decide_eq_true hck) (k H locs ls cells slots hR hV hl hc hz)
  case h_3 n st => cases e0; exact lv_sipush hx hb hd (of_decide_eq_true hck) (k H locs ls cells slots hR hV hl hc hz)
  case h_4 n st => cases e0; exact lv_lconst hx hb hd (of_decide_eq_true hck) (k H locs ls cells slots hR hV hl hc hz)
  case h_5 st => cases e0; exact lv_null hx hb hd (k H locs ls cells slots hR hV hl hc hz)
  case h_6 i st => cases e0; exact lv_ldc hx hb hown (hts _ (xT_of (xKI_ok _ (of_decide_eq_true hck)) rfl)) hd (k H locs ls cells slots hR hV hl hc hz)
  case h_7 i st => cases e0; exact lv_ldcw hx hb hown (hts _ (xT_of (xKI_ok _ (of_decide_eq_true hck)) rfl)) hd (k H locs ls cells slots hR hV hl hc hz)
  case h_8 i st => cases e0; exact lv_ldc2 hx hb hown (hts _ (xT_of (xKL_ok _ (of_decide_eq_true hck)) rfl)) hd (k H locs ls cells slots hR hV hl hc hz)
  case h_9 i st =>
    unfold x_ldI at e0; split at e0
    · rename_i x hi; cases e0; exact lv_iload hx hb hd (x_ls_at hl hi) (k H locs ls cells slots hR hV hl hc hz)
    · cases e0
  case h_10 i st =>
    unfold x_ldI at e0; split at e0
    · rename_i x hi; cases e0; exact lv_iload_n hx hb hd rfl (x_ls_at hl hi) (k H locs ls cells slots hR hV hl hc hz)
    · cases e0
  case h_11 i st =>
    unfold x_ldL at e0; split at e0
    · rename_i x hi; cases e0; exact lv_lload hx hb hd (x_ls_at hl hi) (k H locs ls cells slots hR hV hl hc hz)
    · cases e0
  case h_12 i st =>
    unfold x_ldL at e0; split at e0
    · rename_i x hi; cases e0; exact lv_lload_n hx hb hd rfl (x_ls_at hl hi) (k H locs ls cells slots hR hV hl hc hz)
    · cases e0
  case h_13 i st =>
    unfold x_ldA at e0; split at e0
    · rename_i x hi; cases e0; exact lv_aload hx hb hd (x_ls_at hl hi) (k H locs ls cells slots hR hV hl hc hz)
    · rename_i hi; cases e0; exact lv_aloadN hx hb hd (x_ls_at hl hi) (k H locs ls cells slots hR hV hl hc hz)
    · cases e0
  case h_14 i st =>
    unfold x_ldA at e0; split at e0
    · rename_i x hi; cases e0; exact lv_aload_n hx hb hd rfl (x_ls_at hl hi) (k H locs ls cells slots hR hV hl hc hz)
    · rename_i hi; cases e0; exact lv_aload_nN hx hb hd rfl (x_ls_at hl hi) (k H locs ls cells slots hR hV hl hc hz)
    · cases e0
  case h_15 i x st =>
    split at e0
    · rename_i hi; cases e0; exact lv_istore hx hb hd hl hi rfl (fun ls' hl' => k H locs ls' cells slots hR hV (x_ls_s1 hi hl') hc hz)
    · cases e0
  case h_16 i x st =>
    split at e0
    · rename_i hi; cases e0; exact lv_istore_n hx hb hd rfl hl hi rfl (fun ls' hl' => k H locs ls' cells slots hR hV (x_ls_s1 hi hl') hc hz)
    · cases e0
  case h_17 i x st =>
    split at e0
    · rename_i hi; cases e0; exact lv_lstore hx hb hd hl hi rfl (fun ls' hl' => k H locs ls' cells slots hR hV (x_ls_s2 hi hl') hc hz)
    · cases e0
  case h_18 i x st =>
    split at e0
    · rename_i hi; cases e0; exact lv_lstore_n hx hb hd rfl hl hi rfl (fun ls' hl' => k H locs ls' cells slots hR hV (x_ls_s2 hi hl') hc hz)
    · cases e0
  case h_19 i x st =>
    split at e0
    · rename_i hi; cases e0; exact lv_astore hx hb hd hl hi rfl (fun ls' hl' => k H locs ls' cells slots hR hV (x_ls_s1 (v := .ref x) hi hl') hc hz)
    · cases e0
  case h_20 i x st =>
    split at e0
    · rename_i hi; cases e0; exact lv_astore_n hx hb hd rfl hl hi rfl (fun ls' hl' => k H locs ls' cells slots hR hV (x_ls_s1 (v := .ref x) hi hl') hc hz)
    · cases e0
  case h_21 i n st =>
    split at e0
    · rename_i hi
      unfold x_ldI at e0; split at e0
      · rename_i x hx2; cases e0
        obtain ⟨j, hj⟩ := List.getElem?_of_mem ((x_ents_mem (G := G) (q := (_, Value.int x))).mpr ⟨.int x, hx2, rfl⟩)
        exact lv_iinc (k := j) hx hb hd hl hj (by rw [of_decide_eq_true hck]) hi rfl (fun ls' hl' => k H locs ls' cells slots hR hV (x_ls_s1 hi hl') hc hz)
      · cases e0
    · cases e0
  case h_22 y x st => cases e0; exact lv_iadd hx hb hd (k H locs ls cells slots hR hV hl hc hz)
  case h_23 y x st => cases e0; exact lv_isub hx hb hd (k H locs ls cells slots hR hV hl hc hz)
  case h_24 y x st => cases e0; exact lv_imul hx hb hd (k H locs ls cells slots hR hV hl hc hz)
  case h_25 y x st => cases e0; exact lv_iand hx hb hd (k H locs ls cells slots hR hV hl hc hz)
  case h_26 y x st => cases e0; exact lv_ishl hx hb hd (k H locs ls cells slots hR hV hl hc hz)
  case h_27 y x st => cases e0; exact lv_ishr hx hb hd (k H locs ls cells slots hR hV hl hc hz)
  case h_28 y x st => cases e0; exact lv_ladd hx hb hd (k H locs ls cells slots hR hV hl hc hz)
  case h_29 y x st => cases e0; exact lv_lsub hx hb hd (k H locs ls cells slots hR hV hl hc hz)
  case h_30 y x st => cases e0; exact lv_lmul hx hb hd (k H locs ls cells slots hR hV hl hc hz)
  case h_31 y x st => cases e0; exact lv_land hx hb hd (k H locs ls cells slots hR hV hl hc hz)
  case h_32 y x st =>
    split at e0
    · cases e0
    · rename_i hy; cases e0; exact lv_ldiv hx hb hd hy (k H locs ls cells slots hR hV hl hc hz)
  case h_33 y x st =>
    split at e0
    · cases e0
    · rename_i hy; cases e0; exact lv_lrem hx hb hd hy (k H locs ls cells slots hR hV hl hc hz)
  case h_34 y x st => cases e0; exact lv_lshl hx hb hd rfl (k H locs ls cells slots hR hV hl hc hz)
  case h_35 y x st => cases e0; exact lv_lshr hx hb hd rfl (k H locs ls cells slots hR hV hl hc hz)
  case h_36 x st => cases e0; exact lv_i2l hx hb hd rfl (k H locs ls cells slots hR hV hl hc hz)
  case h_37 x st => cases e0; exact lv_l2i hx hb hd rfl (k H locs ls cells slots hR hV hl hc hz)
  case h_38 y x st => cases e0; exact W.lcmp hx hb hd (k H locs ls cells slots hR hV hl hc hz)
  case h_39 x st => cases e0; exact lv_dup hx hb hd rfl (k H locs ls cells slots hR hV hl hc hz)
  case h_40 x st => cases e0; exact lv_dup hx hb hd rfl (k H locs ls cells slots hR hV hl hc hz)
  case h_41 y x st => cases e0; exact lv_dup2_11 hx hb hd rfl rfl (k H locs ls cells slots hR hV hl hc hz)
  case h_42 y st => cases e0; exact lv_pop hx hb hd rfl (k H locs ls cells slots hR hV hl hc hz)
  case h_43 x st => cases e0; exact lv_if_eq hx hb hd (of_decide_eq_true hck) (fun q => by have k2 := k H locs ls cells slots hR hV; rw [if_pos q] at k2; exact k2 hl hc hz) (fun q => by have k2 := k H locs ls cells slots hR hV; rw [if_neg q] at k2; exact k2 hl hc hz)
  case h_44 x st => cases e0; exact lv_if_ne hx hb hd (of_decide_eq_true hck) (fun q => by have k2 := k H locs ls cells slots hR hV; rw [if_pos q] at k2; exact k2 hl hc hz) (fun q => by have k2 := k H locs ls cells slots hR hV; rw [if_neg (not_not_intro q)] at k2; exact k2 hl hc hz)
  case h_45 x st => cases e0; exact lv_if_lt hx hb hd (of_decide_eq_true hck) (fun q => by have k2 := k H locs ls cells slots hR hV; rw [if_pos q] at k2; exact k2 hl hc hz) (fun q => by have k2 := k H locs ls cells slots hR hV; rw [if_neg q] at k2; exact k2 hl hc hz)
  case h_46 x st => cases e0; exact lv_if_ge hx hb hd (of_decide_eq_true hck) (fun q => by have k2 := k H locs ls cells slots hR hV; rw [if_pos q] at k2; exact k2 hl hc hz) (fun q => by have k2 := k H locs ls cells slots hR hV; rw [if_neg q] at k2; exact k2 hl hc hz)
  case h_47 x st => cases e0; exact lv_if_gt hx hb hd (of_decide_eq_true hck) (fun q => by have k2 := k H locs ls cells slots hR hV; rw [if_pos q] at k2; exact k2 hl hc hz) (fun q => by have k2 := k H locs ls cells slots hR hV; rw [if_neg q] at k2; exact k2 hl hc hz)
  case h_48 x st => cases e0; exact lv_if_le hx hb hd (of_decide_eq_true hck) (fun q => by have k2 := k H locs ls cells slots hR hV; rw [if_pos q] at k2; exact k2 hl hc hz) (fun q => by have k2 := k H locs ls cells slots hR hV; rw [if_neg q] at k2; exact k2 hl hc hz)
  case h_49 y x st => cases e0; exact lv_icmp_eq hx hb hd (of_decide_eq_true hck) (fun q => by have k2 := k H locs ls cells slots hR hV; rw [if_pos q] at k2; exact k2 hl hc hz) (fun q => by have k2 := k H locs ls cells slots hR hV; rw [if_neg q] at k2; exact k2 hl hc hz)
  case h_50 y x st => cases e0; exact lv_icmp_ne hx hb hd (of_decide_eq_true hck) (fun q => by have k2 := k H locs ls cells slots hR hV; rw [if_pos q] at k2; exact k2 hl hc hz) (fun q => by have k2 := k H locs ls cells slots hR hV; rw [if_neg (not_not_intro q)] at k2; exact k2 hl hc hz)
  case h_51 y x st => cases e0; exact lv_icmp_lt hx hb hd (of_decide_eq_true hck) (fun q => by have k2 := k H locs ls cells slots hR hV; rw [if_pos q] at k2; exact k2 hl hc hz) (fun q => by have k2 := k H locs ls cells slots hR hV; rw [if_neg q] at k2; exact k2 hl hc hz)
  case h_52 y x st => cases e0; exact lv_icmp_ge hx hb hd (of_decide_eq_true hck) (fun q => by have k2 := k H locs ls cells slots hR hV; rw [if_pos q] at k2; exact k2 hl hc hz) (fun q => by have k2 := k H locs ls cells slots hR hV; rw [if_neg q] at k2; exact k2 hl hc hz)
  case h_53 y x st => cases e0; exact lv_icmp_gt hx hb hd (of_decide_eq_true hck) (fun q => by have k2 := k H locs ls cells slots hR hV; rw [if_pos q] at k2; exact k2 hl hc hz) (fun q => by have k2 := k H locs ls cells slots hR hV; rw [if_neg q] at k2; exact k2 hl hc hz)
  case h_54 y x st => cases e0; exact lv_icmp_le hx hb hd (of_decide_eq_true hck) (fun q => by have k2 := k H locs ls cells slots hR hV; rw [if_pos q] at k2; exact k2 hl hc hz) (fun q => by have k2 := k H locs ls cells slots hR hV; rw [if_neg q] at k2; exact k2 hl hc hz)
  case h_55 y st => cases e0; exact lv_ifnull hx hb hd (k H locs ls cells slots hR hV hl hc hz)
  case h_56 st => cases e0; exact lv_ifnullN hx hb hd (of_decide_eq_true hck) (k H locs ls cells slots hR hV hl hc hz)
  case h_57 y st => cases e0; exact lv_ifnonnull hx hb hd (of_decide_eq_true hck) (k H locs ls cells slots hR hV hl hc hz)
  case h_58 st => cases e0; exact lv_ifnonnullN hx hb hd (k H locs ls cells slots hR hV hl hc hz)
  case h_59 st => cases e0; exact lv_goto hx hb hd (of_decide_eq_true hck) (k H locs ls cells slots hR hV hl hc hz)
  case h_60 d lo hi os x st =>
    cases e0
    have k2 := k H locs ls cells slots hR hV hl hc hz
    simp only [xckP, Bool.and_eq_true, decide_eq_true_eq, List.all_eq_true] at hck
    obtain ⟨⟨g1, g2⟩, g3⟩ := hck
    by_cases hq : x.toInt < lo ∨ hi < x.toInt
    · rw [if_pos hq] at k2
      exact lv_tableOut hx hb hd hq (by omega) k2
    · rw [if_neg hq] at k2
      have q1 : ¬ x.toInt < lo := fun z => hq (Or.inl z)
      have q2 : ¬ hi < x.toInt := fun z => hq (Or.inr z)
      have hlt : (x.toInt - lo).toNat < os.size := by omega
      have hos : os[(x.toInt - lo).toNat]? = some (os.getD (x.toInt - lo).toNat 0) := by
        rw [Array.getD_eq_getD_getElem?, Array.getElem?_eq_getElem hlt]
        rfl
      have g4 := g2 (os.getD (x.toInt - lo).toNat 0) (by rw [Array.getD_eq_getD_getElem?, Array.getElem?_eq_getElem hlt]; exact Array.getElem_mem_toList hlt)
      exact lv_tableIn hx hb hd q1 q2 hos (by omega) k2
  case h_61 y x st => cases e0; exact lv_ior hx hb hd (k H locs ls cells slots hR hV hl hc hz)
  case h_62 x st => cases e0; exact lv_ineg hx hb hd (k H locs ls cells slots hR hV hl hc hz)
  case h_63 y x st =>
    split at e0
    · cases e0
    · rename_i hy; cases e0; exact lv_idiv hx hb hd hy (k H locs ls cells slots hR hV hl hc hz)
  case h_64 y x st =>
    split at e0
    · cases e0
    · rename_i hy; cases e0; exact lv_irem hx hb hd hy (k H locs ls cells slots hR hV hl hc hz)
  case h_65 => cases e0
end XP
