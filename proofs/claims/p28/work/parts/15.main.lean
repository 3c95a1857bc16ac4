/-! ===== the toy machine against the model: the whole ===== -/
/-- what the table must have of a call, a throw -/
def xckI (o : Nat) (ins : Instr) (a b c : Nat) : Bool := match ins with
  | .invokestatic i => if c = 0 then decide ((o, i, a, 0) ∈ xML) && decide (b = xn a) else if c = 6 then decide (o = 9) && decide (i = 150) && decide (b = 5) else decide ((o, i, c) ∈ xMM) && decide (b = 2)
  | .invokevirtual i => decide ((o, i, a, 1) ∈ xML) && decide (b = xn a + 1) && decide (c < 6) && decide ((xy a).cls = xcC c)
  | .invokespecial i => if c = 5 then decide ((o, i) ∈ xOI) else (decide ((o, i, a, 2) ∈ xML) || decide ((o, i, a) ∈ xNS)) && decide (b = xn a + 1)
  | _ => true
def x_dec (bytes : ByteArray) (pc : Nat) (ins : Instr) (n : Nat) : Bool := match decode bytes pc with
  | .ok (i2, n2) => decide (i2 = ins) && decide (n2 = n)
  | _ => false
theorem x_dec_ok {bytes : ByteArray} {pc : Nat} {ins : Instr} {n : Nat} (h : x_dec bytes pc ins n = true) : decode bytes pc = .ok (ins, n) := by
  unfold x_dec at h
  split at h
  · rename_i i2 n2 hd
    simp only [Bool.and_eq_true, decide_eq_true_eq] at h
    rw [hd, h.1, h.2]
  · cases h
/-- a throw: 'new X("..")' and its throw, as the list of throws has it -/
def xckT (o : Nat) (nh : Bool) (bytes : ByteArray) (pc : Nat) (ins : Instr) (a c : Nat) : Bool := match ins with
  | .new i => if c = 1 then nh && xTH.any (fun q => decide (q.1 = o) && decide (q.2.1 = i) && decide (q.2.2.1 = a) && x_dec bytes (pc + 3) .dup 1 &&
      ((x_dec bytes (pc + 4) (.ldc q.2.2.2.1) 2 && x_dec bytes (pc + 6) (.invokespecial q.2.2.2.2.1) 3 && x_dec bytes (pc + 9) .athrow 1) ||
       (x_dec bytes (pc + 4) (.ldc_w q.2.2.2.1) 3 && x_dec bytes (pc + 7) (.invokespecial q.2.2.2.2.1) 3 && x_dec bytes (pc + 10) .athrow 1))) else true
  | _ => true
/-- one row of a table -/
def xck (o : Nat) (ini nh : Bool) (rt : Option FieldType) (bytes : ByteArray) (pc : Nat) (t : XI) : Bool :=
  x_dec bytes pc t.1 (xlen t.1 t.2.1) && (xckP o pc t.1 t.2.1 t.2.2.2.2.1 t.2.2.2.2.2 && (xckM o ini rt t.1 t.2.1 t.2.2.1 t.2.2.2.1 && (xckI o t.1 t.2.1 t.2.2.1 t.2.2.2.1 && xckT o nh bytes pc t.1 t.2.1 t.2.2.2.1)))
def xall (f : Nat → XI → Bool) : Nat → List (Option XI) → Bool
  | _, [] => true
  | n, none :: l => xall f (n + 1) l
  | n, some t :: l => f n t && xall f (n + 1) l
theorem xall_get {f : Nat → XI → Bool} : ∀ (l : List (Option XI)) (n k : Nat) (t : XI), xall f n l = true → l[k]? = some (some t) → f (n + k) t = true := by
  intro l
  induction l with
  | nil => intro n k t _ h; simp at h
  | cons x l ih =>
    intro n k t h hk
    cases k with
    | zero =>
      simp at hk
      subst hk
      simp only [xall, Bool.and_eq_true] at h
      exact h.1
    | succ k =>
      have hk' : l[k]? = some (some t) := by simpa using hk
      rw [show n + (k + 1) = n + 1 + k by omega]
      cases x with
      | none => exact ih _ _ _ h hk'
      | some y =>
        simp only [xall, Bool.and_eq_true] at h
        exact ih _ _ _ h.2 hk'
theorem x_back_of {hs : List (Nat × Nat × Nat × Nat × Nat × Nat)} {pc : Nat} {L : XL} {rest : List Value} {ro : XO} {h3 : XH} {r : XR} (e0 : x_back hs pc L rest (some (ro, h3)) = some r) : x_of r = h3 := by
  cases ro with
  | inl v => cases e0; rfl
  | inr ex =>
    simp only [x_back] at e0
    cases hh : x_hand hs pc ex with
    | none =>
      rw [hh] at e0
      cases hs with
      | nil => cases e0; rfl
      | cons x xs => cases e0
    | some y =>
      rw [hh] at e0
      obtain ⟨p2, k⟩ := y
      dsimp only at e0
      split at e0
      · cases e0; rfl
      · cases e0
section XMAIN
variable {p : Program} {l : Launch} {e : Env} {R : Room} {s : State} {m : MethodId} {args : Array Value} {below : List Frame} {meth : Method} {c : Code} {G : XG} {o : Nat} {bytes : ByteArray} {mL : Nat} {n0 z0 : Nat} {Q : State → Prop}
set_option maxHeartbeats 4000000 in
theorem x_thr (C : xCx p l s m args meth c G o bytes mL) (hRm : 6 ≤ R.frames ∧ 90 ≤ R.locals) {rt : Option FieldType} {pc i a : Nat} {L : XL} {st : List Value} {h : XH} (hT : c.exceptionTable.toList = []) (hL : L.length = mL) (hd : decode bytes pc = .ok (.new i, 3)) (hck : xckT o true bytes pc (.new i) a 1 = true) (hst : x_cats st ≤ 8) (hcap : h.1.length + 1 ≤ n0 + R.cells ∧ h.2.2.2 + 6 ≤ z0 + R.slots)
    (k : xEnd p l e R s m args below meth c G bytes rt n0 z0 Q (.inr a) (x_new h (4, a, []) 6)) : xW p l e R s m args below meth c G n0 z0 Q (pc, L, st) h := by
  obtain ⟨mc, ms, hQ, g1, g2⟩ := k.2 a rfl
  subst hQ
  simp only [x_new, List.length_append, List.length_singleton] at g1 g2
  intro H locs ls cells slots hR hV hl hc hz
  obtain ⟨hx, hb, hml, hown, hts, hlocks, hS, hfl⟩ := C
  simp only [xckT, if_true, Bool.true_and, List.any_eq_true, Bool.and_eq_true, Bool.or_eq_true, decide_eq_true_eq] at hck
  obtain ⟨q, hq, ⟨⟨⟨⟨e1, e2⟩, e3⟩, d3⟩, d4⟩⟩ := hck
  obtain ⟨w1, w2, w3, w4⟩ := xTH_ok q hq
  obtain ⟨sa, hsa⟩ := hS.2.2.2.2.2.1 q hq
  obtain ⟨q1, q2, q3, q4, q5, q6, q7⟩ := q
  dsimp only at e1 e2 e3 d4 w1 w2 w3 w4 hsa
  subst e1; subst e2; subst e3
  have hfit : Bundle.fit (xen q3) = true := by
    rcases w4 with z | z | z
    · rw [z]; exact xTA_4.1
    · rw [z]; exact xTA_4.2.1
    · rw [z]; exact xTA_4.2.2.1
  have t1 : ∀ w ∈ (vx_atS (xcn q1) q5 (xen q3) xTN).filter goodWord, w ∈ lw_tbl := xTA_1 (q1, q5, q3) w1
  have t2 : ∀ w ∈ (vx_atS (xcn q1) q5 (xen q3) xTN).filter (fun w => !goodWord w), w ∈ Cond.castable (xen q3) (xen q3) :: xDec.map Cond.declares := xTA_2 (q1, q5, q3) w1
  have t3 : ∀ w ∈ vx_atS (xcn q1) q5 (xen q3) xTN, vx_ot w = true := xTA_3 (q1, q5, q3) w1
  generalize hLL : vx_atS (xcn q1) q5 (xen q3) xTN = LL at t1 t2 t3
  have hat : ∀ w ∈ LL, w.before args s = true := by
    refine vx_hat (fun w hw => ?_) t2 (fun w hw => ?_)
    · exact hts w (xT_of (t1 w hw) (List.mem_filter.mp hw).2)
    · rcases List.mem_cons.mp hw with z | z
      · rw [z]
        exact va_Nw.use rfl (hS.2.2.2.2.2.2.2.2.1 q3)
      · obtain ⟨y, hy, ey⟩ := List.mem_map.mp z
        rw [← ey]
        exact va_Nw.use rfl (hS.2.2.2.2.2.2.2.2.2.2 y hy)
  have hk := hts _ (xT_of w2 rfl)
  have hini := hts _ (xT_of w3 rfl)
  have hgood : ∀ w ∈ Cond.classLink (xcn q1) q2 (xen q3) :: Cond.initialized (xen q3) :: LL, vx_ot w = true := by
    intro w hw
    rcases List.mem_cons.mp hw with z | z
    · subst z; rfl
    rcases List.mem_cons.mp z with z | z
    · subst z; rfl
    exact t3 w z
  have hsum : ((st.map (xV G)).map fun v => v.category).sum + (13 * (xTN.length + 1) + 43) ≤ R.locals := by
    rw [x_cats_map]
    show x_cats st + 82 ≤ _
    omega
  have hxx : ∀ t : State, s.vm.Alike t.vm → t.heap.size = H.size + 1 → (∀ q : Nat, q < H.size → t.heap[q]? = H[q]?) → xX G (.inr q3) (x_new h (4, q3, []) 6) (xen q3) s t := by
    intro t _ t1 t2
    refine ⟨⟨q3, rfl, rfl, xR_new hR t1 t2 trivial (xR_lt hS.1 hR)⟩, ?_⟩
    have hg := x_sgrow hV t1 t2
    exact ⟨hg.1, hg.2.1⟩
  rw [← hLL] at hat hgood
  have hsz : ls.size = c.maxLocals := by rw [hml, ← hL]; exact hl.1
  rcases d4 with ⟨⟨d4, d6⟩, d9⟩ | ⟨⟨d4, d7⟩, d10⟩
  · exact x_throwS hx hb hfl hown hfit xTA_4.2.2.2 hk hini hsa hat hgood hS.2.2.2.1 hS.2.2.2.2.1 hV hsz hd (x_dec_ok d3) (x_dec_ok d4) (x_dec_ok d6) (x_dec_ok d9) (fun x hx => by rw [hT] at hx; cases hx) (by show 2 + 3 < _; omega) hsum (by omega) (by omega) hlocks hxx hV.2.2 (by omega) (by omega)
  · exact x_throwW hx hb hfl hown hfit xTA_4.2.2.2 hk hini hsa hat hgood hS.2.2.2.1 hS.2.2.2.2.1 hV hsz hd (x_dec_ok d3) (x_dec_ok d4) (x_dec_ok d7) (x_dec_ok d10) (fun x hx => by rw [hT] at hx; cases hx) (by show 2 + 3 < _; omega) hsum (by omega) (by omega) hlocks hxx hV.2.2 (by omega) (by omega)
set_option maxHeartbeats 8000000 in
/-- the method's end, or a throw -/
theorem xmem_end (C : xCx p l s m args meth c G o bytes mL) (hRm : 6 ≤ R.frames ∧ 90 ≤ R.locals) {ini nh : Bool} {rt : Option FieldType} {pc : Nat} {ins : Instr} {a b cc : Nat} {L : XL} {st : List Value} {h h2 : XH} {o2 : XO} (hT : nh = true → c.exceptionTable.toList = []) (hL : L.length = mL) (hd : decode bytes pc = .ok (ins, xlen ins a)) (hck : xckM o ini rt ins a b cc = true) (hckT : xckT o nh bytes pc ins a cc = true) (e0 : xmem pc ins a b cc L st h = some (.inr (o2, h2))) (hcap : h2.1.length ≤ n0 + R.cells ∧ h2.2.2.2 ≤ z0 + R.slots)
    (k : xEnd p l e R s m args below meth c G bytes rt n0 z0 Q o2 h2) : xW p l e R s m args below meth c G n0 z0 Q (pc, L, st) h := by
  have key : ∀ (v : Option Value), o2 = .inl v → h2 = h → x_retn rt ins st v → xlen ins a = 1 → xW p l e R s m args below meth c G n0 z0 Q (pc, L, st) h := by
    intro v hv hh hr h1
    subst hh
    intro H locs ls cells slots hR hV hl hc hz
    rw [h1] at hd
    exact k.1 v ins st pc H locs ls cells slots hv hr hd hR hV hc hz
  unfold xmem at e0
  split at e0
  case h_14 st i =>
    split at e0
    · cases e0
    · split at e0
      · rename_i hs
        cases e0
        have hnh : nh = true := by
          cases nh
          · simp [xckT] at hckT
          · rfl
        subst hnh
        simp only [x_new, List.length_append, List.length_singleton] at hcap
        exact x_thr C hRm (hT rfl) hL hd hckT hs (by omega) k
      · cases e0
    · cases e0
  case h_15 x =>
    split at e0
    · rename_i hx
      cases e0
      refine key _ rfl rfl (Or.inl ⟨rfl, x, rfl, rfl, ?_⟩) rfl
      simp only [xckM, Bool.or_eq_true, Bool.and_eq_true, decide_eq_true_eq] at hck
      rcases hck with ⟨z1, z2⟩ | ⟨z1, z2⟩
      · exact Or.inl z2
      · refine Or.inr ⟨z2, ?_⟩
        rcases hx with y | y
        · omega
        · exact y.2
    · cases e0
  case h_16 x =>
    cases e0
    exact key _ rfl rfl (Or.inr (Or.inl ⟨rfl, x, rfl, rfl, of_decide_eq_true hck⟩)) rfl
  case h_17 x =>
    cases e0
    refine key _ rfl rfl (Or.inr (Or.inr (Or.inl ⟨rfl, .ref x, rfl, rfl, Or.inr ⟨x, rfl⟩, ?_⟩))) rfl
    cases rt with
    | none => cases hck
    | some t => exact ⟨t, rfl, hck⟩
  case h_18 =>
    cases e0
    refine key _ rfl rfl (Or.inr (Or.inr (Or.inl ⟨rfl, .null, rfl, rfl, Or.inl rfl, ?_⟩))) rfl
    cases rt with
    | none => cases hck
    | some t => exact ⟨t, rfl, hck⟩
  case h_19 =>
    cases e0
    exact key _ rfl rfl (Or.inr (Or.inr (Or.inr ⟨rfl, rfl, rfl, of_decide_eq_true hck⟩))) rfl
  all_goals (exfalso; repeat' split at e0)
  all_goals first
    | (cases e0; done)
    | (simp [x_go] at e0; done)
end XMAIN
