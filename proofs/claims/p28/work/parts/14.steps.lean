/-! ===== a step of the toy machine is a walk of the model ===== -/
set_option maxHeartbeats 4000000 in
theorem xpure_len {pc : Nat} {ins : Instr} {a : Nat} {v : Int32} {w : Int64} {L : XL} {st : List Value} {fr2 : XF} (e0 : xpure pc ins a v w L st = some fr2) : fr2.2.1.length = L.length := by
  unfold xpure at e0
  split at e0 <;> first
    | (cases e0; done)
    | (cases e0; rfl)
    | (unfold x_ldI at e0; split at e0 <;> first | (cases e0; rfl) | cases e0)
    | (unfold x_ldL at e0; split at e0 <;> first | (cases e0; rfl) | cases e0)
    | (unfold x_ldA at e0; split at e0 <;> first | (cases e0; rfl) | cases e0)
    | (split at e0 <;> first | (cases e0; rfl) | (cases e0; simp [x_s1, x_s2, x_cl_len]; done) | (unfold x_ldI at e0; split at e0 <;> first | (cases e0; simp [x_s1, x_s2, x_cl_len]; done) | cases e0) | cases e0)
    | (cases e0; split <;> rfl)
theorem x_go_len {pc : Nat} {L : XL} {st : List Value} {h : XH} {fr2 : XF} {h2 : XH} (e0 : x_go pc L st h = some (.inl (fr2, h2))) : fr2.2.1.length = L.length := by cases e0; rfl
theorem x_back_len {hs : List (Nat × Nat × Nat × Nat × Nat × Nat)} {pc : Nat} {L : XL} {rest : List Value} {r : Option (XO × XH)} {fr2 : XF} {h2 : XH} (e0 : x_back hs pc L rest r = some (.inl (fr2, h2))) : fr2.2.1.length = L.length := by
  cases r with
  | none => cases e0
  | some y =>
    obtain ⟨o, h3⟩ := y
    cases o with
    | inl v => exact x_go_len e0
    | inr ex =>
      simp only [x_back] at e0
      cases hh : x_hand hs pc ex with
      | none =>
        rw [hh] at e0
        cases hs with
        | nil => cases e0
        | cons x xs => cases e0
      | some y =>
        rw [hh] at e0
        obtain ⟨p2, k⟩ := y
        dsimp only at e0
        split at e0
        · rw [x_go_len e0]
          simp [x_cl_len]
        · cases e0
set_option maxHeartbeats 4000000 in
theorem xmem_len {pc : Nat} {ins : Instr} {a b c : Nat} {L : XL} {st : List Value} {h : XH} {fr2 : XF} {h2 : XH} (e0 : xmem pc ins a b c L st h = some (.inl (fr2, h2))) : fr2.2.1.length = L.length := by
  unfold xmem at e0
  repeat' split at e0
  all_goals first
    | exact x_go_len e0
    | cases e0
theorem xeff_len {call : Nat → List Value → XH → Option (XO × XH)} {hs : List (Nat × Nat × Nat × Nat × Nat × Nat)} {pc : Nat} {ins : Instr} {a b c : Nat} {L : XL} {st : List Value} {h : XH} {fr2 : XF} {h2 : XH} (e0 : xeff call hs pc ins a b c L st h = some (.inl (fr2, h2))) : fr2.2.1.length = L.length := by
  unfold xeff at e0
  split at e0
  · unfold xinvS at e0
    repeat' split at e0
    all_goals first
      | exact x_back_len e0
      | exact x_go_len e0
      | cases e0
  · unfold xinvV at e0
    repeat' split at e0
    all_goals first
      | exact x_back_len e0
      | cases e0
  · unfold xinvI at e0
    repeat' split at e0
    all_goals first
      | exact x_back_len e0
      | exact x_go_len e0
      | cases e0
  · exact xmem_len e0
def x_retn (rt : Option FieldType) (ins : Instr) (st : List Value) (v : Option Value) : Prop :=
  (ins = .ireturn ∧ ∃ x, st = [.int x] ∧ v = some (.int x) ∧ (rt = some .int ∨ rt = some .boolean ∧ (x = 0 ∨ x = 1))) ∨
  (ins = .lreturn ∧ ∃ x, st = [.long x] ∧ v = some (.long x) ∧ rt = some .long) ∨
  (ins = .areturn ∧ ∃ x, st = [x] ∧ v = some x ∧ (x = .null ∨ ∃ q, x = .ref q) ∧ ∃ t, rt = some t ∧ x_isR t = true) ∨
  (ins = .return_ ∧ st = [] ∧ v = none ∧ rt = none)
section XSTEP
variable {p : Program} {l : Launch} {e : Env} {R : Room} {s : State} {m : MethodId} {args : Array Value} {below : List Frame} {meth : Method} {c : Code} {G : XG} {o : Nat} {bytes : ByteArray} {mL : Nat} {n0 z0 : Nat} {Q : State → Prop}
/-- what the frame's end must bear -/
def xEnd (p : Program) (l : Launch) (e : Env) (R : Room) (s : State) (m : MethodId) (args : Array Value) (below : List Frame) (meth : Method) (c : Code) (G : XG) (bytes : ByteArray) (rt : Option FieldType) (n0 z0 : Nat) (Q : State → Prop) (o2 : XO) (h2 : XH) : Prop :=
  (∀ (v : Option Value) (ins : Instr) (st : List Value) (pc : Nat) (H : Heap) (locs : List Loc) (ls : Array Slot) (cells slots : Nat), o2 = .inl v → x_retn rt ins st v → decode bytes pc = .ok (ins, 1) → xR G h2 H → va_S (xFr G) s.heap H locs → n0 + cells = h2.1.length → z0 + slots = h2.2.2.2 → W p l e R s m args below meth c H locs cells slots Q (F0 m pc ls (st.map (xV G)))) ∧
  (∀ n, o2 = .inr n → ∃ mc ms, Q = vx_MQ below (xQ G o2 h2) (xX G o2 h2) args s mc ms (xFr G) ∧ n0 + mc = h2.1.length ∧ z0 + ms = h2.2.2.2)
/-- what is owed of a step's result -/
def xK (p : Program) (l : Launch) (e : Env) (R : Room) (s : State) (m : MethodId) (args : Array Value) (below : List Frame) (meth : Method) (c : Code) (G : XG) (bytes : ByteArray) (rt : Option FieldType) (n0 z0 : Nat) (Q : State → Prop) : XR → Prop
  | .inl (fr2, h2) => xW p l e R s m args below meth c G n0 z0 Q fr2 h2
  | .inr (o2, h2) => xEnd p l e R s m args below meth c G bytes rt n0 z0 Q o2 h2
theorem x_hand_ex {o : Nat} {bytes : ByteArray} {pc ex : Nat} {y : Nat × Nat} : ∀ (hs : List (Nat × Nat × Nat × Nat × Nat × Nat)) (hr : List (Nat × Nat × Nat × Nat)), xhOK o bytes hs hr → x_hand hs pc ex = some y → ex = 1 ∨ ex = 2 ∨ ex = 3 := by
  intro hs
  induction hs with
  | nil => intro hr _ h; cases h
  | cons q hs ih =>
    intro hr hok h
    obtain ⟨s1, e1, h1, x1, k1, w1⟩ := q
    cases hr with
    | nil => exact hok.elim
    | cons r hr =>
      obtain ⟨s2, e2, h2, ct⟩ := r
      obtain ⟨⟨-, -, -, -, -, g6, -⟩, hok⟩ := hok
      simp only [x_hand] at h
      split at h
      · rename_i hq
        rw [← hq.2.2]
        exact g6
      · exact ih hr hok h
/-- behind a call -/
theorem x_fin (C : xCx p l s m args meth c G o bytes mL) {hs : List (Nat × Nat × Nat × Nat × Nat × Nat)} {hr : List (Nat × Nat × Nat × Nat)} {rt : Option FieldType} (hT : c.exceptionTable.toList = tableOf hr) (hok : xhOK o bytes hs hr) {pc : Nat} {L : XL} {rest : List Value} {ro : XO} {h3 : XH} {r : XR} (e0 : x_back hs pc L rest (some (ro, h3)) = some r) (k : xK p l e R s m args below meth c G bytes rt n0 z0 Q r)
    {H : Heap} {locs : List Loc} {ls : Array Slot} {cells slots mc ms : Nat} {st0 : List Value} {a : Array Value} (hrun : vx_Run p l e R s m args below meth c H locs cells slots mc ms (F0 m pc ls st0) (rest.map (xV G)) (xQ G ro h3 a) (xX G ro h3) (xFr G)) (hV : va_S (xFr G) s.heap H locs) (hl : x_ls G ls L) (hc : n0 + (cells + mc) = h3.1.length) (hz : z0 + (slots + ms) = h3.2.2.2) :
    W p l e R s m args below meth c H locs cells slots Q (F0 m pc ls st0) := by
  refine x_call hrun hV (fun v H1 locs1 hv hR1 hV1 => ?_) (fun n q9 ce H1 locs1 hn hR1 hV1 hce hcv hcl => ?_)
  · subst hv
    cases e0
    have k2 := k H1 locs1 ls (cells + mc) (slots + ms) hR1 hV1 hl hc hz
    cases v with
    | none => exact k2
    | some v => exact k2
  · subst hn
    simp only [x_back] at e0
    cases hh : x_hand hs pc n with
    | none =>
      rw [hh] at e0
      cases hs with
      | cons x xs => cases e0
      | nil =>
        cases e0
        cases hr with
        | cons x xs => exact hok.elim
        | nil =>
          obtain ⟨mc2, ms2, hQ, g1, g2⟩ := k.2 n rfl
          subst hQ
          obtain ⟨-, -, -, -, -, hlocks, -, -⟩ := C
          refine vx_out (fun x hx => ?_) hlocks hce hcv hcl (fun t ht hA => ⟨⟨n, rfl, rfl, by rw [ht]; exact hR1⟩, hV1.F ht⟩) hV1.2.2 (by omega) (by omega)
          rw [hT] at hx
          cases hx
    | some y =>
      rw [hh] at e0
      obtain ⟨p2, k'⟩ := y
      dsimp only at e0
      split at e0
      · rename_i hk'
        cases e0
        exact x_caught C hT hok (x_hand_ex hs hr hok hh) hh hk' k hR1 hV1 hl hc hz hce hcv hcl
      · cases e0
theorem x_stk (G : XG) {st : List Value} {b : Nat} : st.map (xV G) = (((st.take b).reverse.map (xV G)).reverse) ++ (st.drop b).map (xV G) := by
  rw [List.map_reverse, List.reverse_reverse, ← List.map_append, List.take_append_drop]
/-- the four kinds of calls, run -/
theorem x_runS {d j b idx : Nat} (C : xCx p l s m args meth c G o bytes mL) (hRm : d + 7 ≤ R.frames ∧ 60 * d + 180 ≤ R.locals) (hck : (o, idx, j, 0) ∈ xML) (hb : b = xn j) {pc : Nat} {L : XL} {st : List Value} {h h3 : XH} {ro : XO} (hL : L.length = mL) (hst : b ≤ st.length ∧ x_cats (st.drop b) ≤ 8) (hM : j + 1 < xNM → xMt l G d j (st.take b).reverse h ro h3) (hd : decode bytes pc = .ok (.invokestatic idx, 3))
    {H : Heap} {locs : List Loc} {ls : Array Slot} {cells slots mc ms : Nat} (hR : xR G h H) (hV : va_S (xFr G) s.heap H locs) (hl : x_ls G ls L) (h1 : h.1.length + mc = h3.1.length) (h2 : h.2.2.2 + ms = h3.2.2.2) (hf : cells + mc ≤ R.cells ∧ slots + ms ≤ R.slots) :
    vx_Run p l e R s m args below meth c H locs cells slots mc ms (F0 m pc ls (st.map (xV G))) ((st.drop b).map (xV G)) (xQ G ro h3 ((st.take b).reverse.map (xV G)).toArray) (xX G ro h3) (xFr G) := by
  obtain ⟨hx, hb', hml, hown, hts, hlocks, hS, hfl⟩ := C
  rw [xML_eq] at hck
  obtain ⟨q, hq, e⟩ := List.mem_map.mp hck
  obtain ⟨w1, w2, -, -, -, hj⟩ := xMLp_ok q hq
  obtain ⟨q1, q2, q3, q4, q5, q6, q7⟩ := q
  cases e
  have hj : q3 + 1 < xNM := hj
  have hlink := hts _ (xT_of (List.mem_of_getElem? w1) rfl)
  have hstat := hts _ (xT_of (List.mem_of_getElem? (w2 rfl)) rfl)
  have hlen : (((st.take b).reverse).map (xV G)).length = xn q3 := by
    rw [List.length_map, List.length_reverse, List.length_take, Nat.min_eq_left hst.1, hb]
  have hroom : ({ frames := d + 6, cells := mc, slots := ms, locals := 60 * d + 120 } : Room).frames + 1 ≤ R.frames ∧ 8 + (xml q3 + 11) + ({ frames := d + 6, cells := mc, slots := ms, locals := 60 * d + 120 } : Room).locals ≤ R.locals := by
    have h9 := (xcw_ok2 q3 (by unfold xNM at hj; omega)).2.2
    refine ⟨by show d + 6 + 1 ≤ _; omega, by show 8 + (xml q3 + 11) + (60 * d + 120) ≤ _; omega⟩
  have hW : 2 * (F0 m pc ls (st.map (xV G))).monitorRoom + (((st.drop b).map (xV G)).map fun v => v.category).sum ≤ 8 := by
    have h9 := x_cats_map G (st.drop b)
    show 2 * 0 + _ ≤ 8
    omega
  by_cases hh : xhr q3 = []
  · exact vx_runS ⟨hx, hb', hml, hown, hts⟩ (hM hj mc ms h1 h2) ⟨x_callB hts hj hh hlink rfl rfl hroom, hstat⟩ (x_pre hS hR hV) rfl hlen (hl.1.trans hL) (x_stk G) hW hd hf
  · obtain ⟨g, gs, hg⟩ := List.exists_cons_of_ne_nil hh
    have hc : xcw q3 = .codeWith (xy q3) (xb q3) (xml q3) (xr q3) (g :: gs) := by unfold xcw; rw [hg]
    have hG := xws_good hj
    have hm : Cond.codeWith (xy q3) (xb q3) (xml q3) (xr q3) (g :: gs) ∈ xws q3 := by rw [← hc]; exact List.mem_cons_self
    have h3' := xcw_ok3 q3 (by unfold xNM at hj; omega)
    refine vx_runSX (hh := g :: gs) (bytes := xb q3) (maxL := xml q3) (ret := xr q3) (n := xn q3) ⟨hx, hb', hml, hown, hts⟩ (hM hj mc ms h1 h2) ⟨⟨rfl, rfl, hroom.1, hroom.2, pay_in hts hG, hm⟩, hts _ (hG _ hm).1, hts _ (xT_of (xci_in q3 hj) rfl), (xcw_ok2 q3 (by unfold xNM at hj; omega)).2.1, fun sig hs => ?_, hlink, hstat⟩ (x_pre hS hR hV) rfl hlen (hl.1.trans hL) (x_stk G) hW hd hf
    rw [hs] at h3'
    exact (Option.some.inj h3').symm
theorem x_rev {st : List Value} {b q : Nat} {vs : List Value} (hv : (st.take b).reverse = .ref q :: vs) (G : XG) : st.map (xV G) = (vs.map (xV G)).reverse ++ .ref (xA G q) :: (st.drop b).map (xV G) := by
  rw [x_stk G (b := b), hv]
  simp [xV]
theorem x_revlen {st : List Value} {b q : Nat} {vs : List Value} (hv : (st.take b).reverse = .ref q :: vs) (hb : b ≤ st.length) : vs.length + 1 = b := by
  have h := congrArg List.length hv
  rw [List.length_reverse, List.length_take, Nat.min_eq_left hb] at h
  exact h.symm
theorem x_preV {H : Heap} {locs : List Loc} {vs : List Value} {h : XH} {q ci : Nat} {rs : List (Option Nat)} (hS : xS G s) (hR : xR G h H) (hV : va_S (xFr G) s.heap H locs) (hci : ci < 6) (ht : h.1[q]? = some (0, ci, rs)) : PreV s H (xcC ci) (xA G q) (xPre G (.ref q :: vs) h) (vs.map (xV G)) := by
  obtain ⟨r, h1, cell, g1, g2, g3, -⟩ : va_at G.2.2.1 vwCl (xA G q, .inr (ci, x_fs G h q ci rs)) H := hR.2.2 q _ ht
  obtain ⟨p1, p2⟩ := x_pre (as := .ref q :: vs) hS hR hV
  refine ⟨p1, ⟨cell, g1, by rw [g3]; rfl, by rw [g2]; exact (hS.2.1.1 ci _ (xc_cl ci hci)).2.1⟩, fun U hU hW => p2 U hU hW⟩
theorem x_runV {d j b idx ci q : Nat} {vs : List Value} {rs : List (Option Nat)} (C : xCx p l s m args meth c G o bytes mL) (hRm : d + 7 ≤ R.frames ∧ 60 * d + 180 ≤ R.locals) (hck : (o, idx, j, 1) ∈ xML) (hb : b = xn j + 1) (hci : ci < 6) (hcl : (xy j).cls = xcC ci) {pc : Nat} {L : XL} {st : List Value} {h h3 : XH} {ro : XO} (hL : L.length = mL) (hst : b ≤ st.length ∧ x_cats (st.drop b) ≤ 8) (hv : (st.take b).reverse = .ref q :: vs) (ht : h.1[q]? = some (0, ci, rs)) (hM : j + 1 < xNM → xMt l G d j (.ref q :: vs) h ro h3) (hd : decode bytes pc = .ok (.invokevirtual idx, 3))
    {H : Heap} {locs : List Loc} {ls : Array Slot} {cells slots mc ms : Nat} (hR : xR G h H) (hV : va_S (xFr G) s.heap H locs) (hl : x_ls G ls L) (h1 : h.1.length + mc = h3.1.length) (h2 : h.2.2.2 + ms = h3.2.2.2) (hf : cells + mc ≤ R.cells ∧ slots + ms ≤ R.slots) :
    vx_Run p l e R s m args below meth c H locs cells slots mc ms (F0 m pc ls (st.map (xV G))) ((st.drop b).map (xV G)) (xQ G ro h3 (Value.ref (xA G q) :: vs.map (xV G)).toArray) (xX G ro h3) (xFr G) := by
  obtain ⟨hx, hb', hml, hown, hts, hlocks, hS, hfl⟩ := C
  rw [xML_eq] at hck
  obtain ⟨z, hz, e⟩ := List.mem_map.mp hck
  obtain ⟨w1, -, w3, w4, -, hj⟩ := xMLp_ok z hz
  obtain ⟨q1, q2, q3, q4, q5, q6, q7⟩ := z
  cases e
  have hj : q3 + 1 < xNM := hj
  have hlink := hts _ (xT_of (List.mem_of_getElem? w1) rfl)
  obtain ⟨w31, hh⟩ := w3 (show (1 : Nat) ≠ 0 by decide)
  have hinst := hts _ (xT_of (List.mem_of_getElem? w31) rfl)
  have hsel := hts _ (xT_of (List.mem_of_getElem? (w4 rfl)) rfl)
  rw [hcl] at hsel
  have hb : b = xn q3 + 1 := hb
  have hlen : (vs.map (xV G)).length = xn q3 := by
    have h9 := x_revlen hv hst.1
    rw [List.length_map]
    omega
  have hroom : ({ frames := d + 6, cells := mc, slots := ms, locals := 60 * d + 120 } : Room).frames + 1 ≤ R.frames ∧ 8 + (xml q3 + 11) + ({ frames := d + 6, cells := mc, slots := ms, locals := 60 * d + 120 } : Room).locals ≤ R.locals := by
    have h9 := (xcw_ok2 q3 (by unfold xNM at hj; omega)).2.2
    refine ⟨by show d + 6 + 1 ≤ _; omega, by show 8 + (xml q3 + 11) + (60 * d + 120) ≤ _; omega⟩
  have hW : 2 * (F0 m pc ls (st.map (xV G))).monitorRoom + (((st.drop b).map (xV G)).map fun v => v.category).sum ≤ 8 := by
    have h9 := x_cats_map G (st.drop b)
    show 2 * 0 + _ ≤ 8
    omega
  exact vx_runV ⟨hx, hb', hml, hown, hts⟩ (hM hj mc ms h1 h2) ⟨x_callB hts hj hh hlink rfl rfl hroom, hinst, hsel⟩ (x_preV hS hR hV hci ht) rfl hlen (hl.1.trans hL) (x_rev hv G) hW hd hf
theorem x_runI {d j b idx q : Nat} {vs : List Value} (C : xCx p l s m args meth c G o bytes mL) (hRm : d + 7 ≤ R.frames ∧ 60 * d + 180 ≤ R.locals) (hck : (o, idx, j, 2) ∈ xML ∨ (o, idx, j) ∈ xNS) (hb : b = xn j + 1) {pc : Nat} {L : XL} {st : List Value} {h h3 : XH} {ro : XO} (hL : L.length = mL) (hst : b ≤ st.length ∧ x_cats (st.drop b) ≤ 8) (hv : (st.take b).reverse = .ref q :: vs) (hM : j + 1 < xNM → xMt l G d j (.ref q :: vs) h ro h3) (hd : decode bytes pc = .ok (.invokespecial idx, 3))
    {H : Heap} {locs : List Loc} {ls : Array Slot} {cells slots mc ms : Nat} (hR : xR G h H) (hV : va_S (xFr G) s.heap H locs) (hl : x_ls G ls L) (h1 : h.1.length + mc = h3.1.length) (h2 : h.2.2.2 + ms = h3.2.2.2) (hf : cells + mc ≤ R.cells ∧ slots + ms ≤ R.slots) :
    vx_Run p l e R s m args below meth c H locs cells slots mc ms (F0 m pc ls (st.map (xV G))) ((st.drop b).map (xV G)) (xQ G ro h3 (Value.ref (xA G q) :: vs.map (xV G)).toArray) (xX G ro h3) (xFr G) := by
  obtain ⟨hx, hb', hml, hown, hts, hlocks, hS, hfl⟩ := C
  have hlen : (vs.map (xV G)).length = xn j := by
    have h9 := x_revlen hv hst.1
    rw [List.length_map]
    omega
  have hW : 2 * (F0 m pc ls (st.map (xV G))).monitorRoom + (((st.drop b).map (xV G)).map fun v => v.category).sum ≤ 8 := by
    have h9 := x_cats_map G (st.drop b)
    show 2 * 0 + _ ≤ 8
    omega
  have hroom : ∀ hj : j + 1 < xNM, ({ frames := d + 6, cells := mc, slots := ms, locals := 60 * d + 120 } : Room).frames + 1 ≤ R.frames ∧ 8 + (xml j + 11) + ({ frames := d + 6, cells := mc, slots := ms, locals := 60 * d + 120 } : Room).locals ≤ R.locals := by
    intro hj
    have h9 := (xcw_ok2 j (by unfold xNM at hj; omega)).2.2
    refine ⟨by show d + 6 + 1 ≤ _; omega, by show 8 + (xml j + 11) + (60 * d + 120) ≤ _; omega⟩
  rcases hck with hck | hck
  · rw [xML_eq] at hck
    obtain ⟨z, hz, e⟩ := List.mem_map.mp hck
    obtain ⟨w1, -, w3, -, w5, hj⟩ := xMLp_ok z hz
    obtain ⟨q1, q2, q3, q4, q5, q6, q7⟩ := z
    cases e
    have hj : q3 + 1 < xNM := hj
    have hlink := hts _ (xT_of (List.mem_of_getElem? w1) rfl)
    obtain ⟨w31, hh⟩ := w3 (show (2 : Nat) ≠ 0 by decide)
    have hinst := hts _ (xT_of (List.mem_of_getElem? w31) rfl)
    obtain ⟨hname, hrn⟩ := w5 rfl
    have hcb := x_callB (mc := mc) (ms := ms) (rm := { frames := d + 6, cells := mc, slots := ms, locals := 60 * d + 120 }) hts hj hh hlink rfl rfl (hroom hj)
    dsimp only at hrn
    rw [hrn] at hcb
    exact vx_runI ⟨hx, hb', hml, hown, hts⟩ (hM hj mc ms h1 h2) ⟨hcb, hname, hinst⟩ (x_pre (as := .ref q :: vs) hS hR hV) rfl hlen (hl.1.trans hL) (x_rev hv G) hW hd hf
  · have hnest := hS.2.2.2.2.2.2.2.1 _ hck
    rw [xNS_eq] at hck
    obtain ⟨z, hz, e⟩ := List.mem_map.mp hck
    obtain ⟨w1, hname, hrn, hj, hh⟩ := xNS_ok z hz
    obtain ⟨q1, q2, q3, q4⟩ := z
    cases e
    have hj : q3 + 1 < xNM := hj
    have hinst := hts _ (xT_of (List.mem_of_getElem? w1) rfl)
    dsimp only at hrn hh hname hj
    have hc : xcw q3 = .code (xy q3) (xb q3) (xml q3) none := by unfold xcw; rw [hh]; dsimp only; rw [hrn]
    have hG := xws_good hj
    have hm : Cond.code (xy q3) (xb q3) (xml q3) none ∈ xws q3 := by rw [← hc]; exact List.mem_cons_self
    have h3' := xcw_ok3 q3 (by unfold xNM at hj; omega)
    refine vx_runIN (host := "Transseria") (bytes := xb q3) (maxL := xml q3) (n := xn q3) ⟨hx, hb', hml, hown, hts⟩ (hM hj mc ms h1 h2) ⟨⟨⟨rfl, rfl, (hroom hj).1, (hroom hj).2, pay_in hts hG, hm⟩, hts _ (hG _ hm).1, hts _ (xT_of (xci_in q3 hj) rfl), (xcw_ok2 q3 (by unfold xNM at hj; omega)).2.1, fun sig hs => ?_, va_Nw.use rfl hnest⟩, hname, hinst⟩ (x_pre (as := .ref q :: vs) hS hR hV) rfl hlen (hl.1.trans hL) (x_rev hv G) hW hd hf
    rw [hs] at h3'
    exact (Option.some.inj h3').symm
/-- System.arraycopy, from the start of one row of ints to the start of another -/
theorem x_acopy (C : xCx p l s m args meth c G 9 bytes mL) (hRm : 1 ≤ R.frames ∧ 60 ≤ R.locals) {pc : Nat} {L : XL} {st : List Value} {h : XH} (hL : L.length = mL) {q0 q n0' n1' : Nat} {n : Int32} {r0 r1 : List (Option Nat)} (ht0 : h.1[q0]? = some (1, n0', r0)) (ht1 : h.1[q]? = some (1, n1', r1)) (hn : ¬ n < 0) (hn0 : n.toNatClampNeg ≤ n0') (hn1 : n.toNatClampNeg ≤ n1') (hq : q0 ≠ q) (hst : x_cats st ≤ 8) (hd : decode bytes pc = .ok (.invokestatic 150, 3))
    (k : xW p l e R s m args below meth c G n0 z0 Q (pc + 3, L, st) (x_copy h q0 q n.toNatClampNeg)) : xW p l e R s m args below meth c G n0 z0 Q (pc, L, .int n :: .int 0 :: .ref q :: .int 0 :: .ref q0 :: st) h := by
  have C' := C
  obtain ⟨hx, hb, hml, hown, hts, hlocks, hS, hfl⟩ := C'
  intro H locs ls cells slots hR hV hl hc hz
  have nn : n.toInt = (n.toNatClampNeg : Int) := by
    have hz0 : (0 : Int) ≤ n.toInt := by
      have := Int32.not_lt.mp hn
      simpa using Int32.le_iff_toInt_le.mp this
    show n.toInt = ((n.toInt.toNat : Nat) : Int)
    omega
  have hc0 : H[xA G q0]? = some (vp_cell G.2.2.2.1 (n0', .inl (h.2.1 q0))) := hR.2.2 q0 _ ht0
  have hc1 : H[xA G q]? = some (vp_cell G.2.2.2.1 (n1', .inl (h.2.1 q))) := hR.2.2 q _ ht1
  intro T hT X
  obtain ⟨-, k0, hk0, cm0, hkk0⟩ := (hS.2.1.2 0 _ rfl).1 n0' (fun j => .int (h.2.1 q0 j))
  obtain ⟨-, k1, hk1, cm1, hkk1⟩ := (hS.2.1.2 0 _ rfl).1 n1' (fun j => .int (h.2.1 q j))
  have h0c : (0 : Int32).toNatClampNeg = 0 := rfl
  have hfr : (0 : Int32).toInt = 0 := rfl
  have h8 : nativeFrameWords "java/lang/System" "arraycopy" 5 ≤ 40 := by decide +kernel
  obtain ⟨vm', X', step⟩ := X.arraycopy hx hown (hts _ (xT_of (List.mem_of_getElem? xAC_l) rfl)) (hts _ (xT_of (List.mem_of_getElem? xAC_n) rfl)) (hts _ (xT_of (List.mem_of_getElem? xAC_s) rfl)) (hts _ (xT_of (List.mem_of_getElem? xAC_i) rfl)) (src := xA G q0) (dst := xA G q) (cs := vp_cell G.2.2.2.1 (n0', .inl (h.2.1 q0))) (cd := vp_cell G.2.2.2.1 (n1', .inl (h.2.1 q))) (srcPos := 0) (destPos := 0) (n := n) (by rw [hT]; exact hc0) (by rw [hT]; exact hc1)
    (fun _ h => by cases h) (fun _ h => by cases h) (fun h => by cases h) (fun h => by cases h) hk0 hk1 hkk0 hkk1 (by simp [refKind]) (by decide) (by decide) hn
    (by rw [hfr, nn]; show ¬ _ > ((arrV _ n0' (fun j => .int (h.2.1 q0 j))).slots.size : Int); rw [arrV_size]; omega)
    (by rw [hfr, nn]; show ¬ _ > ((arrV _ n1' (fun j => .int (h.2.1 q j))).slots.size : Int); rw [arrV_size]; omega)
    (fun vm₁ _ i hi => by
      have e : (vp_cell G.2.2.2.1 (n0', .inl (h.2.1 q0))).slots.getD ((0 : Int32).toNatClampNeg + i) .null = .int (h.2.1 q0 ((0 : Int32).toNatClampNeg + i)) := by
        show (arrV _ n0' (fun j => .int (h.2.1 q0 j))).slots.getD _ _ = _
        rw [Array.getD_eq_getD_getElem?, arrV_read _ _ (by rw [h0c]; omega)]
        rfl
      refine ⟨?_, ?_⟩
      · rw [e]
        rfl
      · rw [e]
        exact trivial)
    (g := F0 m pc ls (.int n :: .int 0 :: .ref (xA G q) :: .int 0 :: .ref (xA G q0) :: st.map (xV G))) rfl (by rw [hml, ← hL]; exact hl.1) (rest := st.map (xV G)) rfl (by rw [hb]; exact hd) hRm.1 (by have h9 := x_cats_map G st; show 2 * 0 + _ + (nativeFrameWords "java/lang/System" "arraycopy" 5 + 11) ≤ _; omega)
  have e1 : copied (vp_cell G.2.2.2.1 (n0', .inl (h.2.1 q0))) (vp_cell G.2.2.2.1 (n1', .inl (h.2.1 q))) 0 0 n = vp_cell G.2.2.2.1 (n1', .inl (va_cpy (h.2.1 q0) (h.2.1 q) (0 : Int32).toNatClampNeg (0 : Int32).toNatClampNeg n.toNatClampNeg)) := va_copied (fun z => .int z) _ _ _ _ (by rw [h0c]; omega)
  rw [e1] at X' step
  have hlt : xA G q < H.size := (Array.getElem?_eq_some_iff.mp hc1).1
  generalize hH1 : H.setIfInBounds (xA G q) (vp_cell G.2.2.2.1 (n1', .inl (va_cpy (h.2.1 q0) (h.2.1 q) (0 : Int32).toNatClampNeg (0 : Int32).toNatClampNeg n.toNatClampNeg))) = H1
  have hheap : ((T.setVm vm').setCell (xA G q) (vp_cell G.2.2.2.1 (n1', .inl (va_cpy (h.2.1 q0) (h.2.1 q) (0 : Int32).toNatClampNeg (0 : Int32).toNatClampNeg n.toNatClampNeg)))).heap = H1 := by rw [← hH1, ← hT]; rfl
  have eo : ∀ a : Nat, a ≠ xA G q → H1[a]? = H[a]? := fun a ha => by rw [← hH1]; simp [Array.getElem?_setIfInBounds, Ne.symm ha]
  have ez : H1.size = H.size := by rw [← hH1]; simp
  have ea : H1[xA G q]? = some (vp_cell G.2.2.2.1 (n1', .inl (fun j => if j < n.toNatClampNeg then h.2.1 q0 j else h.2.1 q j))) := by
    rw [← hH1]
    simp only [Array.getElem?_setIfInBounds, hlt, if_true]
    congr 5
    funext j
    simp [va_cpy]
  have hqn := xR_ne0 hR ht1 (show (1 : Nat) ≠ 5 by decide)
  have hR1 : xR G (x_copy h q0 q n.toNatClampNeg) H1 := xR_put (t2 := (1, n1', r1)) hS.1 hR ht1 (show (1 : Nat) ≠ 5 by decide) (x_set_self ht1).symm (fun k' hk' => by simp [x_copy, hk']) (fun _ _ => rfl) ez eo (by
    show H1[xA G q]? = some (vp_cell G.2.2.2.1 (n1', .inl ((x_copy h q0 q n.toNatClampNeg).2.1 q)))
    rw [ea]
    simp [x_copy])
  obtain ⟨t, a1, b1⟩ := k H1 _ ls cells slots hR1 ⟨by rw [ez]; exact hV.1, fun a g1 g2 => by
      rw [eo a (fun z => g2 (by rw [z]; exact xA_in hqn))]
      exact hV.2.1 a g1 g2, fun z hz => by
      rcases List.mem_append.mp hz with z1 | z1
      · exact hV.2.2 z z1
      · obtain ⟨y, -, hy⟩ := List.mem_map.mp z1
        rw [← hy]
        exact xA_in hqn⟩ hl hc hz _ hheap X'
  exact ⟨t, step t a1, b1⟩
end XSTEP
