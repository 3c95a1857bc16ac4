/-! ===== calls, throws and ends ===== -/
theorem xT_good {w : Cond} (h : w ∈ xT) : (w.onTables && w.keeps) = true ∨ ∃ ty, w = .arrayClass ty := good_of_word (List.mem_filter.mp h).2
def xws (j : Nat) : List Cond := xcw j :: xT
theorem xcw_good (j : Nat) : goodWord (xcw j) = true := by
  unfold xcw
  split <;> rfl
theorem xws_good {j : Nat} (h : j + 1 < xNM) : GoodIn xT (xws j) := by
  intro w hw
  rcases List.mem_cons.mp hw with e | e
  · subst e
    exact ⟨xT_of (xcw_in j h) (xcw_good j), good_of_word (xcw_good j)⟩
  · exact ⟨e, xT_good e⟩
def xPre (G : XG) (as : List Value) (h : XH) : Array Value → State → Prop := va_Pc (as.map (xV G)) (fun U => xS G U ∧ xR G h U.heap)
def xQ (G : XG) (o : XO) (h2 : XH) : Array Value → State → Outcome → State → Prop := fun _ st oc t => (∃ v, o = .inl v ∧ oc = .returned (v.map (xV G)) ∧ xR G h2 t.heap) ∧ va_F (xFr G) st t
def xX (G : XG) (o : XO) (h2 : XH) : String → State → State → Prop := fun E st t => (∃ n, o = .inr n ∧ E = xen n ∧ xR G h2 t.heap) ∧ va_F (xFr G) st t
/-- the contract of method j: what the toy says it does, it does -/
def xMt (l : Launch) (G : XG) (d j : Nat) (as : List Value) (h : XH) (o : XO) (h2 : XH) : Prop := ∀ mc ms, h.1.length + mc = h2.1.length → h.2.2.2 + ms = h2.2.2.2 →
  vx_Met l (xy j) (xws j) { frames := d + 6, cells := mc, slots := ms, locals := 60 * d + 120 } (xPre G as h) (xQ G o h2) (xX G o h2) mc ms (xFr G)
theorem xPre_blind (G : XG) (as : List Value) (h : XH) : FrameBlind (xPre G as h) := fun a U g mk q => ⟨q.1, xS.warm (s := U) (U := U.calling g mk a) q.2.1 (State.WarmedH.refl U) (fun _ _ _ => rfl), q.2.2⟩
theorem x_cats_map (G : XG) (st : List Value) : ((st.map (xV G)).map fun v => v.category).sum = x_cats st := by
  unfold x_cats
  rw [List.map_map]
  congr 1
  apply List.map_congr_left
  intro v _
  exact xV_cat G v
section XCALL
variable {p : Program} {l : Launch} {e : Env} {R : Room} {s : State} {m : MethodId} {args : Array Value} {below : List Frame} {meth : Method} {c : Code} {G : XG} {o : Nat} {bytes : ByteArray} {mL : Nat} {n0 z0 : Nat} {Q : State → Prop}
theorem x_pre {H : Heap} {locs : List Loc} {as : List Value} {h : XH} (hS : xS G s) (hR : xR G h H) (hV : va_S (xFr G) s.heap H locs) : PreS s H (xPre G as h) (as.map (xV G)) :=
  ⟨xPre_blind G as h, fun U hU hW => ⟨rfl, xS.warm hS hW (fun q hq hn => by rw [hU]; exact hV.2.1 q hq hn), by rw [hU]; exact hR⟩⟩
theorem x_callB {idx j mc ms : Nat} {rm : Room} (hts : ∀ w ∈ xT, w.before args s = true) (hj : j + 1 < xNM) (hh : xhr j = []) (hl : (Cond.methodLink (xcn o) idx (xy j)).before args s = true) (hrc : rm.cells = mc) (hrs : rm.slots = ms) (hR : rm.frames + 1 ≤ R.frames ∧ 8 + (xml j + 11) + rm.locals ≤ R.locals) :
    CallB R s args (xcn o) idx (xy j) (xb j) (xml j) (xr j) (xws j) rm mc ms (xn j) := by
  have hc : xcw j = .code (xy j) (xb j) (xml j) (xr j) := by unfold xcw; rw [hh]
  have hG := xws_good hj
  have hm : Cond.code (xy j) (xb j) (xml j) (xr j) ∈ xws j := by rw [← hc]; exact List.mem_cons_self
  obtain ⟨h1, h2, -⟩ := xcw_ok2 j (by unfold xNM at hj; omega)
  have h3 := xcw_ok3 j (by unfold xNM at hj; omega)
  refine ⟨hrc, hrs, hR.1, hR.2, pay_in hts hG, hm, hts _ (hG _ hm).1, hts _ (xT_of (xci_in j hj) rfl), h2, fun sig hs => ?_, hl⟩
  rw [hs] at h3
  exact (Option.some.inj h3).symm
/-- a call, behind it: it has returned, or thrown -/
theorem x_call {H : Heap} {locs : List Loc} {ls : Array Slot} {cells slots mc ms pc : Nat} {st0 rest : List Value} {a : Array Value} {ro : XO} {h2 : XH} (hr : vx_Run p l e R s m args below meth c H locs cells slots mc ms (F0 m pc ls st0) rest (xQ G ro h2 a) (xX G ro h2) (xFr G)) (hV : va_S (xFr G) s.heap H locs)
    (kk : ∀ (v : Option Value) (H1 : Heap) (locs1 : List Loc), ro = .inl v → xR G h2 H1 → va_S (xFr G) s.heap H1 locs1 → W p l e R s m args below meth c H1 locs1 (cells + mc) (slots + ms) Q (F0 m (pc + 3) ls ((v.map (xV G)).toList ++ rest)))
    (kx : ∀ (n : Nat) (q9 : Addr) (ce : Cell) (H1 : Heap) (locs1 : List Loc), ro = .inr n → xR G h2 H1 → va_S (xFr G) s.heap H1 locs1 → H1[q9]? = some ce → ce.vm = .none → s.vm.findClass (xen n) = some ce.cls → vx_W p l e R s m args below meth c H1 locs1 (cells + mc) (slots + ms) Q (F0 m pc ls rest) q9) :
    W p l e R s m args below meth c H locs cells slots Q (F0 m pc ls st0) := by
  intro T hT X
  rcases hr T hT X with ⟨v, st₀, t, T', L, h0, X', hL, e1, e2, ⟨⟨v', hv, hv2, hR2⟩, hF⟩, st⟩ | ⟨q, st₀, t, T', L, E, ce, h0, X', hL, e1, e2, ⟨⟨n, hn, hE, hR2⟩, hF⟩, hce, hcv, hcl, st⟩
  · cases hv2
    obtain ⟨k1, k2, k3⟩ := vx_keep h0 e1 hV (fun _ _ z => z) (fun _ z => z) hL hF
    obtain ⟨t2, a1, b1⟩ := kk v' T'.heap (locs ++ L) hv (by rw [e1]; exact hR2) k3 T' rfl X'
    exact ⟨t2, st t2 a1, b1⟩
  · obtain ⟨k1, k2, k3⟩ := vx_keep h0 e1 hV (fun _ _ z => z) (fun _ z => z) hL hF
    subst hE
    obtain ⟨t2, a1, b1⟩ := kx n q ce T'.heap (locs ++ L) hn (by rw [e1]; exact hR2) k3 (by rw [e1]; exact hce) hcv hcl T' rfl X'
    exact ⟨t2, st.trans a1, b1⟩
/-- the method's own table against the toy's -/
def xhOK (o : Nat) (bytes : ByteArray) : List (Nat × Nat × Nat × Nat × Nat × Nat) → List (Nat × Nat × Nat × Nat) → Prop
  | [], [] => True
  | (s, e, h, x, k, w) :: hs, (s', e', h', ct) :: hr => (s = s' ∧ e = e' ∧ h = h' ∧ ct ≠ 0 ∧ Cond.classLink (xcn o) ct (xen x) ∈ lw_tbl ∧ (x = 1 ∨ x = 2 ∨ x = 3) ∧ (w = 2 ∧ decode bytes h = .ok (.astore k, 2) ∨ w = 1 ∧ ∃ kf : Fin 4, (kf : Nat) = k ∧ decode bytes h = .ok (.astore_n kf, 1))) ∧ xhOK o bytes hs hr
  | _, _ => False
theorem x_hand_ok {o : Nat} {bytes : ByteArray} {args : Array Value} {s : State} {G : XG} (hts : ∀ w ∈ xT, w.before args s = true) (hS : xS G s) {pc ex p2 k : Nat} (hex : ex = 1 ∨ ex = 2 ∨ ex = 3) : ∀ (hs : List (Nat × Nat × Nat × Nat × Nat × Nat)) (hr : List (Nat × Nat × Nat × Nat)), xhOK o bytes hs hr → x_hand hs pc ex = some (p2, k) →
    ∃ (pre : List ExceptionTableEntry) (x : ExceptionTableEntry) (suf : List ExceptionTableEntry), tableOf hr = pre ++ x :: suf ∧ (∀ z ∈ pre, covers z pc = false ∨ (z.catchType ≠ 0 ∧ ∃ nm : String, (Cond.classLink (xcn o) z.catchType nm).before args s = true ∧ va_Nc (xen ex) nm s)) ∧ covers x pc = true ∧ x.catchType ≠ 0 ∧ (Cond.classLink (xcn o) x.catchType (xen ex)).before args s = true ∧
      (p2 = x.handlerPc + 2 ∧ decode bytes x.handlerPc = .ok (.astore k, 2) ∨ p2 = x.handlerPc + 1 ∧ ∃ kf : Fin 4, (kf : Nat) = k ∧ decode bytes x.handlerPc = .ok (.astore_n kf, 1)) := by
  intro hs
  induction hs with
  | nil => intro hr _ h; cases h
  | cons q hs ih =>
    intro hr hok h
    obtain ⟨s1, e1, h1, x1, k1, w1⟩ := q
    cases hr with
    | nil => exact hok.elim
    | cons r hr =>
      obtain ⟨s2, e2, h2, ct⟩ := r
      obtain ⟨⟨g1, g2, g3, g4, g5, g6, g7⟩, hok⟩ := hok
      subst g1; subst g2; subst g3
      simp only [x_hand] at h
      by_cases hq : s1 ≤ pc ∧ pc < e1 ∧ x1 = ex
      · rw [if_pos hq] at h
        cases h
        obtain ⟨q1, q2, q3⟩ := hq
        subst q3
        refine ⟨[], ⟨s1, e1, h1, ct⟩, tableOf hr, rfl, (fun z hz => by cases hz), (by simp [covers, q1, q2]), g4, hts _ (xT_of g5 rfl), ?_⟩
        rcases g7 with ⟨a1, a2⟩ | ⟨a1, a2⟩
        · exact Or.inl ⟨by rw [a1], a2⟩
        · exact Or.inr ⟨by rw [a1], a2⟩
      · rw [if_neg hq] at h
        obtain ⟨pre, x, suf, i1, i2, i3⟩ := ih hr hok h
        refine ⟨⟨s1, e1, h1, ct⟩ :: pre, x, suf, ?_, ?_, i3⟩
        · show _ :: tableOf hr = _ :: (pre ++ x :: suf)
          rw [i1]
        · intro z hz
          rcases List.mem_cons.mp hz with e | e
          · subst e
            by_cases hc : s1 ≤ pc ∧ pc < e1
            · refine Or.inr ⟨g4, xen x1, hts _ (xT_of g5 rfl), ?_⟩
              have hne : x1 ≠ ex := fun z => hq ⟨hc.1, hc.2, z⟩
              refine hS.2.2.2.2.2.2.2.2.2.1 ex x1 ?_
              rcases hex with z | z | z <;> rcases g6 with y | y | y <;> subst z <;> subst y <;> first | exact absurd rfl hne | decide
            · refine Or.inl ?_
              simp only [covers, Bool.and_eq_false_iff, decide_eq_false_iff_not]
              by_cases hc1 : s1 ≤ pc
              · exact Or.inr fun z => hc ⟨hc1, z⟩
              · exact Or.inl hc1
          · exact i2 z e
/-- caught: the walk goes on behind the handler's first store -/
theorem x_caught (C : xCx p l s m args meth c G o bytes mL) {hs : List (Nat × Nat × Nat × Nat × Nat × Nat)} {hr : List (Nat × Nat × Nat × Nat)} (hT : c.exceptionTable.toList = tableOf hr) (hok : xhOK o bytes hs hr) {pc ex p2 k : Nat} (hex : ex = 1 ∨ ex = 2 ∨ ex = 3) (hh : x_hand hs pc ex = some (p2, k)) {L : XL} (hk : k < L.length) {h2 : XH} (kc : xW p l e R s m args below meth c G n0 z0 Q (p2, (x_cl L k).set k none, []) h2)
    {H1 : Heap} {locs1 : List Loc} {ls : Array Slot} {cells slots : Nat} {q9 : Addr} {ce : Cell} {rest : List Value} (hR : xR G h2 H1) (hV : va_S (xFr G) s.heap H1 locs1) (hl : x_ls G ls L) (hc : n0 + cells = h2.1.length) (hz : z0 + slots = h2.2.2.2) (hcell : H1[q9]? = some ce) (hcv : ce.vm = .none) (hcl : s.vm.findClass (xen ex) = some ce.cls) :
    vx_W p l e R s m args below meth c H1 locs1 cells slots Q (F0 m pc ls rest) q9 := by
  obtain ⟨hx, hb, hml, hown, hts, hlocks, hS, hfl⟩ := C
  obtain ⟨pre, x, suf, i1, i2, i3, i4, i5, i6⟩ := x_hand_ok hts hS hex hs hr hok hh
  refine vx_catch hown pre x suf (hT.trans i1) i2 i3 i4 i5 (va_Nw.use rfl (hS.2.2.2.2.2.2.2.2.1 ex)) hcell hcv hcl ?_
  rcases i6 with ⟨e1, e2⟩ | ⟨e1, kf, e2, e3⟩
  · subst e1
    exact lv_astore hx hb e2 hl hk rfl (fun ls' hl' => kc H1 locs1 ls' cells slots hR hV (x_ls_s0 hk hl') hc hz)
  · subst e1
    exact lv_astore_n hx hb e3 e2 hl hk rfl (fun ls' hl' => kc H1 locs1 ls' cells slots hR hV (x_ls_s0 hk hl') hc hz)
end XCALL
