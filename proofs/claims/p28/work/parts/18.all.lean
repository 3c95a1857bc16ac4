/-! ===== the contract of every method ===== -/
theorem xrun_le : ∀ (d F j : Nat) (as : List Value) (h : XH) (o : XO) (h2 : XH), xrun F d j as h = some (o, h2) → x_le h h2 := by
  intro d
  induction d with
  | zero => intro F j as h o h2 e; cases e
  | succ d ih =>
    intro F j as h o h2 e
    simp only [xrun] at e
    split at e
    · exact xex_le (fun j as h o h2 => ih F j as h o h2) _ _ _ _ _ e
    · cases e
theorem x_args_len (G : XG) : ∀ (vs : List Value), x_nod vs = true → (lg_sl (vs.map (xV G))).length = (x_args vs).length := by
  intro vs
  induction vs with
  | nil => intro _; rfl
  | cons v vs ih =>
    intro h
    simp only [x_nod, List.all_cons, Bool.and_eq_true] at h
    have h2 := ih h.2
    have hc : ∀ (a : Value) (l : List Value), lg_sl (a :: l) = (if a.category = 2 then [Slot.val a, Slot.second] else [Slot.val a]) ++ lg_sl l := fun a l => rfl
    rw [List.map_cons, hc, List.length_append, h2]
    cases v with
    | long x => show 2 + (x_args vs).length = (x_args vs).length + 1 + 1; omega
    | double x => cases h.1
    | int x => show 1 + (x_args vs).length = (x_args vs).length + 1; omega
    | float x => show 1 + (x_args vs).length = (x_args vs).length + 1; omega
    | null => show 1 + (x_args vs).length = (x_args vs).length + 1; omega
    | ref x => show 1 + (x_args vs).length = (x_args vs).length + 1; omega
    | retAddr x => show 1 + (x_args vs).length = (x_args vs).length + 1; omega
theorem x_nod_ne {vs : List Value} (h : x_nod vs = true) : ∀ u, u ∈ vs → ∀ x, u ≠ .double x := by
  intro u hu x e
  subst e
  have := List.all_eq_true.mp h _ hu
  cases this
/-- the locals at the entry of the model's frame are the toy's -/
theorem x_ls_entry (G : XG) {vs : List Value} {n : Nat} (hn : (x_args vs).length ≤ n) (hd : x_nod vs = true) : x_ls G ((lg_sl (vs.map (xV G)) ++ List.replicate (n - (lg_sl (vs.map (xV G))).length) Slot.unset).toArray) (x_entry vs n) := by
  have hlen : (x_entry vs n).length = n := by
    unfold x_entry
    rw [List.length_append, List.length_replicate]
    omega
  have h9 := x_args_len G vs hd
  have hl := lv_entry (vs.map (xV G)) (n := n) (by rw [h9]; exact hn)
  unfold x_ls
  rw [hlen]
  refine ⟨hl.1, hl.2.1, fun q hq => ?_⟩
  obtain ⟨v, hv, e⟩ := x_ents_mem.mp hq
  have hv2 : (x_args vs)[q.1]? = some (some v) := by
    unfold x_entry at hv
    by_cases hi : q.1 < (x_args vs).length
    · rwa [List.getElem?_append_left hi] at hv
    · rw [List.getElem?_append_right (by omega), List.getElem?_replicate] at hv
      split at hv <;> cases hv
  have h3 := x_args_mem (G := G) vs 0 q.1 v (x_nod_ne hd) hv2
  rw [Nat.zero_add] at h3
  have h4 := hl.2.2 _ h3
  rw [e]
  exact h4
theorem x_entry_len {vs : List Value} {n : Nat} (hn : (x_args vs).length ≤ n) : (x_entry vs n).length = n := by
  unfold x_entry
  rw [List.length_append, List.length_replicate]
  omega
theorem x_endM {p : Program} {l : Launch} {e : Env} {R : Room} {s : State} {m : MethodId} {args : Array Value} {below : List Frame} {meth : Method} {c : Code} {G : XG} {o : Nat} {bytes : ByteArray} {mL n0 z0 mc ms : Nat} {o2 : XO} {h2 : XH} (C : xCx p l s m args meth c G o bytes mL) {rt : Option FieldType} (hr : meth.sig.returnType = rt) (g1 : n0 + mc = h2.1.length) (g2 : z0 + ms = h2.2.2.2) :
    xEnd p l e R s m args below meth c G bytes rt n0 z0 (vx_MQ below (xQ G o2 h2) (xX G o2 h2) args s mc ms (xFr G)) o2 h2 := by
  obtain ⟨hx, hb, hml, hown, hts, hlocks, hS, hfl⟩ := C
  refine ⟨fun v ins st pc H locs ls cells slots hv hrn hd hR hV hc hz => ?_, fun n hn => ⟨mc, ms, rfl, g1, g2⟩⟩
  have hmc : mc = cells := by omega
  have hms : ms = slots := by omega
  subst hmc
  subst hms
  refine vx_ret ?_
  have hq : ∀ t : State, t.heap = H → xQ G o2 h2 args s (.returned (v.map (xV G))) t := fun t ht => ⟨⟨v, hv, rfl, by rw [ht]; exact hR⟩, hV.F ht⟩
  rcases hrn with ⟨hi, x, hs, hvx, hrt⟩ | ⟨hi, x, hs, hvx, hrt⟩ | ⟨hi, x, hs, hvx, hxx, t, hrt, ht⟩ | ⟨hi, hs, hvx, hrt⟩
  · subst hi hs hvx
    rcases hrt with hrt | ⟨hrt, h01⟩
    · exact W.iret hx hb (hr.trans hrt) (fun t ht _ => hq t ht) hV.2.2 hd hlocks
    · exact W.zret hx hb (hr.trans hrt) (by rcases h01 with z | z <;> subst z <;> decide) (fun t ht _ => hq t ht) hV.2.2 hd hlocks
  · subst hi hs hvx
    exact W.lret hx hb (hr.trans hrt) (fun t ht _ => hq t ht) hV.2.2 hd hlocks
  · subst hi hs hvx
    refine W.aret hx hb (hr.trans hrt) ?_ ?_ (fun t ht _ => hq t ht) hV.2.2 hd hlocks
    · cases t <;> first | (simp [x_isR] at ht; done) | exact Or.inl ⟨_, rfl⟩ | exact Or.inr ⟨_, rfl⟩
    · rcases hxx with z | ⟨q, z⟩
      · subst z; exact Or.inl rfl
      · subst z; exact Or.inr ⟨_, rfl⟩
  · subst hi hs hvx
    exact W.vret hx hb (hr.trans hrt) (fun t ht _ => hq t ht) hV.2.2 hd hlocks
set_option maxHeartbeats 4000000 in
theorem x_all (l : Launch) (hfl : l.stackTraces = false) (G : XG) : ∀ (d F j : Nat) (as : List Value) (h : XH) (o2 : XO) (h2 : XH), xrun F d j as h = some (o2, h2) → j + 1 < xNM → xMt l G d j as h o2 h2 := by
  intro d
  induction d with
  | zero => intro F j as h o2 h2 e; cases e
  | succ d ih =>
    intro F j as h o2 h2 e0 hj mc ms g1 g2
    have hj' : j < 120 := by unfold xNM at hj; omega
    simp only [xrun] at e0
    split at e0
    · rename_i hent
      have hm := xAll_get xm_all j hj'
      have hh := xAll_get xh_all j hj'
      have htb : ∀ pc t, (xtb j)[pc]? = some (some t) → xck (xo j) (decide ((xy j).name = "<init>")) (xhr j).isEmpty (xr j) (xb j) pc t = true := fun pc t ht => by
        have h9 := xall_get _ 0 pc t hm ht
        rwa [Nat.zero_add] at h9
      have hbody : ∀ (p : Program) (e : Env) (s : State) (m : MethodId) (args : Array Value) (below : List Frame) (meth : Method) (c : Code) (s₁ : State), BodyLoose p l (xy j) (headSpec (xws j) { frames := d + 1 + 6, cells := mc, slots := ms, locals := 60 * (d + 1) + 120 }) (xb j) (xml j) (xr j) e s m args below meth c s₁ → c.maxLocals = xml j → c.exceptionTable.toList = tableOf (xhr j) → xPre G as h args s →
          W p l e { frames := d + 1 + 6, cells := mc, slots := ms, locals := 60 * (d + 1) + 120 } s m args below meth c s.heap [] 0 0 (vx_MQ below (xQ G o2 h2) (xX G o2 h2) args s mc ms (xFr G)) (entryFrame m args (xml j)) := by
        intro p e s m args below meth c s₁ B hml hT hP
        obtain ⟨rfl, hS, hR⟩ := hP
        have hts0 := atoms_spec (ws := xws j) B.pre
        have hts : ∀ w ∈ xT, w.before (as.map (xV G)).toArray s = true := fun w hw => hts0 w (List.mem_cons_of_mem _ hw)
        have hown : s.vm.findClass (xcn (xo j)) = some m.cls := by rw [xo_ok j hj']; exact findClass_of_methodNamed B.named
        have hname : meth.name = (xy j).name := (name_of_methodNamed B.named B.method).1
        have C : xCx p l s m (as.map (xV G)).toArray meth c G (xo j) (xb j) (xml j) := ⟨B.exec, B.bytes, hml, hown, hts, B.notSynchronized, hS, hfl⟩
        rw [lg_entry_eq]
        exact xex_ok (d := d) C ⟨by show d + 7 ≤ d + 1 + 6; omega, by show 60 * d + 180 ≤ 60 * (d + 1) + 120; omega⟩ (ini := decide ((xy j).name = "<init>")) (nh := (xhr j).isEmpty) (fun z => hname.trans (of_decide_eq_true z)) hT (fun z => List.isEmpty_iff.mp z) hh (fun j as h o2 h2 z1 z2 => ih F j as h o2 h2 z1 z2) (fun j as h o h2 z => xrun_le d F j as h o h2 z) htb (n0 := h.1.length) (z0 := h.2.2.2) ⟨by show h2.1.length ≤ h.1.length + mc; omega, by show h2.2.2.2 ≤ h.2.2.2 + ms; omega⟩ (x_endM C B.returns g1 g2) F _ h (x_entry_len hent.1) e0 s.heap [] _ 0 0 hR va_S.rf (x_ls_entry G hent.1 hent.2) (by omega) (by omega)
      have hpl := (xcw_ok2 j hj').1
      by_cases hx0 : xhr j = []
      · refine vx_ofW (cc := xb j) (maxL := xml j) (ret := xr j) (ws' := xT) hpl (by unfold xws xcw; rw [hx0]) (fun p e s m args below meth c s₁ B hml ht hP => ?_)
        refine hbody p e s m args below meth c s₁ B hml ?_ hP
        rw [hx0]
        exact List.eq_nil_iff_forall_not_mem.mpr ht
      · obtain ⟨g, gs, hg⟩ := List.exists_cons_of_ne_nil hx0
        have hcw : xcw j = .codeWith (xy j) (xb j) (xml j) (xr j) (g :: gs) := by unfold xcw; rw [hg]
        refine vx_ofWH (cc := xb j) (maxL := xml j) (ret := xr j) (hh := g :: gs) (ws' := xT) hpl (by unfold xws; rw [hcw]) (fun p e s m args below meth c s₁ B hml hP => ?_)
        refine hbody p e s m args below meth c s₁ B hml ?_ hP
        rw [hg]
        exact vx_table (x := xy j) B (by have h9 := atoms_spec (ws := xws j) B.pre _ (List.mem_cons_self); rw [hcw] at h9; exact h9)
    · cases e0
