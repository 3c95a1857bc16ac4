/-! ===== one step, many steps, all methods ===== -/
section XSIM
variable {p : Program} {l : Launch} {e : Env} {R : Room} {s : State} {m : MethodId} {args : Array Value} {below : List Frame} {meth : Method} {c : Code} {G : XG} {o : Nat} {bytes : ByteArray} {mL : Nat} {n0 z0 : Nat} {Q : State → Prop}
theorem xMM_ok {o i cc : Nat} (h : (o, i, cc) ∈ xMM) : ∃ pos : Nat, (cc = 1 → lw_tbl[pos]? = some (Cond.methodLink (xcn o) i Lib.Math.max.name)) ∧ (cc = 2 → lw_tbl[pos]? = some (Cond.methodLink (xcn o) i Lib.Math.min.name)) ∧ (cc = 3 → lw_tbl[pos]? = some (Cond.methodLink (xcn o) i Lib.MathLoose.max_long.x)) ∧ (cc = 4 → lw_tbl[pos]? = some (Cond.methodLink (xcn o) i Lib.MathLoose.min_long.x)) := by
  obtain ⟨q, hq, e⟩ := List.mem_map.mp h
  have w := xMMp_ok q hq
  obtain ⟨q1, q2, q3, q4⟩ := q
  cases e
  exact ⟨q4, fun z => by dsimp only at z; subst z; exact w, fun z => by dsimp only at z; subst z; exact w, fun z => by dsimp only at z; subst z; exact w, fun z => by dsimp only at z; subst z; exact w⟩
theorem x_of_go {pc : Nat} {L : XL} {st : List Value} {h : XH} {r : XR} (e0 : x_go pc L st h = some r) : r = .inl ((pc, L, st), h) := by cases e0; rfl
set_option maxHeartbeats 8000000 in
theorem xinvS_ok {d : Nat} (C : xCx p l s m args meth c G o bytes mL) (hRm : d + 7 ≤ R.frames ∧ 60 * d + 180 ≤ R.locals) {hs : List (Nat × Nat × Nat × Nat × Nat × Nat)} {hr : List (Nat × Nat × Nat × Nat)} {rt : Option FieldType} (hT : c.exceptionTable.toList = tableOf hr) (hok : xhOK o bytes hs hr) {call : Nat → List Value → XH → Option (XO × XH)} (hcall : ∀ j as h o2 h2, call j as h = some (o2, h2) → j + 1 < xNM → xMt l G d j as h o2 h2) (hcle : ∀ j as h o h2, call j as h = some (o, h2) → x_le h h2)
    {pc i a b cc : Nat} {L : XL} {st : List Value} {h : XH} {r : XR} (hL : L.length = mL) (hd : decode bytes pc = .ok (.invokestatic i, 3)) (hck : xckI o (.invokestatic i) a b cc = true) (e0 : xinvS call hs pc a b cc L st h = some r) (hcap : (x_of r).1.length ≤ n0 + R.cells ∧ (x_of r).2.2.2 ≤ z0 + R.slots) (k : xK p l e R s m args below meth c G bytes rt n0 z0 Q r) : xW p l e R s m args below meth c G n0 z0 Q (pc, L, st) h := by
  unfold xinvS at e0
  split at e0
  · rename_i hst
    split at e0
    · simp only [xckI, if_true, Bool.and_eq_true, decide_eq_true_eq] at hck
      cases hcl : call a (st.take b).reverse h with
      | none => rw [hcl] at e0; cases e0
      | some y =>
        obtain ⟨ro, h3⟩ := y
        rw [hcl] at e0
        have hle := hcle _ _ _ _ _ hcl
        rw [x_back_of e0] at hcap
        intro H locs ls cells slots hR hV hl hc hz
        obtain ⟨mc, hmc⟩ := Nat.exists_eq_add_of_le hle.1
        obtain ⟨ms, hms⟩ := Nat.exists_eq_add_of_le hle.2
        exact x_fin C hT hok e0 k (x_runS C hRm hck.1 hck.2 hL hst (fun hj => hcall _ _ _ _ _ hcl hj) hd hR hV hl hmc.symm hms.symm (by omega)) hV hl (by omega) (by omega)
    all_goals (have C' := C; obtain ⟨hx, hb, hml, hown, hts, hlocks, hS, hfl⟩ := C')
    · split at e0
      · rename_i y x st
        have e1 := x_of_go e0
        subst e1
        intro H locs ls cells slots hR hV hl hc hz
        replace hck : (decide ((o, i, 1) ∈ xMM) && decide (b = 2)) = true := hck
        simp only [Bool.and_eq_true, decide_eq_true_eq] at hck
        obtain ⟨pos, w1, w2, w3, w4⟩ := xMM_ok  hck.1
        have hcap : h.1.length ≤ n0 + R.cells ∧ h.2.2.2 ≤ z0 + R.slots := hcap
        have hb2 : b = 2 := hck.2
        subst hb2
        have hst2 : x_cats st ≤ 8 := hst.2
        exact va_mmax hx hb (by rw [hml, ← hL]; exact hl.1.symm) hown (hts _ (xT_of (List.mem_of_getElem? (w1 rfl)) rfl)) (hts _ (xT_of (List.mem_of_getElem? xmm_s1) rfl)) (hts _ (xT_of (List.mem_of_getElem? xmm_i) rfl)) (hts _ (xT_of (List.mem_of_getElem? xmm_c1) rfl)) (by omega) (by rw [x_cats_map]; omega) (by omega) (by omega) hd (k H locs ls cells slots hR hV hl hc hz)
      · cases e0
    · split at e0
      · rename_i y x st
        have e1 := x_of_go e0
        subst e1
        intro H locs ls cells slots hR hV hl hc hz
        replace hck : (decide ((o, i, 2) ∈ xMM) && decide (b = 2)) = true := hck
        simp only [Bool.and_eq_true, decide_eq_true_eq] at hck
        obtain ⟨pos, w1, w2, w3, w4⟩ := xMM_ok  hck.1
        have hcap : h.1.length ≤ n0 + R.cells ∧ h.2.2.2 ≤ z0 + R.slots := hcap
        have hb2 : b = 2 := hck.2
        subst hb2
        have hst2 : x_cats st ≤ 8 := hst.2
        exact va_mmin hx hb (by rw [hml, ← hL]; exact hl.1.symm) hown (hts _ (xT_of (List.mem_of_getElem? (w2 rfl)) rfl)) (hts _ (xT_of (List.mem_of_getElem? xmm_s2) rfl)) (hts _ (xT_of (List.mem_of_getElem? xmm_i) rfl)) (hts _ (xT_of (List.mem_of_getElem? xmm_c2) rfl)) (by omega) (by rw [x_cats_map]; omega) (by omega) (by omega) hd (k H locs ls cells slots hR hV hl hc hz)
      · cases e0
    · split at e0
      · rename_i y x st
        have e1 := x_of_go e0
        subst e1
        intro H locs ls cells slots hR hV hl hc hz
        replace hck : (decide ((o, i, 3) ∈ xMM) && decide (b = 2)) = true := hck
        simp only [Bool.and_eq_true, decide_eq_true_eq] at hck
        obtain ⟨pos, w1, w2, w3, w4⟩ := xMM_ok  hck.1
        have hcap : h.1.length ≤ n0 + R.cells ∧ h.2.2.2 ≤ z0 + R.slots := hcap
        have hb2 : b = 2 := hck.2
        subst hb2
        have hst2 : x_cats st ≤ 8 := hst.2
        exact va_mmax_long hx hb (by rw [hml, ← hL]; exact hl.1.symm) hown (hts _ (xT_of (List.mem_of_getElem? (w3 rfl)) rfl)) (hts _ (xT_of (List.mem_of_getElem? xmm_s3) rfl)) (hts _ (xT_of (List.mem_of_getElem? xmm_i) rfl)) (hts _ (xT_of (List.mem_of_getElem? xmm_c3) rfl)) (by omega) (by rw [x_cats_map]; omega) (by omega) (by omega) hd (k H locs ls cells slots hR hV hl hc hz)
      · cases e0
    · split at e0
      · rename_i y x st
        have e1 := x_of_go e0
        subst e1
        intro H locs ls cells slots hR hV hl hc hz
        replace hck : (decide ((o, i, 4) ∈ xMM) && decide (b = 2)) = true := hck
        simp only [Bool.and_eq_true, decide_eq_true_eq] at hck
        obtain ⟨pos, w1, w2, w3, w4⟩ := xMM_ok  hck.1
        have hcap : h.1.length ≤ n0 + R.cells ∧ h.2.2.2 ≤ z0 + R.slots := hcap
        have hb2 : b = 2 := hck.2
        subst hb2
        have hst2 : x_cats st ≤ 8 := hst.2
        exact va_mmin_long hx hb (by rw [hml, ← hL]; exact hl.1.symm) hown (hts _ (xT_of (List.mem_of_getElem? (w4 rfl)) rfl)) (hts _ (xT_of (List.mem_of_getElem? xmm_s4) rfl)) (hts _ (xT_of (List.mem_of_getElem? xmm_i) rfl)) (hts _ (xT_of (List.mem_of_getElem? xmm_c4) rfl)) (by omega) (by rw [x_cats_map]; omega) (by omega) (by omega) hd (k H locs ls cells slots hR hV hl hc hz)
      · cases e0
    · split at e0
      · rename_i n dp q sp q0 st
        split at e0
        · rename_i n0' r0 n1' r1 ht0 ht1
          split at e0
          · cases e0
          · rename_i hno
            have e1 := x_of_go e0
            subst e1
            replace hck : (decide (o = 9) && decide (i = 150) && decide (b = 5)) = true := hck
            simp only [Bool.and_eq_true, decide_eq_true_eq] at hck
            obtain ⟨⟨o9, i9⟩, b5⟩ := hck
            subst o9 i9 b5
            have g1 : ¬ n < 0 := fun z => hno (Or.inl z)
            have g2 : dp = 0 := Classical.byContradiction fun z => hno (Or.inr (Or.inl z))
            have g3 : sp = 0 := Classical.byContradiction fun z => hno (Or.inr (Or.inr (Or.inl z)))
            have g4 : n.toNatClampNeg ≤ n0' := Nat.not_lt.mp fun z => hno (Or.inr (Or.inr (Or.inr (Or.inl z))))
            have g5 : n.toNatClampNeg ≤ n1' := Nat.not_lt.mp fun z => hno (Or.inr (Or.inr (Or.inr (Or.inr (Or.inl z)))))
            have g6 : q0 ≠ q := fun z => hno (Or.inr (Or.inr (Or.inr (Or.inr (Or.inr z)))))
            subst g2 g3
            exact x_acopy C (by omega) hL ht0 ht1 g1 g4 g5 g6 hst.2 hd k
        · cases e0
      · cases e0
    · cases e0
  · cases e0
theorem xinvV_ok {d : Nat} (C : xCx p l s m args meth c G o bytes mL) (hRm : d + 7 ≤ R.frames ∧ 60 * d + 180 ≤ R.locals) {hs : List (Nat × Nat × Nat × Nat × Nat × Nat)} {hr : List (Nat × Nat × Nat × Nat)} {rt : Option FieldType} (hT : c.exceptionTable.toList = tableOf hr) (hok : xhOK o bytes hs hr) {call : Nat → List Value → XH → Option (XO × XH)} (hcall : ∀ j as h o2 h2, call j as h = some (o2, h2) → j + 1 < xNM → xMt l G d j as h o2 h2) (hcle : ∀ j as h o h2, call j as h = some (o, h2) → x_le h h2)
    {pc i a b cc : Nat} {L : XL} {st : List Value} {h : XH} {r : XR} (hL : L.length = mL) (hd : decode bytes pc = .ok (.invokevirtual i, 3)) (hck : xckI o (.invokevirtual i) a b cc = true) (e0 : xinvV call hs pc a b cc L st h = some r) (hcap : (x_of r).1.length ≤ n0 + R.cells ∧ (x_of r).2.2.2 ≤ z0 + R.slots) (k : xK p l e R s m args below meth c G bytes rt n0 z0 Q r) : xW p l e R s m args below meth c G n0 z0 Q (pc, L, st) h := by
  simp only [xckI, Bool.and_eq_true, decide_eq_true_eq] at hck
  obtain ⟨⟨⟨f1, f2⟩, f3⟩, f4⟩ := hck
  unfold xinvV at e0
  split at e0
  · rename_i hst
    split at e0
    · rename_i q vs hv
      split at e0
      · rename_i ci rs ht
        split at e0
        · rename_i hci
          subst hci
          cases hcl : call a (.ref q :: vs) h with
          | none => rw [hcl] at e0; cases e0
          | some y =>
            obtain ⟨ro, h3⟩ := y
            rw [hcl] at e0
            have hle := hcle _ _ _ _ _ hcl
            rw [x_back_of e0] at hcap
            intro H locs ls cells slots hR hV hl hc hz
            obtain ⟨mc, hmc⟩ := Nat.exists_eq_add_of_le hle.1
            obtain ⟨ms, hms⟩ := Nat.exists_eq_add_of_le hle.2
            exact x_fin C hT hok e0 k (x_runV C hRm f1 f2 f3 f4 hL hst hv ht (fun hj => hcall _ _ _ _ _ hcl hj) hd hR hV hl hmc.symm hms.symm (by omega)) hV hl (by omega) (by omega)
        · cases e0
      · cases e0
    · cases e0
  · cases e0
theorem xinvI_ok {d : Nat} (C : xCx p l s m args meth c G o bytes mL) (hRm : d + 7 ≤ R.frames ∧ 60 * d + 180 ≤ R.locals) {hs : List (Nat × Nat × Nat × Nat × Nat × Nat)} {hr : List (Nat × Nat × Nat × Nat)} {rt : Option FieldType} (hT : c.exceptionTable.toList = tableOf hr) (hok : xhOK o bytes hs hr) {call : Nat → List Value → XH → Option (XO × XH)} (hcall : ∀ j as h o2 h2, call j as h = some (o2, h2) → j + 1 < xNM → xMt l G d j as h o2 h2) (hcle : ∀ j as h o h2, call j as h = some (o, h2) → x_le h h2)
    {pc i a b cc : Nat} {L : XL} {st : List Value} {h : XH} {r : XR} (hL : L.length = mL) (hd : decode bytes pc = .ok (.invokespecial i, 3)) (hck : xckI o (.invokespecial i) a b cc = true) (e0 : xinvI call hs pc a b cc L st h = some r) (hcap : (x_of r).1.length ≤ n0 + R.cells ∧ (x_of r).2.2.2 ≤ z0 + R.slots) (k : xK p l e R s m args below meth c G bytes rt n0 z0 Q r) : xW p l e R s m args below meth c G n0 z0 Q (pc, L, st) h := by
  unfold xinvI at e0
  split at e0
  · rename_i hst
    split at e0
    · rename_i q vs hv
      split at e0
      · split at e0
        · simp only [xckI, if_true, decide_eq_true_eq] at hck
          rw [xOI_eq] at hck
          obtain ⟨z, hz', ez⟩ := List.mem_map.mp hck
          have w1 := xOI_ok z hz'
          obtain ⟨z1, z2, z3⟩ := z
          cases ez
          obtain ⟨hx, hb, hml, hown, hts, hlocks, hS, hfl⟩ := C
          have e1 := x_of_go e0
          subst e1
          intro H locs ls cells slots hR hV hl hc hz
          have hsk := x_rev hv G
          show W p l e R s m args below meth c H locs cells slots Q (F0 m pc ls (st.map (xV G)))
          rw [hsk]
          exact W.objInit hx hb hown (hts _ (xT_of (List.mem_of_getElem? w1) rfl)) (hts _ (xT_of (List.mem_of_getElem? xOI_i) rfl)) (hts _ (xT_of (List.mem_of_getElem? xOI_c) rfl)) rfl (by rw [hml, ← hL]; exact hl.1) rfl hd (by omega) (by have h9 := x_cats_map G (st.drop b); show 2 * 0 + _ + 12 ≤ _; omega) (k H locs ls cells slots hR hV hl hc hz)
        · cases e0
      · rename_i hc5
        have hck : (((o, i, a, 2) ∈ xML ∨ (o, i, a) ∈ xNS) ∧ b = xn a + 1) := by
          simp only [xckI] at hck
          rw [if_neg (by intro z; exact hc5 z)] at hck
          simpa using hck
        cases hcl : call a (.ref q :: vs) h with
        | none => rw [hcl] at e0; cases e0
        | some y =>
          obtain ⟨ro, h3⟩ := y
          rw [hcl] at e0
          have hle := hcle _ _ _ _ _ hcl
          rw [x_back_of e0] at hcap
          intro H locs ls cells slots hR hV hl hc hz
          obtain ⟨mc, hmc⟩ := Nat.exists_eq_add_of_le hle.1
          obtain ⟨ms, hms⟩ := Nat.exists_eq_add_of_le hle.2
          exact x_fin C hT hok e0 k (x_runI C hRm hck.1 hck.2 hL hst hv (fun hj => hcall _ _ _ _ _ hcl hj) hd hR hV hl hmc.symm hms.symm (by omega)) hV hl (by omega) (by omega)
    · cases e0
  · cases e0
theorem xstp_ok {d : Nat} (C : xCx p l s m args meth c G o bytes mL) (hRm : d + 7 ≤ R.frames ∧ 60 * d + 180 ≤ R.locals) {ini nh : Bool} {hs : List (Nat × Nat × Nat × Nat × Nat × Nat)} {hr : List (Nat × Nat × Nat × Nat)} {rt : Option FieldType} (hini : ini = true → meth.name = "<init>") (hT : c.exceptionTable.toList = tableOf hr) (hnh : nh = true → hr = []) (hok : xhOK o bytes hs hr) {call : Nat → List Value → XH → Option (XO × XH)} (hcall : ∀ j as h o2 h2, call j as h = some (o2, h2) → j + 1 < xNM → xMt l G d j as h o2 h2) (hcle : ∀ j as h o h2, call j as h = some (o, h2) → x_le h h2)
    {tb : List (Option XI)} (htb : ∀ pc t, tb[pc]? = some (some t) → xck o ini nh rt bytes pc t = true) {fr : XF} {h : XH} {r : XR} (hL : fr.2.1.length = mL) (e0 : xstp call hs tb fr h = some r) (hcap : (x_of r).1.length ≤ n0 + R.cells ∧ (x_of r).2.2.2 ≤ z0 + R.slots) (k : xK p l e R s m args below meth c G bytes rt n0 z0 Q r) : xW p l e R s m args below meth c G n0 z0 Q fr h := by
  obtain ⟨pc, L, st⟩ := fr
  unfold xstp at e0
  cases ht : tb[pc]? with
  | none => rw [ht] at e0; cases e0
  | some t =>
    cases t with
    | none => rw [ht] at e0; cases e0
    | some t =>
      rw [ht] at e0
      have hck := htb _ _ ht
      obtain ⟨ins, a, b, cc, v, w⟩ := t
      simp only [xck, Bool.and_eq_true] at hck
      obtain ⟨hd0, k1, k2, k3, k4⟩ := hck
      have hd := x_dec_ok hd0
      dsimp only at e0
      cases hp : xpure pc ins a v w L st with
      | some fr2 =>
        rw [hp] at e0
        cases e0
        exact xpure_ok C hd k1 hp k
      | none =>
        rw [hp] at e0
        dsimp only at e0
        unfold xeff at e0
        split at e0
        · exact xinvS_ok C hRm hT hok hcall hcle hL hd k3 e0 hcap k
        · exact xinvV_ok C hRm hT hok hcall hcle hL hd k3 e0 hcap k
        · exact xinvI_ok C hRm hT hok hcall hcle hL hd k3 e0 hcap k
        · cases r with
          | inl r => exact xmem_ok C hini hd k2 e0 hcap k
          | inr r => exact xmem_end C (by omega) (fun z => by rw [hT, hnh z]; rfl) hL hd k2 k4 e0 hcap k
theorem xex_ok {d : Nat} (C : xCx p l s m args meth c G o bytes mL) (hRm : d + 7 ≤ R.frames ∧ 60 * d + 180 ≤ R.locals) {ini nh : Bool} {hs : List (Nat × Nat × Nat × Nat × Nat × Nat)} {hr : List (Nat × Nat × Nat × Nat)} {rt : Option FieldType} (hini : ini = true → meth.name = "<init>") (hT : c.exceptionTable.toList = tableOf hr) (hnh : nh = true → hr = []) (hok : xhOK o bytes hs hr) {call : Nat → List Value → XH → Option (XO × XH)} (hcall : ∀ j as h o2 h2, call j as h = some (o2, h2) → j + 1 < xNM → xMt l G d j as h o2 h2) (hcle : ∀ j as h o h2, call j as h = some (o, h2) → x_le h h2)
    {tb : List (Option XI)} (htb : ∀ pc t, tb[pc]? = some (some t) → xck o ini nh rt bytes pc t = true) {o2 : XO} {h2 : XH} (hcap : h2.1.length ≤ n0 + R.cells ∧ h2.2.2.2 ≤ z0 + R.slots) (k : xEnd p l e R s m args below meth c G bytes rt n0 z0 Q o2 h2) :
    ∀ (f : Nat) (fr : XF) (h : XH), fr.2.1.length = mL → xex call hs tb f fr h = some (o2, h2) → xW p l e R s m args below meth c G n0 z0 Q fr h := by
  intro f
  induction f with
  | zero => intro fr h _ e0; cases e0
  | succ f ih =>
    intro fr h hL e0
    simp only [xex] at e0
    cases es : xstp call hs tb fr h with
    | none => rw [es] at e0; cases e0
    | some y =>
      rw [es] at e0
      cases y with
      | inl y =>
        obtain ⟨fr2, h3⟩ := y
        have hl2 : fr2.2.1.length = mL := by
          rw [← hL]
          have es2 := es
          unfold xstp at es2
          split at es2
          · split at es2
            · rename_i hp
              cases es2
              exact xpure_len hp
            · exact xeff_len es2
          · cases es2
        have hle : x_le h3 h2 := xex_le hcle f fr2 h3 o2 h2 e0
        exact xstp_ok C hRm hini hT hnh hok hcall hcle htb hL es ⟨Nat.le_trans hle.1 hcap.1, Nat.le_trans hle.2 hcap.2⟩ (ih fr2 h3 hl2 e0)
      | inr y =>
        cases e0
        exact xstp_ok C hRm hini hT hnh hok hcall hcle htb hL es hcap k
end XSIM
