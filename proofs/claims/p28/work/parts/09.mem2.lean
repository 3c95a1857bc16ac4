/-! ===== the instructions that read and write the heap: one theorem ===== -/
def x_isR : FieldType → Bool
  | .object _ => true
  | .array _ => true
  | _ => false
theorem xc_rf : ∀ a, a < 6 → ∀ k, k < xcN a → x_kk (xcY a k) = 2 → x_isR (xcY a k) = true := by decide +kernel
theorem x_kk0 {t : FieldType} (h : x_kk t = 0) : t = .int := by cases t <;> simp [x_kk] at h ⊢
theorem x_kk1 {t : FieldType} (h : x_kk t = 1) : t = .long := by cases t <;> simp [x_kk] at h ⊢
theorem x_kk3 {t : FieldType} (h : x_kk t = 3) : t = .boolean := by cases t <;> simp [x_kk] at h ⊢
def xckM (o : Nat) (ini : Bool) (rt : Option FieldType) (ins : Instr) (a b c : Nat) : Bool := match ins with
  | .getfield i => decide ((o, i, a, b) ∈ xFL) && decide ((x_kd a)[b]? = some c)
  | .putfield i => decide ((o, i, a, b) ∈ xFL) && decide ((x_kd a)[b]? = some c) && (decide ((xcT a b).2.2.2 = false) || (ini && decide (xcC a = xcn o)))
  | .newarray .int => decide (a = 1)
  | .newarray .long => decide (a = 2)
  | .newarray _ => false
  | .anewarray i => decide ((o, i, 1) ∈ xCL)
  | .new i => decide (c = 1) || (decide ((o, i, a) ∈ xCL) && decide (b = xcN a))
  | .ireturn => (decide (a = 1) && decide (rt = some .int)) || (decide (a = 2) && decide (rt = some .boolean))
  | .lreturn => decide (rt = some .long)
  | .areturn => match rt with
    | some t => x_isR t
    | none => false
  | .return_ => decide (rt = none)
  | _ => true
theorem x_set_self {α : Type} {l : List α} {i : Nat} {a : α} (h : l[i]? = some a) : l.set i a = l := by
  apply List.ext_getElem?
  intro j
  rw [List.getElem?_set]
  split
  · rename_i e
    subst e
    split
    · exact h.symm
    · rename_i z
      exact absurd (List.getElem?_eq_some_iff.mp h).1 z
  · rfl
theorem xV_rf (G : XG) (x : Option Nat) : xV G (va_rf x) = va_rf (x.map (xA G)) := by cases x <;> rfl
section XM2
variable {p : Program} {l : Launch} {e : Env} {R : Room} {s : State} {m : MethodId} {args : Array Value} {below : List Frame} {meth : Method} {c0 : Code} {G : XG} {o : Nat} {bytes : ByteArray} {mL : Nat} {n0 z0 : Nat} {Q : State → Prop}
theorem x_bad_not {j : Int32} {n : Nat} (h : ¬ (j < 0 ∨ n ≤ j.toNatClampNeg)) : vp_in j n := h
/-- an int is written to a field -/
theorem x_stI (C : xCx p l s m args meth c0 G o bytes mL) {pc i ci b c q : Nat} {x : Int32} {L : XL} {st : List Value} {h : XH} {rs : List (Option Nat)} (hf : (o, i, ci, b) ∈ xFL) (hk : (x_kd ci)[b]? = some c) (hfin : (xcT ci b).2.2.2 = false ∨ (meth.name = "<init>" ∧ xcC ci = xcn o)) (ht : h.1[q]? = some (0, ci, rs)) (hcx : c = 0 ∨ c = 3 ∧ (x = 0 ∨ x = 1)) (hd : decode bytes pc = .ok (.putfield i, 3))
    (k : xW p l e R s m args below meth c0 G n0 z0 Q (pc + 3, L, st) (x_setI h q b x)) : xW p l e R s m args below meth c0 G n0 z0 Q (pc, L, .int x :: .ref q :: st) h := by
  intro H locs ls cells slots hR hV hl hc hz
  obtain ⟨f1, f2, -, -⟩ := xFL_ok _ hf
  have hkk : x_kk (xcY ci b) = c := by
    have h9 := xc_kd ci f1 b f2
    rw [hk] at h9
    exact (Option.some.inj h9).symm
  have he : va_at G.2.2.1 vwCl (xA G q, .inr (ci, x_fs G h q ci rs)) H := hR.2.2 q _ ht
  have hnf : narrow (xcY ci b) (.int x) = .int x ∧ fits (xcY ci b) (.int x) = true := by
    rcases hcx with h0 | ⟨h3, hx01⟩
    · rw [x_kk0 (hkk.trans h0)]
      exact ⟨rfl, rfl⟩
    · rw [x_kk3 (hkk.trans h3)]
      rcases hx01 with z | z <;> subst z <;> exact ⟨by decide, by decide⟩
  have h12 : c ≠ 1 ∧ c ≠ 2 := by omega
  refine x_putf C hf hfin he hnf.1 hnf.2 (by rw [x_fs_len]; exact (List.getElem?_eq_some_iff.mp hk).1) hd (fun H1 z e1 e2 e3 => ?_)
  have hq := xR_ne0 hR ht (show (0 : Nat) ≠ 5 by decide)
  obtain ⟨hx, hb, hml, hown, hts, hlocks, hS, hfl⟩ := C
  refine k H1 _ ls cells slots (xR_put (t2 := (0, ci, rs)) hS.1 hR ht (show (0 : Nat) ≠ 5 by decide) ?_ ?_ (fun _ _ => rfl) e2 e3 ?_) (hV.put e2 e3 (xA_in hq)) hl hc hz
  · show h.1 = h.1.set q _
    exact (x_set_self ht).symm
  · intro k' hk'
    simp [x_setI, x_u2, hk']
  · show va_at _ _ (xA G q, .inr (ci, x_fs G (x_setI h q b x) q ci rs)) H1
    rw [x_fs_setI hk h12.1 h12.2]
    exact e1
theorem x_stJ (C : xCx p l s m args meth c0 G o bytes mL) {pc i ci b q : Nat} {x : Int64} {L : XL} {st : List Value} {h : XH} {rs : List (Option Nat)} (hf : (o, i, ci, b) ∈ xFL) (hk : (x_kd ci)[b]? = some 1) (hfin : (xcT ci b).2.2.2 = false ∨ (meth.name = "<init>" ∧ xcC ci = xcn o)) (ht : h.1[q]? = some (0, ci, rs)) (hd : decode bytes pc = .ok (.putfield i, 3))
    (k : xW p l e R s m args below meth c0 G n0 z0 Q (pc + 3, L, st) (x_setJ h q b x)) : xW p l e R s m args below meth c0 G n0 z0 Q (pc, L, .long x :: .ref q :: st) h := by
  intro H locs ls cells slots hR hV hl hc hz
  obtain ⟨f1, f2, -, -⟩ := xFL_ok _ hf
  have hkk : x_kk (xcY ci b) = 1 := by
    have h9 := xc_kd ci f1 b f2
    rw [hk] at h9
    exact (Option.some.inj h9).symm
  have he : va_at G.2.2.1 vwCl (xA G q, .inr (ci, x_fs G h q ci rs)) H := hR.2.2 q _ ht
  have hnf : narrow (xcY ci b) (.long x) = .long x ∧ fits (xcY ci b) (.long x) = true := by
    rw [x_kk1 hkk]
    exact ⟨rfl, rfl⟩
  refine x_putf C hf hfin he hnf.1 hnf.2 (by rw [x_fs_len]; exact (List.getElem?_eq_some_iff.mp hk).1) hd (fun H1 z e1 e2 e3 => ?_)
  have hq := xR_ne0 hR ht (show (0 : Nat) ≠ 5 by decide)
  obtain ⟨hx, hb, hml, hown, hts, hlocks, hS, hfl⟩ := C
  refine k H1 _ ls cells slots (xR_put (t2 := (0, ci, rs)) hS.1 hR ht (show (0 : Nat) ≠ 5 by decide) ?_ (fun _ _ => rfl) ?_ e2 e3 ?_) (hV.put e2 e3 (xA_in hq)) hl hc hz
  · show h.1 = h.1.set q _
    exact (x_set_self ht).symm
  · intro k' hk'
    simp [x_setJ, x_u2, hk']
  · show va_at _ _ (xA G q, .inr (ci, x_fs G (x_setJ h q b x) q ci rs)) H1
    rw [x_fs_setJ hk]
    exact e1
theorem x_stQ (C : xCx p l s m args meth c0 G o bytes mL) {pc i ci b q x : Nat} {L : XL} {st : List Value} {h : XH} {rs : List (Option Nat)} (hf : (o, i, ci, b) ∈ xFL) (hk : (x_kd ci)[b]? = some 2) (hfin : (xcT ci b).2.2.2 = false ∨ (meth.name = "<init>" ∧ xcC ci = xcn o)) (ht : h.1[q]? = some (0, ci, rs)) (hbr : b < rs.length) (hd : decode bytes pc = .ok (.putfield i, 3))
    (k : xW p l e R s m args below meth c0 G n0 z0 Q (pc + 3, L, st) (x_setT h q (0, ci, rs.set b (some x)))) : xW p l e R s m args below meth c0 G n0 z0 Q (pc, L, .ref x :: .ref q :: st) h := by
  intro H locs ls cells slots hR hV hl hc hz
  obtain ⟨f1, f2, -, -⟩ := xFL_ok _ hf
  have hkk : x_kk (xcY ci b) = 2 := by
    have h9 := xc_kd ci f1 b f2
    rw [hk] at h9
    exact (Option.some.inj h9).symm
  have he : va_at G.2.2.1 vwCl (xA G q, .inr (ci, x_fs G h q ci rs)) H := hR.2.2 q _ ht
  have hnf : narrow (xcY ci b) (.ref (xA G x)) = .ref (xA G x) ∧ fits (xcY ci b) (.ref (xA G x)) = true := by
    have h9 := xc_rf ci f1 b f2 hkk
    generalize xcY ci b = ty at h9
    cases ty <;> first | (simp [x_isR] at h9; done) | exact ⟨rfl, rfl⟩
  refine x_putf C hf hfin he hnf.1 hnf.2 (by rw [x_fs_len]; exact (List.getElem?_eq_some_iff.mp hk).1) hd (fun H1 z e1 e2 e3 => ?_)
  have hq := xR_ne0 hR ht (show (0 : Nat) ≠ 5 by decide)
  obtain ⟨hx, hb, hml, hown, hts, hlocks, hS, hfl⟩ := C
  refine k H1 _ ls cells slots (xR_put (t2 := (0, ci, rs.set b (some x))) hS.1 hR ht (show (0 : Nat) ≠ 5 by decide) rfl (fun _ _ => rfl) (fun _ _ => rfl) e2 e3 ?_) (hV.put e2 e3 (xA_in hq)) hl (by rw [hc]; simp [x_setT]) (by rw [hz]; rfl)
  show va_at _ _ (xA G q, .inr (ci, x_fs G (x_setT h q (0, ci, rs.set b (some x))) q ci (rs.set b (some x)))) H1
  rw [x_fs_setQ (h := h) (h2 := x_setT h q (0, ci, rs.set b (some x))) rfl rfl hk hbr]
  exact e1
/-- an array's place is written -/
theorem x_arr (C : xCx p l s m args meth c0 G o bytes mL) {q : Nat} {t t2 : XT} {h h2 : XH} {H H1 : Heap} {locs : List Loc} {pc : Nat} {L : XL} {st : List Value} {ls : Array Slot} {cells slots z : Nat} (hR : xR G h H) (hV : va_S (xFr G) s.heap H locs) (hl : x_ls G ls L) (hc : n0 + cells = h.1.length) (hz : z0 + slots = h.2.2.2) (ht : h.1[q]? = some t) (h5 : t.1 ≠ 5) (e0 : h2.1 = h.1.set q t2) (ez2 : h2.2.2.2 = h.2.2.2) (e1 : ∀ k, k ≠ q → h2.2.1 k = h.2.1 k) (e2 : ∀ k, k ≠ q → h2.2.2.1 k = h.2.2.1 k) (ez : H1.size = H.size) (eo : ∀ a : Nat, a ≠ xA G q → H1[a]? = H[a]?) (hx : x_at G h2 H1 q t2)
    (k : xW p l e R s m args below meth c0 G n0 z0 Q (pc, L, st) h2) : W p l e R s m args below meth c0 H1 (locs ++ [⟨xA G q, z⟩]) cells slots Q (F0 m pc ls (st.map (xV G))) := by
  have hq := xR_ne0 hR ht h5
  obtain ⟨-, -, -, -, -, -, hS, -⟩ := C
  exact k H1 _ ls cells slots (xR_put hS.1 hR ht h5 e0 e1 e2 ez eo hx) (hV.put ez eo (xA_in hq)) hl (by rw [hc, e0, List.length_set]) (by rw [hz, ez2])
theorem x_born {a : Nat} (ha : a < 6) {G : XG} {h : XH} {q b : Nat} (h1 : h.2.1 q = fun _ => 0) (h2 : h.2.2.1 q = fun _ => 0) : ∀ j, j < xcN a → defaultValue (xcY a j) = vp_V (x_fs G h q a (List.replicate b none)) j := by
  intro j hj
  have hk := xc_kd a ha j hj
  have hr := xc_rf a ha j hj
  unfold vp_V
  rw [List.getD_eq_getElem?_getD, x_fs_get hk]
  generalize xcY a j = ty at hr ⊢
  have hn : ((List.replicate b (none : Option Nat)).getD j none) = none := by
    rw [List.getD_eq_getElem?_getD, List.getElem?_replicate]
    split <;> rfl
  have hn2 : ((List.replicate b (none : Option Nat))[j]?.getD none) = none := by
    rw [List.getElem?_replicate]
    split <;> rfl
  cases ty <;> simp [x_kk, x_isR] at hr ⊢ <;> simp [x_fv, h1, h2, hn2, va_rf, defaultValue]
theorem x_sgrow {G : XG} {H0 H H1 : Heap} {locs : List Loc} (hV : va_S (xFr G) H0 H locs) (z1 : H1.size = H.size + 1) (o1 : ∀ q : Nat, q < H.size → H1[q]? = H[q]?) : va_S (xFr G) H0 H1 locs :=
  ⟨Nat.le_trans hV.1 (by omega), fun x h1 h2 => (o1 x (Nat.lt_of_lt_of_le h1 hV.1)).trans (hV.2.1 x h1 h2), hV.2.2⟩
set_option maxHeartbeats 8000000 in
theorem xmem_ok (C : xCx p l s m args meth c0 G o bytes mL) {pc : Nat} {ins : Instr} {a b c : Nat} {ini : Bool} {rt : Option FieldType} {L : XL} {st : List Value} {h h2 : XH} {fr2 : XF} (hini : ini = true → meth.name = "<init>")
    (hd : decode bytes pc = .ok (ins, xlen ins a)) (hck : xckM o ini rt ins a b c = true) (e0 : xmem pc ins a b c L st h = some (.inl (fr2, h2))) (hcap : h2.1.length ≤ n0 + R.cells ∧ h2.2.2.2 ≤ z0 + R.slots) (k : xW p l e R s m args below meth c0 G n0 z0 Q fr2 h2) : xW p l e R s m args below meth c0 G n0 z0 Q (pc, L, st) h := by
  have C' := C
  obtain ⟨hx, hb, hml, hown, hts, hlocks, hS, hfl⟩ := C'
  unfold xmem at e0
  split at e0
  case h_1 i q st =>
    simp only [xckM, Bool.and_eq_true, decide_eq_true_eq] at hck
    split at e0
    · rename_i ci rs ht
      split at e0
      · rename_i hci
        subst hci
        intro H locs ls cells slots hR hV hl hc hz
        have he : va_at G.2.2.1 vwCl (xA G q, .inr (ci, x_fs G h q ci rs)) H := hR.2.2 q _ ht
        split at e0
        · cases e0
          exact x_getf C hck.1 he (v := .int (h.2.1 q b)) (x_fs_get hck.2) hd (k H locs ls cells slots hR hV hl hc hz)
        · cases e0
          exact x_getf C hck.1 he (v := .int (h.2.1 q b)) (x_fs_get hck.2) hd (k H locs ls cells slots hR hV hl hc hz)
        · cases e0
          exact x_getf C hck.1 he (v := .long (h.2.2.1 q b)) (x_fs_get hck.2) hd (k H locs ls cells slots hR hV hl hc hz)
        · cases e0
          have k2 := k H locs ls cells slots hR hV hl hc hz
          simp only [List.map_cons, xV_rf] at k2
          exact x_getf C hck.1 he (v := va_rf ((rs.getD b none).map (xA G))) (x_fs_get hck.2) hd k2
        · cases e0
      · cases e0
    · cases e0
  case h_2 i x q st =>
    simp only [xckM, Bool.and_eq_true, Bool.or_eq_true, decide_eq_true_eq] at hck
    obtain ⟨⟨f1, f2⟩, f3⟩ := hck
    have f3 : (xcT a b).2.2.2 = false ∨ (meth.name = "<init>" ∧ xcC a = xcn o) := f3.imp id (fun z => ⟨hini z.1, z.2⟩)
    split at e0
    · rename_i ci rs ht
      split at e0
      · rename_i hci
        subst hci
        split at e0
        · cases e0
          exact x_stI C f1 f2 f3 ht (Or.inl rfl) hd k
        · split at e0
          · rename_i hx01
            cases e0
            exact x_stI C f1 f2 f3 ht (Or.inr ⟨rfl, hx01⟩) hd k
          · cases e0
        · cases e0
      · cases e0
    · cases e0
  case h_3 i x q st =>
    simp only [xckM, Bool.and_eq_true, Bool.or_eq_true, decide_eq_true_eq] at hck
    obtain ⟨⟨f1, f2⟩, f3⟩ := hck
    have f3 : (xcT a b).2.2.2 = false ∨ (meth.name = "<init>" ∧ xcC a = xcn o) := f3.imp id (fun z => ⟨hini z.1, z.2⟩)
    split at e0
    · rename_i ci rs ht
      split at e0
      · rename_i hci
        obtain ⟨hci, hc1⟩ := hci
        subst hci hc1
        cases e0
        exact x_stJ C f1 f2 f3 ht hd k
      · cases e0
    · cases e0
  case h_4 i x q st =>
    simp only [xckM, Bool.and_eq_true, Bool.or_eq_true, decide_eq_true_eq] at hck
    obtain ⟨⟨f1, f2⟩, f3⟩ := hck
    have f3 : (xcT a b).2.2.2 = false ∨ (meth.name = "<init>" ∧ xcC a = xcn o) := f3.imp id (fun z => ⟨hini z.1, z.2⟩)
    split at e0
    · rename_i ci rs ht
      split at e0
      · rename_i hci
        obtain ⟨hci, hc1, hbr⟩ := hci
        subst hci hc1
        cases e0
        exact x_stQ C f1 f2 f3 ht hbr hd k
      · cases e0
    · cases e0
  case h_5 j q st =>
    intro H locs ls cells slots hR hV hl hc hz
    split at e0
    · rename_i n rs ht
      split at e0
      · cases e0
      · rename_i hin
        cases e0
        have he : va_at G.2.2.1 vwCl (xA G q, .inl (G.2.2.2.1, (n, .inl (h.2.1 q)))) H := hR.2.2 q _ ht
        exact va_iald hx hb hS.2.1 (x_one he) 0 0 rfl rfl hin hd (k H locs ls cells slots hR hV hl hc hz)
    · rename_i n rs ht
      split at e0
      · cases e0
      · rename_i hin
        cases e0
        obtain ⟨g0, g1, g2, g3⟩ : q = 0 ∧ H[xA G q]? = some G.2.2.2.2.2.2 ∧ G.2.2.2.2.2.2.slots.size = n ∧ ∀ j, j < n → G.2.2.2.2.2.2.slots[j]? = some (.int (h.2.1 0 j)) := hR.2.2 q _ ht
        subst g0
        have hlt : j.toNatClampNeg < n := Nat.not_le.mp fun z => hin (Or.inr z)
        exact W.iald (v := .int (h.2.1 0 j.toNatClampNeg)) hx hb g1 hS.2.2.1.1 hS.2.2.1.2 (by rw [g2]; exact hin) (g3 _ hlt) rfl rfl hd (k H locs ls cells slots hR hV hl hc hz)
    · cases e0
  case h_6 j q st =>
    intro H locs ls cells slots hR hV hl hc hz
    split at e0
    · rename_i n rs ht
      split at e0
      · cases e0
      · rename_i hin
        cases e0
        have he : va_at G.2.2.1 vwCl (xA G q, .inl (G.2.2.2.2.1, (n, .inr (.inl (h.2.2.1 q))))) H := hR.2.2 q _ ht
        exact va_lald hx hb hS.2.1 (x_one he) 0 1 rfl rfl hin hd (k H locs ls cells slots hR hV hl hc hz)
    · cases e0
  case h_7 j q st =>
    intro H locs ls cells slots hR hV hl hc hz
    split at e0
    · rename_i n rs ht
      split at e0
      · cases e0
      · rename_i hin
        cases e0
        have he : va_at G.2.2.1 vwCl (xA G q, .inl (G.2.2.2.2.2.1, (n, .inr (.inr (.inr (.inr (fun i => (rs.getD i none).map (xA G)))))))) H := hR.2.2 q _ ht
        have k2 := k H locs ls cells slots hR hV hl hc hz
        simp only [List.map_cons, xV_rf] at k2
        exact va_aldq hx hb hS.2.1 (x_one he) 0 2 rfl rfl hin hd k2
    · cases e0
  case h_8 x j q st =>
    intro H locs ls cells slots hR hV hl hc hz
    split at e0
    · rename_i n rs ht
      split at e0
      · cases e0
      · rename_i hin
        cases e0
        have he : H[xA G q]? = some (vp_cell G.2.2.2.1 (n, .inl (h.2.1 q))) := hR.2.2 q _ ht
        refine W.iast hx hb he ((hS.2.1.2 0 _ rfl).1 n (fun j => .int (h.2.1 q j))) (fun z => by cases z) (by show ¬ (j < 0 ∨ (arrV _ _ _).slots.size ≤ _); rw [arrV_size]; exact hin) rfl rfl hd (fun H1 e1 e2 e3 => ?_)
        refine x_arr C (h2 := x_setI h q j.toNatClampNeg x) (t2 := (1, n, rs)) hR hV hl hc hz ht (show (1 : Nat) ≠ 5 by decide) (x_set_self ht).symm rfl (fun k' hk' => by simp [x_setI, x_u2, hk']) (fun _ _ => rfl) e2 e3 ?_ k
        show H1[xA G q]? = some (vp_cell G.2.2.2.1 (n, .inl ((x_setI h q j.toNatClampNeg x).2.1 q)))
        rw [e1, x_setC_i]
        simp [x_setI, x_u2]
    · cases e0
  case h_9 x j q st =>
    intro H locs ls cells slots hR hV hl hc hz
    split at e0
    · rename_i n rs ht
      split at e0
      · cases e0
      · rename_i hin
        cases e0
        have he : H[xA G q]? = some (vp_cell G.2.2.2.2.1 (n, .inr (.inl (h.2.2.1 q)))) := hR.2.2 q _ ht
        refine W.last hx hb he ((hS.2.1.2 1 _ rfl).1 n (fun j => .long (h.2.2.1 q j))) (fun z => by cases z) (by show ¬ (j < 0 ∨ (arrV _ _ _).slots.size ≤ _); rw [arrV_size]; exact hin) rfl rfl hd (fun H1 e1 e2 e3 => ?_)
        refine x_arr C (h2 := x_setJ h q j.toNatClampNeg x) (t2 := (2, n, rs)) hR hV hl hc hz ht (show (2 : Nat) ≠ 5 by decide) (x_set_self ht).symm rfl (fun _ _ => rfl) (fun k' hk' => by simp [x_setJ, x_u2, hk']) e2 e3 ?_ k
        show H1[xA G q]? = some (vp_cell G.2.2.2.2.1 (n, .inr (.inl ((x_setJ h q j.toNatClampNeg x).2.2.1 q))))
        rw [e1, x_setC_l]
        simp [x_setJ, x_u2]
    · cases e0
  case h_10 x j q st =>
    intro H locs ls cells slots hR hV hl hc hz
    split at e0
    · rename_i n rs rs2 ht htx
      split at e0
      · cases e0
      · rename_i hin
        cases e0
        have hlt : j.toNatClampNeg < n := by
          rcases Nat.lt_or_ge j.toNatClampNeg n with z | z
          · exact z
          · exact absurd (Or.inr (Or.inl z)) hin
        have hlr : j.toNatClampNeg < rs.length := by
          rcases Nat.lt_or_ge j.toNatClampNeg rs.length with z | z
          · exact z
          · exact absurd (Or.inr (Or.inr z)) hin
        have hj0 : ¬ j < 0 := fun z => hin (Or.inl z)
        have he : H[xA G q]? = some (vp_cell G.2.2.2.2.2.1 (n, .inr (.inr (.inr (.inr (fun i => (rs.getD i none).map (xA G))))))) := hR.2.2 q _ ht
        obtain ⟨r', hr', cellV, g1, g2, g3, -⟩ : va_at G.2.2.1 vwCl (xA G x, .inr (1, x_fs G h x 1 rs2)) H := hR.2.2 x _ htx
        have hcls := (hS.2.1.1 1 (RX1, TX1, 3) rfl).2
        obtain ⟨kA, comp, k1, k2, k3, -⟩ := (hS.2.1.2 2 _ rfl).2
        have hcomp : comp = G.2.2.1.1 1 := Option.some.inj (k3.symm.trans hcls.1)
        subst hcomp
        obtain ⟨kC, hkC, -⟩ := hcls.2
        refine W.aast hx hb he (fun z h => by cases h) (fun h => by cases h) k1 k2 rfl hkC ⟨hj0, by show _ < (arrV _ _ _).slots.size; rw [arrV_size]; exact hlt⟩ g1 (fun z h => by rw [g3] at h; cases h) (by rw [g2]; exact hkC) (by rw [g2]; exact va_assign hcls) rfl rfl hd fun H1 e1 e2 e3 => ?_
        refine x_arr C (h2 := x_setT h q (3, n, rs.set j.toNatClampNeg (some x))) (t2 := (3, n, rs.set j.toNatClampNeg (some x))) hR hV hl hc hz ht (show (3 : Nat) ≠ 5 by decide) rfl rfl (fun _ _ => rfl) (fun _ _ => rfl) e2 e3 ?_ k
        show H1[xA G q]? = some (vp_cell G.2.2.2.2.2.1 (n, .inr (.inr (.inr (.inr (fun i => ((rs.set j.toNatClampNeg (some x)).getD i none).map (xA G)))))))
        rw [e1, x_setC_q]
        congr 7
        funext i
        by_cases hi : i = j.toNatClampNeg
        · subst hi
          simp [x_u1, hlr]
        · simp [x_u1, hi, List.getD_eq_getElem?_getD, List.getElem?_set_ne (Ne.symm hi)]
    · cases e0
  case h_11 q st =>
    intro H locs ls cells slots hR hV hl hc hz
    split at e0
    · rename_i n rs ht
      cases e0
      have he : va_at G.2.2.1 vwCl (xA G q, .inl (G.2.2.2.1, (n, .inl (h.2.1 q)))) H := hR.2.2 q _ ht
      exact va_alen hx hb hS.2.1 (x_one he) 0 0 rfl rfl rfl hd (k H locs ls cells slots hR hV hl hc hz)
    · rename_i n rs ht
      cases e0
      have he : va_at G.2.2.1 vwCl (xA G q, .inl (G.2.2.2.2.1, (n, .inr (.inl (h.2.2.1 q))))) H := hR.2.2 q _ ht
      exact va_alen hx hb hS.2.1 (x_one he) 0 1 rfl rfl rfl hd (k H locs ls cells slots hR hV hl hc hz)
    · rename_i n rs ht
      cases e0
      have he : va_at G.2.2.1 vwCl (xA G q, .inl (G.2.2.2.2.2.1, (n, .inr (.inr (.inr (.inr (fun i => (rs.getD i none).map (xA G)))))))) H := hR.2.2 q _ ht
      exact va_alen hx hb hS.2.1 (x_one he) 0 2 rfl rfl rfl hd (k H locs ls cells slots hR hV hl hc hz)
    · rename_i n rs ht
      cases e0
      obtain ⟨g0, g1, g2, g3⟩ : q = 0 ∧ H[xA G q]? = some G.2.2.2.2.2.2 ∧ G.2.2.2.2.2.2.slots.size = n ∧ ∀ j, j < n → G.2.2.2.2.2.2.slots[j]? = some (.int (h.2.1 0 j)) := hR.2.2 q _ ht
      exact W.alen (n := Int32.ofNat n) hx hb g1 hS.2.2.1.1 (by rw [g2] <;> rfl) rfl rfl hd (k H locs ls cells slots hR hV hl hc hz)
    · cases e0
  case h_12 t n st =>
    intro H locs ls cells slots hR hV hl hc hz
    split at e0
    · cases e0
    · rename_i hin
      cases e0
      have hn : ¬ n < 0 := fun z => hin (Or.inl z)
      have hn2 : n.toNatClampNeg ≤ 67108864 := Nat.not_lt.mp fun z => hin (Or.inr z)
      have hcap' : cells + 1 ≤ R.cells ∧ slots + n.toNatClampNeg ≤ R.slots := by
        simp only [x_new, List.length_append, List.length_singleton] at hcap
        omega
      have k1 := fun H1 hR1 hV1 hz1 => k H1 locs ls (cells + 1) (slots + n.toNatClampNeg) hR1 hV1 hl (by simp only [x_new, List.length_append, List.length_singleton]; omega) hz1
      simp only [List.map_cons, xV] at k1
      rw [xR_top hR] at k1
      cases t
      case int =>
        have ha : a = 1 := of_decide_eq_true hck
        subst ha
        refine va_newaK (atype := .int) hx hb (hts _ (xT_of xAr_ok.1 rfl)) rfl hd rfl hn rfl (by show n.toNatClampNeg * 4 ≤ _; omega) hcap'.1 hcap'.2 rfl fun H1 cA e1 z1 o1 hAr hNm => ?_
        have hcA : cA = G.2.2.2.1 := Option.some.inj (hNm.symm.trans (hS.2.1.2 0 _ rfl).2)
        subst hcA
        refine k1 H1 (xR_new hR z1 o1 ?_ (xR_lt hS.1 hR)) (x_sgrow hV z1 o1) (by simp only [x_new]; omega)
        show H1[xA G h.1.length]? = some (vp_cell G.2.2.2.1 (n.toNatClampNeg, .inl ((x_new h (1, n.toNatClampNeg, []) n.toNatClampNeg).2.1 h.1.length)))
        rw [xR_top hR, e1, vp_cell_i]
        simp [x_new, newarray.typeOf, defaultValue]
      case long =>
        have ha : a = 2 := of_decide_eq_true hck
        subst ha
        refine va_newaK (atype := .long) hx hb (hts _ (xT_of xAr_ok.2 rfl)) rfl hd rfl hn rfl (by show n.toNatClampNeg * 8 ≤ _; omega) hcap'.1 hcap'.2 rfl fun H1 cA e1 z1 o1 hAr hNm => ?_
        have hcA : cA = G.2.2.2.2.1 := Option.some.inj (hNm.symm.trans (hS.2.1.2 1 _ rfl).2)
        subst hcA
        refine k1 H1 (xR_new hR z1 o1 ?_ (xR_lt hS.1 hR)) (x_sgrow hV z1 o1) (by simp only [x_new]; omega)
        show H1[xA G h.1.length]? = some (vp_cell G.2.2.2.2.1 (n.toNatClampNeg, .inr (.inl ((x_new h (2, n.toNatClampNeg, []) n.toNatClampNeg).2.2.1 h.1.length))))
        rw [xR_top hR, e1, vp_cell_l]
        simp [x_new, newarray.typeOf, defaultValue]
      all_goals (exact absurd hck (by simp [xckM]))
  case h_13 i n st =>
    intro H locs ls cells slots hR hV hl hc hz
    split at e0
    · cases e0
    · rename_i hin
      cases e0
      have hn : ¬ n < 0 := fun z => hin (Or.inl z)
      have hn2 : n.toNatClampNeg ≤ 67108864 := Nat.not_lt.mp fun z => hin (Or.inr z)
      have hcap' : cells + 1 ≤ R.cells ∧ slots + n.toNatClampNeg ≤ R.slots := by
        simp only [x_new, List.length_append, List.length_singleton] at hcap
        omega
      have k1 := fun H1 hR1 hV1 hz1 => k H1 locs ls (cells + 1) (slots + n.toNatClampNeg) hR1 hV1 hl (by simp only [x_new, List.length_append, List.length_singleton]; omega) hz1
      simp only [List.map_cons, xV] at k1
      rw [xR_top hR] at k1
      obtain ⟨-, w1, -, -⟩ := xCL_ok _ (of_decide_eq_true hck)
      refine W.anew hx hb hown (hts _ (xT_of w1 rfl)) (va_AO.use hS.2.2.2.2.2.2.1) rfl hd rfl hn (by omega) hcap'.1 hcap'.2 fun cA kA comp f1 f2 f3 f4 => ?_
      generalize hH1 : H.push ({ cls := cA, slots := Array.replicate n.toNatClampNeg .null, vm := .none } : Cell) = H1
      have z1 : H1.size = H.size + 1 := by rw [← hH1, Array.size_push]
      have e1 : H1[H.size]? = some (arrV cA n.toNatClampNeg (fun _ => .null)) := by rw [← hH1, Array.getElem?_push_size, ← arrV_new]
      have o1 : ∀ q : Nat, q < H.size → H1[q]? = H[q]? := fun q hq => by rw [← hH1, Array.getElem?_push, if_neg (Nat.ne_of_lt hq)]
      obtain ⟨kA', comp', g1, g2, g3, g4⟩ := (hS.2.1.2 2 _ rfl).2
      have hcA : cA = G.2.2.2.2.2.1 := Option.some.inj (f1.symm.trans g4)
      subst hcA
      refine k1 H1 (xR_new hR z1 o1 ?_ (xR_lt hS.1 hR)) (x_sgrow hV z1 o1) (by simp only [x_new]; omega)
      show H1[xA G h.1.length]? = some (vp_cell G.2.2.2.2.2.1 (n.toNatClampNeg, .inr (.inr (.inr (.inr (fun i => ((List.replicate n.toNatClampNeg (none : Option Nat)).getD i none).map (xA G)))))))
      rw [xR_top hR, e1, vp_cell_q]
      congr 2
      funext i
      have hnn : ((List.replicate n.toNatClampNeg (none : Option Nat)).getD i none) = none := by
        rw [List.getD_eq_getElem?_getD, List.getElem?_replicate]
        split <;> rfl
      rw [hnn]
      rfl
  case h_14 i st =>
    intro H locs ls cells slots hR hV hl hc hz
    split at e0
    · cases e0
      simp only [xckM, Bool.or_eq_true, Bool.and_eq_true, decide_eq_true_eq] at hck
      rcases hck with z | ⟨f1, f2⟩
      · cases z
      subst f2
      obtain ⟨w0, w1, w2, w3⟩ := xCL_ok _ f1
      have hcap' : cells + 1 ≤ R.cells ∧ slots + xcN a ≤ R.slots := by
        simp only [x_new, List.length_append, List.length_singleton] at hcap
        omega
      have hcc := xc_cl a w0
      have hKn := hS.2.1.1 a _ hcc
      have k1 := fun H1 hR1 hV1 hz1 => k H1 locs ls (cells + 1) (slots + xcN a) hR1 hV1 hl (by simp only [x_new, List.length_append, List.length_singleton]; omega) hz1
      simp only [List.map_cons, xV] at k1
      rw [xR_top hR] at k1
      refine W.newcK hx hb hown (hts _ (xT_of w1 rfl)) (hts _ (xT_of w2 rfl)) (hts _ (xT_of w3 rfl)) rfl hd hcap'.1 hcap'.2 hKn.2.1 rfl fun H1 kC hkC e1 z1 o1 => ?_
      refine k1 H1 (xR_new hR z1 o1 ?_ (xR_lt hS.1 hR)) (x_sgrow hV z1 o1) (by simp only [x_new]; omega)
      refine ⟨_, hcc, ?_⟩
      show t_OB (xA G h.1.length) _ _ _ _ _
      rw [xR_top hR]
      exact (u_born (xcY a) hts (xc_in a w0) hKn hkC e1 (xc_ty a w0)).to (x_born w0 (by simp [x_new]) (by simp [x_new]))
    · split at e0 <;> cases e0
    · cases e0
  case h_15 x => split at e0 <;> cases e0
  case h_16 x => cases e0
  case h_17 x => cases e0
  case h_18 => cases e0
  case h_19 => cases e0
  case h_20 => cases e0
end XM2
