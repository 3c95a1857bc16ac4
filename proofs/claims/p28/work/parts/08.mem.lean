/-! ===== the instructions that read and write the heap ===== -/
theorem xc_cl : ∀ a, a < 6 → vwCl[a]? = some (xcC a, xcT a, xcN a)
  | 0, _ => rfl
  | 1, _ => rfl
  | 2, _ => rfl
  | 3, _ => rfl
  | 4, _ => rfl
  | 5, _ => rfl
  | a + 6, h => absurd h (by omega)
theorem xc_in0 : ∀ a, a < 6 → ∀ w ∈ u_ws (xcC a) (xcT a) (xcN a), w ∈ lw_tbl ∧ goodWord w = true := by decide +kernel
theorem xc_in (a : Nat) (h : a < 6) : ∀ w ∈ u_ws (xcC a) (xcT a) (xcN a), w ∈ xT := fun w hw => xT_of (xc_in0 a h w hw).1 (xc_in0 a h w hw).2
theorem xc_nm : ∀ a, a < 6 → ∀ x, x < xcN a → ∀ y, y < xcN a → x ≠ y → (xcT a x).2.1 ≠ (xcT a y).2.1 := by decide +kernel
theorem xc_ty : ∀ a, a < 6 → ∀ k, k < xcN a → parseFieldDescriptor (xcT a k).2.2.1 = some (xcY a k) := by decide +kernel
theorem xc_kd : ∀ a, a < 6 → ∀ k, k < xcN a → (x_kd a)[k]? = some (x_kk (xcY a k)) := by decide +kernel
theorem xc_len : ∀ a, a < 6 → (x_kd a).length = xcN a := by decide +kernel
theorem xFL_ok : ∀ q ∈ xFL, q.2.2.1 < 6 ∧ q.2.2.2 < xcN q.2.2.1 ∧ Cond.fieldLink (xcn q.1) q.2.1 (xcC q.2.2.1) (xcT q.2.2.1 q.2.2.2).2.1 (xcT q.2.2.1 q.2.2.2).2.2.1 ∈ lw_tbl ∧ (xcT q.2.2.1 q.2.2.2).1 = xcC q.2.2.1 := by decide +kernel
theorem xCL_ok : ∀ q ∈ xCL, q.2.2 < 6 ∧ Cond.classLink (xcn q.1) q.2.1 (xcC q.2.2) ∈ lw_tbl ∧ Cond.instantiable (xcC q.2.2) (xcN q.2.2) ∈ lw_tbl ∧ Cond.initialized (xcC q.2.2) ∈ lw_tbl := by decide +kernel
theorem xAr_ok : Cond.arrayClass .int ∈ lw_tbl ∧ Cond.arrayClass .long ∈ lw_tbl := by decide +kernel
theorem x_setC_i (cA : ClassId) (n : Nat) (f : Nat → Int32) (j : Nat) (x : Int32) : (vp_cell cA (n, .inl f)).setSlot j (.int x) = vp_cell cA (n, .inl (x_u1 f j x)) := by
  rw [vp_cell_i, vp_cell_i, arrV_store]
  congr 1
  funext q
  by_cases hq : q = j
  · subst hq; simp [updV, x_u1]
  · simp [updV, x_u1, hq]
theorem x_setC_l (cA : ClassId) (n : Nat) (f : Nat → Int64) (j : Nat) (x : Int64) : (vp_cell cA (n, .inr (.inl f))).setSlot j (.long x) = vp_cell cA (n, .inr (.inl (x_u1 f j x))) := by
  rw [vp_cell_l, vp_cell_l, arrV_store]
  congr 1
  funext q
  by_cases hq : q = j
  · subst hq; simp [updV, x_u1]
  · simp [updV, x_u1, hq]
theorem x_setC_q (cA : ClassId) (n : Nat) (f : Nat → Option Nat) (j : Nat) (x : Nat) : (vp_cell cA (n, .inr (.inr (.inr (.inr f))))).setSlot j (.ref x) = vp_cell cA (n, .inr (.inr (.inr (.inr (x_u1 f j (some x)))))) := by
  rw [vp_cell_q, vp_cell_q, arrV_store]
  congr 1
  funext q
  by_cases hq : q = j
  · subst hq; simp [updV, x_u1, va_rf]
  · simp [updV, x_u1, hq]
theorem x_fs_len (G : XG) (h : XH) (q ci : Nat) (rs : List (Option Nat)) : (x_fs G h q ci rs).length = (x_kd ci).length := by simp [x_fs]
theorem x_fs_get {G : XG} {h : XH} {q ci k kd : Nat} {rs : List (Option Nat)} (hk : (x_kd ci)[k]? = some kd) : (x_fs G h q ci rs)[k]? = some (x_fv G h q rs k kd) := by
  simp [x_fs, hk]
/-- a field of numbers is written: the list of the fields -/
theorem x_fs_setI {G : XG} {h : XH} {q ci b kd : Nat} {rs : List (Option Nat)} {x : Int32} (hk : (x_kd ci)[b]? = some kd) (h1 : kd ≠ 1) (h2 : kd ≠ 2) : x_fs G (x_setI h q b x) q ci rs = (x_fs G h q ci rs).set b (.int x) := by
  apply List.ext_getElem?
  intro j
  rw [List.getElem?_set]
  by_cases hj : b = j
  · subst hj
    have hl : b < (x_fs G h q ci rs).length := by rw [x_fs_len]; exact (List.getElem?_eq_some_iff.mp hk).1
    rw [if_pos rfl, if_pos hl, x_fs_get hk]
    simp [x_fv, x_setI, x_u2, x_u1, h1, h2]
  · rw [if_neg hj]
    cases hc : (x_kd ci)[j]? with
    | none => simp [x_fs, hc]
    | some kj =>
      rw [x_fs_get hc, x_fs_get hc]
      simp [x_fv, x_setI, x_u2, x_u1, Ne.symm hj]
theorem x_fs_setJ {G : XG} {h : XH} {q ci b : Nat} {rs : List (Option Nat)} {x : Int64} (hk : (x_kd ci)[b]? = some 1) : x_fs G (x_setJ h q b x) q ci rs = (x_fs G h q ci rs).set b (.long x) := by
  apply List.ext_getElem?
  intro j
  rw [List.getElem?_set]
  by_cases hj : b = j
  · subst hj
    have hl : b < (x_fs G h q ci rs).length := by rw [x_fs_len]; exact (List.getElem?_eq_some_iff.mp hk).1
    rw [if_pos rfl, if_pos hl, x_fs_get hk]
    simp [x_fv, x_setJ, x_u2, x_u1]
  · rw [if_neg hj]
    cases hc : (x_kd ci)[j]? with
    | none => simp [x_fs, hc]
    | some kj =>
      rw [x_fs_get hc, x_fs_get hc]
      simp [x_fv, x_setJ, x_u2, x_u1, Ne.symm hj]
theorem x_fs_setQ {G : XG} {h h2 : XH} {q ci b x : Nat} {rs : List (Option Nat)} (e1 : h2.2.1 q = h.2.1 q) (e2 : h2.2.2.1 q = h.2.2.1 q) (hk : (x_kd ci)[b]? = some 2) (hb : b < rs.length) : x_fs G h2 q ci (rs.set b (some x)) = (x_fs G h q ci rs).set b (.ref (xA G x)) := by
  apply List.ext_getElem?
  intro j
  rw [List.getElem?_set]
  by_cases hj : b = j
  · subst hj
    have hl : b < (x_fs G h q ci rs).length := by rw [x_fs_len]; exact (List.getElem?_eq_some_iff.mp hk).1
    rw [if_pos rfl, if_pos hl, x_fs_get hk]
    simp [x_fv, hb, va_rf]
  · rw [if_neg hj]
    cases hc : (x_kd ci)[j]? with
    | none => simp [x_fs, hc]
    | some kj =>
      rw [x_fs_get hc, x_fs_get hc]
      simp [x_fv, e1, e2, List.getD_eq_getElem?_getD, List.getElem?_set_ne hj]
section XM
variable {p : Program} {l : Launch} {e : Env} {R : Room} {s : State} {m : MethodId} {args : Array Value} {below : List Frame} {meth : Method} {c0 : Code} {G : XG} {o : Nat} {bytes : ByteArray} {mL : Nat} {H : Heap} {locs : List Loc} {cells slots : Nat} {Q : State → Prop} {pc : Nat} {ls : Array Slot} {rest : List Value}
theorem x_one {D : va_G} {q : Nat × va_E} {H : Heap} (h : va_at D vwCl q H) : va_P D vwCl [q] H := by
  intro k x hk
  have hz : k < 1 := (List.getElem?_eq_some_iff.mp hk).1
  rw [show k = 0 by omega] at hk
  cases hk
  exact h
theorem x_getf (C : xCx p l s m args meth c0 G o bytes mL) {A ci b i : Nat} {fs : List Value} {v : Value} (hf : (o, i, ci, b) ∈ xFL) (he : va_at G.2.2.1 vwCl (A, .inr (ci, fs)) H) (hv : fs[b]? = some v) (hd : decode bytes pc = .ok (.getfield i, 3))
    (k : W p l e R s m args below meth c0 H locs cells slots Q (F0 m (pc + 3) ls (v :: rest))) : W p l e R s m args below meth c0 H locs cells slots Q (F0 m pc ls (.ref A :: rest)) := by
  obtain ⟨hx, hb, hml, hown, hts, hlocks, hS, hfl⟩ := C
  obtain ⟨h1, h2, h3, h4⟩ := xFL_ok _ hf
  exact va_get hx hb hts (xc_in ci h1) hown hS.2.1 (x_one he) 0 rfl (xc_cl ci h1) b h2 (hts _ (xT_of h3 rfl)) (fun x hx => by rw [h4] at hx; exact hx) hv hd k
theorem x_putf (C : xCx p l s m args meth c0 G o bytes mL) {A ci b i : Nat} {fs : List Value} {v : Value} (hf : (o, i, ci, b) ∈ xFL) (hfin : (xcT ci b).2.2.2 = false ∨ (meth.name = "<init>" ∧ xcC ci = xcn o)) (he : va_at G.2.2.1 vwCl (A, .inr (ci, fs)) H) (hn : narrow (xcY ci b) v = v) (hfit : fits (xcY ci b) v = true) (hl : b < fs.length) (hd : decode bytes pc = .ok (.putfield i, 3))
    (kk : ∀ (H1 : Heap) (z : Nat), va_at G.2.2.1 vwCl (A, .inr (ci, fs.set b v)) H1 → H1.size = H.size → (∀ q : Nat, q ≠ A → H1[q]? = H[q]?) → W p l e R s m args below meth c0 H1 (locs ++ [⟨A, z⟩]) cells slots Q (F0 m (pc + 3) ls rest)) : W p l e R s m args below meth c0 H locs cells slots Q (F0 m pc ls (v :: .ref A :: rest)) := by
  obtain ⟨hx, hb, hml, hown, hts, hlocks, hS, hfl⟩ := C
  obtain ⟨f1, f2, f3, f4⟩ := xFL_ok _ hf
  have hc := xc_cl ci f1
  have hin := xc_in ci f1
  have hK := hS.2.1
  have hty := xc_ty ci f1
  have hap := va_apart (own := xcn o) hts hin (xcY ci) hty (xc_nm ci f1) hK hc
  obtain ⟨r, h1, cell, q1, q2, q3, q4⟩ := he
  have hr : r = (xcC ci, xcT ci, xcN ci) := Option.some.inj (h1.symm.trans hc)
  subst hr
  obtain ⟨hSl, hfc, kC, hkC, hkind⟩ := hK.1 ci _ hc
  obtain ⟨cf, kf, fi, f, hi, hsl⟩ := hSl b f2
  have hlay := hts _ (hin _ (u_in_lay f2))
  have hst := (u_facts hfc hkC (u_lays hts hin f2) hi).1
  have hlink := hts _ (xT_of f3 rfl)
  have hsame : ∀ x, s.fieldFound? (xcT ci b).1 (xcT ci b).2.1 (xcT ci b).2.2.1 = some x → s.fieldFound? (xcC ci) (xcT ci b).2.1 (xcT ci b).2.2.1 = some x := fun x hx => by rw [f4] at hx; exact hx
  by_cases hff : (xcT ci b).2.2.2 = true
  · unfold u_lay at hlay
    rw [if_pos hff] at hlay
    have hin2 : meth.name = "<init>" ∧ xcC ci = xcn o := by
      rcases hfin with z | z
      · rw [hff] at z; cases z
      · exact z
    have hcf : m.cls = cf := by
      obtain ⟨_, _, c', _, _, _, -, -, hf', -, -, -, hown2, -⟩ := Cond.laysFinal_spec hlay
      have e1 : c' = cf := by have := hi.symm.trans hf'; simp at this; exact this.1.symm
      rw [f4, hin2.2] at hown2
      rw [← e1]; exact Option.some.inj (hown.symm.trans hown2)
    have h6 := u_fits hfc hkC hkind (Or.inr hlay) hi (hty b f2) hn hfit
    refine W.putFinK hx hb hown hlink (hsame _ hi) hst hcf hin2.1 (by rw [q2]; exact h6) q1 q3 (by rw [hsl]; exact k2_hasslot (q4 b f2)) rfl rfl hd fun H' e1 e2 e3 => ?_
    rw [hsl] at e1 ⊢
    exact kk H' _ ⟨_, hc, t_OB.to (V := updV (vp_V fs) b v) ⟨_, e1, q2, q3, t_set q4 hap f2 v⟩ (fun j _ => vp_updV_set hl v j)⟩ e2 e3
  · unfold u_lay at hlay
    rw [if_neg hff] at hlay
    have h6 := u_store hfc hkC hkind hlay hi (hty b f2) hn hfit
    refine W.putK hx hb (f := f) ⟨hown, hlink, ⟨_, _, _, hsame _ hi⟩, hst⟩ (by rw [q2]; exact h6) q1 q3 (by rw [hsl]; exact k2_hasslot (q4 b f2)) rfl rfl hd fun H' e1 e2 e3 => ?_
    rw [hsl] at e1 ⊢
    exact kk H' _ ⟨_, hc, t_OB.to (V := updV (vp_V fs) b v) ⟨_, e1, q2, q3, t_set q4 hap f2 v⟩ (fun j _ => vp_updV_set hl v j)⟩ e2 e3
end XM
