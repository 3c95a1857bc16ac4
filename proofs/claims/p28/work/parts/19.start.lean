/-! ===== the law's entry ===== -/
theorem xs_ins : ∀ a, a < 6 → Cond.instantiable (xcC a) (xcN a) ∈ lw_tbl := by decide +kernel
theorem xs_arr : Cond.arrayOver (.object RX1) ∈ lw_tbl := by decide +kernel
theorem xs_nest : ∀ q ∈ xNS, Cond.methodLinkNest (xcn q.1) q.2.1 (xy q.2.2) "Transseria" ∈ lw_tbl := by decide +kernel
theorem xs_cast : Cond.castable (xen 1) (xen 1) ∈ lw_tbl ∧ Cond.castable (xen 2) (xen 2) ∈ lw_tbl ∧ Cond.castable (xen 3) (xen 3) ∈ lw_tbl := by decide +kernel
theorem xs_decl : ∀ y ∈ xDec, Cond.declares y ∈ lw_tbl := by decide +kernel
theorem xs_str : ∀ q ∈ xTH, Cond.stringRef (xcn q.1) q.2.2.2.1 q.2.2.2.2.2.2 ∈ lw_tbl := by decide +kernel
theorem xs_thr : Cond.laysStatic Bundle.tN "UNASSIGNED_STACK" Bundle.steD ∈ lw_tbl ∧ Cond.laysStatic Bundle.tN "SUPPRESSED_SENTINEL" Bundle.listD ∈ lw_tbl ∧ Cond.initialized Bundle.tN ∈ lw_tbl := by decide +kernel
theorem xs_flat1 : Cond.isRef (.static Bundle.tN "UNASSIGNED_STACK" Bundle.steD) ∈ flatC (Jvm.Cond.and given_1 narrow_1) ∧ Cond.isRef (.static Bundle.tN "SUPPRESSED_SENTINEL" Bundle.listD) ∈ flatC (Jvm.Cond.and given_1 narrow_1) := by decide +kernel
theorem xs_flat2 : ∀ q ∈ xTH, Cond.exactly (.string (xcn q.1) q.2.2.2.1) "java/lang/String" ∈ flatC (Jvm.Cond.and given_1 narrow_1) := by decide +kernel
theorem xs_flat3 : ∀ a, a < 4 → ∀ b, b < 4 → xen a ≠ xen b → Cond.not (.castable (xen a) (xen b)) ∈ flatC (Jvm.Cond.and given_1 narrow_1) := by decide +kernel
theorem xen_big (n : Nat) : ∃ a, a < 4 ∧ xen n = xen a := by
  match n with
  | 0 => exact ⟨0, by decide, rfl⟩
  | 1 => exact ⟨1, by decide, rfl⟩
  | 2 => exact ⟨2, by decide, rfl⟩
  | n + 3 => exact ⟨3, by decide, rfl⟩
theorem xS_of {s : State} {b L : Nat} {xs : Nat → Int32} (hts : ∀ w ∈ lw_tbl, w.before #[Value.ref b] s = true) (hX : va_X b L xs s s.heap) (hbl : b < s.heap.size) (hgv : (Jvm.Cond.and given_1 narrow_1).before #[Value.ref b] s = true) :
    ∃ G : XG, G.1 = b ∧ G.2.1 + 1 = s.heap.size ∧ xS G s ∧ s.heap[b]? = some G.2.2.2.2.2.2 ∧ G.2.2.2.2.2.2.slots.size = L ∧ ∀ j, j < L → G.2.2.2.2.2.2.slots[j]? = some (.int (xs j)) := by
  obtain ⟨scr, h1, h2, h3, h4, h5⟩ := hX
  have hf := flat_of_before _ hgv
  have hk : ∀ a, ∃ (c : ClassId) (iS : Nat → Nat), a < 6 → u_Kn s (xcC a) (xcT a) (xcN a) c iS := by
    intro a
    by_cases ha : a < 6
    · obtain ⟨c, iS, h⟩ := u_known (C := xcC a) (T := xcT a) (N := xcN a) (n := xcN a) hts (fun w hw => (xc_in0 a ha w hw).1) (hts _ (xs_ins a ha))
      exact ⟨c, iS, fun _ => h⟩
    · exact ⟨0, fun _ => 0, fun z => absurd z ha⟩
  obtain ⟨cI, kI, pI, i1, i2, i3⟩ := Cond.arrayClass_spec (hts _ xAr_ok.1)
  obtain ⟨cJ, kJ, pJ, j1, j2, j3⟩ := Cond.arrayClass_spec (hts _ xAr_ok.2)
  obtain ⟨pG, cG, kG, o1, -, o2, o3, o4⟩ := Cond.arrayOver_spec (hts _ xs_arr)
  refine ⟨(b, s.heap.size - 1, (fun a => Classical.choose (hk a), fun a => Classical.choose (Classical.choose_spec (hk a))), cI, cJ, cG, scr), rfl, by show s.heap.size - 1 + 1 = _; omega, ⟨by show b ≤ s.heap.size - 1; omega, ⟨fun c q hq => ?_, fun k q hq => ?_⟩, ⟨h2, h3⟩, ?_, ?_, fun q hq => ?_, va_AO.of (hts _ xs_arr), fun q hq => va_Nw.of rfl (hts _ (xs_nest q hq)), fun n => ?_, fun x y hxy => ?_, fun y hy => va_Nw.of rfl (hts _ (xs_decl y hy))⟩, h1, h4, h5⟩
  · have hc : c < 6 := (List.getElem?_eq_some_iff.mp hq).1
    rw [xc_cl c hc] at hq
    cases hq
    exact Classical.choose_spec (Classical.choose_spec (hk c)) hc
  · match k, hq with
    | 0, hq => cases hq; exact ⟨fun n z => ⟨fun k h => (by cases h), kI, i2, pI, i3⟩, i1⟩
    | 1, hq => cases hq; exact ⟨fun n z => ⟨fun k h => (by cases h), kJ, j2, pJ, j3⟩, j1⟩
    | 2, hq => cases hq; exact ⟨fun n z => ⟨fun k h => (by cases h), kG, o2, pG, o3⟩, kG, pG, o2, o3, o1, o4⟩
    | k + 3, hq => simp at hq
  · exact vx_Zqof (hts _ xs_thr.1) (hts _ xs_thr.2.2) (hf _ xs_flat1.1) (fun a ha z => by have z : s.heap.size - 1 < a := z; omega)
  · exact vx_Zqof (hts _ xs_thr.2.1) (hts _ xs_thr.2.2) (hf _ xs_flat1.2) (fun a ha z => by have z : s.heap.size - 1 < a := z; omega)
  · obtain ⟨sa, c, cA, kA, q1, -⟩ := Cond.exactly_spec (args := #[Value.ref b]) (first := s) (o := none) (s := s) (idx := []) (hf _ (xs_flat2 q hq))
    exact ⟨sa, vk_R.of (hts _ (xs_str q hq)) q1⟩
  · obtain ⟨a, ha, e⟩ := xen_big n
    rw [e]
    match a, ha with
    | 0, _ => exact va_Nw.of rfl (hts _ xs_cast.2.2)
    | 1, _ => exact va_Nw.of rfl (hts _ xs_cast.1)
    | 2, _ => exact va_Nw.of rfl (hts _ xs_cast.2.1)
    | 3, _ => exact va_Nw.of rfl (hts _ xs_cast.2.2)
    | a + 4, ha => omega
  · obtain ⟨a, ha, e1⟩ := xen_big x
    obtain ⟨c, hc, e2⟩ := xen_big y
    rw [e1, e2] at hxy ⊢
    exact va_Nc.of (hf _ (xs_flat3 a ha c hc hxy))
/-- the heap of the toy at the law's entry: the script alone -/
def x_h0 (L : Nat) (xs : Nat → Int32) : XH := ([(5, L, [])], (fun q => if q = 0 then xs else fun _ => 0), (fun _ _ => 0), 0)
/-- what the toy must show of the law -/
def x_Law : Prop := ∀ (L : Nat) (xs : Nat → Int32), L ≤ 260 → ∃ (d F f : Nat) (h2 : XH), d ≤ 1000 ∧ xex (xrun F d) [] tb_L_law f (0, x_entry [.ref 0] 15, []) (x_h0 L xs) = some (.inl (some (.int 1)), h2) ∧ h2.1.length ≤ 600075 ∧ h2.2.2.2 ≤ 7301550
