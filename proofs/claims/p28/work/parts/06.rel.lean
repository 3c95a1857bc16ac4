/-! ===== what ties the toy heap to the heap of the model ===== -/
def x_kk : FieldType → Nat
  | .int => 0
  | .long => 1
  | .boolean => 3
  | _ => 2
def xT : List Cond := lw_tbl.filter goodWord
/-- b (the script's cell), b0 (handle k of the run lies at b0 + k), the classes, the three kinds of rows, the script's cell itself -/
abbrev XG : Type := Nat × Nat × va_G × ClassId × ClassId × ClassId × Cell
def xA (G : XG) (k : Nat) : Nat := if k = 0 then G.1 else G.2.1 + k
def xV (G : XG) : Value → Value
  | .ref k => .ref (xA G k)
  | v => v
def xFr (G : XG) : Nat → Prop := fun q => G.2.1 < q
theorem xV_cat (G : XG) (v : Value) : (xV G v).category = v.category := by cases v <;> rfl
theorem xA_pos {G : XG} {k : Nat} (h : k ≠ 0) : xA G k = G.2.1 + k := if_neg h
theorem xA_in {G : XG} {k : Nat} (h : k ≠ 0) : xFr G (xA G k) := by
  rw [xA_pos h]
  exact Nat.lt_add_of_pos_right (Nat.pos_of_ne_zero h)
theorem xA_inj {G : XG} (hb : G.1 ≤ G.2.1) {k q : Nat} (h : k ≠ q) : xA G k ≠ xA G q := by
  unfold xA
  split <;> split <;> omega
def x_fv (G : XG) (h : XH) (q : Nat) (rs : List (Option Nat)) (k kd : Nat) : Value := if kd = 2 then va_rf ((rs.getD k none).map (xA G)) else if kd = 1 then .long (h.2.2.1 q k) else .int (h.2.1 q k)
def x_fs (G : XG) (h : XH) (q ci : Nat) (rs : List (Option Nat)) : List Value := (x_kd ci).mapIdx (fun k kd => x_fv G h q rs k kd)
def x_at (G : XG) (h : XH) (H : Heap) (k : Nat) (t : XT) : Prop := match t.1 with
  | 0 => va_at G.2.2.1 vwCl (xA G k, .inr (t.2.1, x_fs G h k t.2.1 t.2.2)) H
  | 1 => H[xA G k]? = some (vp_cell G.2.2.2.1 (t.2.1, .inl (h.2.1 k)))
  | 2 => H[xA G k]? = some (vp_cell G.2.2.2.2.1 (t.2.1, .inr (.inl (h.2.2.1 k))))
  | 3 => H[xA G k]? = some (vp_cell G.2.2.2.2.2.1 (t.2.1, .inr (.inr (.inr (.inr (fun i => (t.2.2.getD i none).map (xA G)))))))
  | 5 => k = 0 ∧ H[xA G k]? = some G.2.2.2.2.2.2 ∧ G.2.2.2.2.2.2.slots.size = t.2.1 ∧ ∀ j, j < t.2.1 → G.2.2.2.2.2.2.slots[j]? = some (.int (h.2.1 0 j))
  | _ => True
def xR (G : XG) (h : XH) (H : Heap) : Prop := H.size = G.2.1 + h.1.length ∧ (∃ n, h.1[0]? = some (5, n, [])) ∧ ∀ k t, h.1[k]? = some t → x_at G h H k t
theorem x_fs_congr {G : XG} {h h2 : XH} {q ci : Nat} {rs : List (Option Nat)} (e1 : h2.2.1 q = h.2.1 q) (e2 : h2.2.2.1 q = h.2.2.1 q) : x_fs G h2 q ci rs = x_fs G h q ci rs := by
  unfold x_fs x_fv
  rw [e1, e2]
theorem x_at_kept {G : XG} {h h2 : XH} {H H2 : Heap} {k : Nat} {t : XT} (e1 : h2.2.1 k = h.2.1 k) (e2 : h2.2.2.1 k = h.2.2.1 k) (e3 : H2[xA G k]? = H[xA G k]?) (hx : x_at G h H k t) : x_at G h2 H2 k t := by
  obtain ⟨a, n, rs⟩ := t
  unfold x_at at hx ⊢
  dsimp only at hx ⊢
  split
  · rw [x_fs_congr e1 e2]
    exact va_at.kept hx e3
  · rw [e3, e1]; exact hx
  · rw [e3, e2]; exact hx
  · rw [e3]; exact hx
  · obtain ⟨h1, h2, h3, h4⟩ := hx
    subst h1
    rw [e3, e1]
    exact ⟨rfl, h2, h3, h4⟩
  · trivial
theorem xR_ne0 {G : XG} {h : XH} {H : Heap} (hR : xR G h H) {q : Nat} {t : XT} (ht : h.1[q]? = some t) (h5 : t.1 ≠ 5) : q ≠ 0 := by
  intro e
  subst e
  obtain ⟨n, hn⟩ := hR.2.1
  rw [ht] at hn
  cases hn
  exact h5 rfl
/-- one cell is written -/
theorem xR_put {G : XG} (hb : G.1 ≤ G.2.1) {h h2 : XH} {H H2 : Heap} {q : Nat} {t t2 : XT} (hR : xR G h H) (ht : h.1[q]? = some t) (h5 : t.1 ≠ 5) (e0 : h2.1 = h.1.set q t2) (e1 : ∀ k, k ≠ q → h2.2.1 k = h.2.1 k) (e2 : ∀ k, k ≠ q → h2.2.2.1 k = h.2.2.1 k) (ez : H2.size = H.size) (eo : ∀ a : Nat, a ≠ xA G q → H2[a]? = H[a]?) (hx : x_at G h2 H2 q t2) : xR G h2 H2 := by
  have hq := xR_ne0 hR ht h5
  refine ⟨by rw [ez, e0, List.length_set]; exact hR.1, ?_, fun k u hk => ?_⟩
  · obtain ⟨n, hn⟩ := hR.2.1
    exact ⟨n, by rw [e0, List.getElem?_set_ne hq]; exact hn⟩
  · by_cases hkq : k = q
    · subst hkq
      rw [e0, List.getElem?_set_self (List.getElem?_eq_some_iff.mp ht).1] at hk
      cases hk
      exact hx
    · rw [e0, List.getElem?_set_ne (Ne.symm hkq)] at hk
      exact x_at_kept (e1 k hkq) (e2 k hkq) (eo _ (xA_inj hb hkq)) (hR.2.2 k u hk)
/-- one cell comes -/
theorem xR_new {G : XG} {h : XH} {H H2 : Heap} {t : XT} {z : Nat} (hR : xR G h H) (ez : H2.size = H.size + 1) (eo : ∀ a : Nat, a < H.size → H2[a]? = H[a]?) (hx : x_at G (x_new h t z) H2 h.1.length t) (hlt : ∀ k, k < h.1.length → xA G k < H.size) : xR G (x_new h t z) H2 := by
  have hpos : 0 < h.1.length := by
    obtain ⟨n, hn⟩ := hR.2.1
    exact (List.getElem?_eq_some_iff.mp hn).1
  refine ⟨by rw [ez, hR.1]; simp [x_new]; omega, ?_, fun k u hk => ?_⟩
  · obtain ⟨n, hn⟩ := hR.2.1
    exact ⟨n, by simp only [x_new]; rw [List.getElem?_append_left hpos]; exact hn⟩
  · by_cases hkl : k < h.1.length
    · simp only [x_new] at hk
      rw [List.getElem?_append_left hkl] at hk
      have hne : k ≠ h.1.length := Nat.ne_of_lt hkl
      exact x_at_kept (by simp [x_new, hne]) (by simp [x_new, hne]) (eo _ (hlt k hkl)) (hR.2.2 k u hk)
    · simp only [x_new] at hk
      rw [List.getElem?_append_right (by omega)] at hk
      have hz : k - h.1.length < 1 := (List.getElem?_eq_some_iff.mp hk).1
      rw [show k - h.1.length = 0 by omega] at hk
      cases hk
      rw [show k = h.1.length by omega]
      exact hx
theorem xR_lt {G : XG} (hb : G.1 ≤ G.2.1) {h : XH} {H : Heap} (hR : xR G h H) : ∀ k, k < h.1.length → xA G k < H.size := by
  intro k hk
  rw [hR.1]
  unfold xA
  split <;> omega
theorem xR_top {G : XG} {h : XH} {H : Heap} (hR : xR G h H) : xA G h.1.length = H.size := by
  have hpos : 0 < h.1.length := by
    obtain ⟨n, hn⟩ := hR.2.1
    exact (List.getElem?_eq_some_iff.mp hn).1
  rw [xA_pos (by omega), hR.1]
/-- the locals -/
def x_ents (G : XG) (L : XL) : List (Nat × Value) := (List.range L.length).filterMap fun i => match L[i]? with
  | some (some v) => some (i, xV G v)
  | _ => none
theorem x_ents_mem {G : XG} {L : XL} {q : Nat × Value} : q ∈ x_ents G L ↔ ∃ v, L[q.1]? = some (some v) ∧ q.2 = xV G v := by
  unfold x_ents
  rw [List.mem_filterMap]
  constructor
  · rintro ⟨i, -, hi⟩
    split at hi
    · rename_i v hv
      cases hi
      exact ⟨v, hv, rfl⟩
    · cases hi
  · rintro ⟨v, hv, e⟩
    refine ⟨q.1, List.mem_range.mpr (List.getElem?_eq_some_iff.mp hv).1, ?_⟩
    rw [hv]
    dsimp only
    rw [← e]
def x_ls (G : XG) (ls : Array Slot) (L : XL) : Prop := lv_has ls L.length (x_ents G L)
theorem x_ls_at {G : XG} {ls : Array Slot} {L : XL} (hl : x_ls G ls L) {i : Nat} {v : Value} (hi : L[i]? = some (some v)) : ls[i]? = some (.val (xV G v)) := hl.2.2 (i, xV G v) (x_ents_mem.mpr ⟨v, hi, rfl⟩)
theorem x_cl_len (L : XL) (k : Nat) : (x_cl L k).length = L.length := by
  unfold x_cl
  split
  · rfl
  · split <;> simp
/-- what stands in the locals behind a store -/
theorem x_cl_get {L : XL} {k i : Nat} {v : Value} (h : (x_cl L k)[i]? = some (some v)) : L[i]? = some (some v) ∧ (i + 1 = k → v.category ≠ 2) := by
  unfold x_cl at h
  split at h
  · exact ⟨h, fun e => by omega⟩
  · rename_i j
    split at h
    · rename_i x hx
      by_cases e : i = j
      · subst e
        rw [List.getElem?_set_self (List.getElem?_eq_some_iff.mp hx).1] at h
        cases h
      · rw [List.getElem?_set_ne (Ne.symm e)] at h
        exact ⟨h, fun q => absurd (Nat.succ.inj q) e⟩
    · rename_i x hx
      by_cases e : i = j
      · subst e
        rw [List.getElem?_set_self (List.getElem?_eq_some_iff.mp hx).1] at h
        cases h
      · rw [List.getElem?_set_ne (Ne.symm e)] at h
        exact ⟨h, fun q => absurd (Nat.succ.inj q) e⟩
    · rename_i h1 h2
      refine ⟨h, fun q => ?_⟩
      have q' : i = j := Nat.succ.inj q
      subst q'
      cases v with
      | long x => exact absurd h (h1 x)
      | double x => exact absurd h (h2 x)
      | _ => simp [Value.category]
theorem x_ls_s1 {G : XG} {ls : Array Slot} {L : XL} {k : Nat} {v : Value} (hk : k < L.length) (h : lv_has ls L.length ((k, xV G v) :: (x_ents G L).filter (fun q => !(q.1 == k) && !(q.1 + 1 == k && q.2.category == 2)))) : x_ls G ls (x_s1 L k v) := by
  refine ⟨by rw [h.1]; simp [x_s1, x_cl_len], h.2.1, fun q hq => ?_⟩
  obtain ⟨w, hw, e⟩ := x_ents_mem.mp hq
  refine h.2.2 q ?_
  unfold x_s1 at hw
  by_cases hi : q.1 = k
  · rw [hi, List.getElem?_set_self (by rw [x_cl_len]; exact hk)] at hw
    cases hw
    obtain ⟨q1, q2⟩ := q
    subst hi e
    exact List.mem_cons_self
  · rw [List.getElem?_set_ne (Ne.symm hi)] at hw
    obtain ⟨h1, h2⟩ := x_cl_get hw
    refine List.mem_cons_of_mem _ (List.mem_filter.mpr ⟨x_ents_mem.mpr ⟨w, h1, e⟩, ?_⟩)
    rw [e, xV_cat]
    have hi' : (q.1 == k) = false := by simpa using hi
    rw [hi']
    by_cases hn : q.1 + 1 = k
    · simp [h2 hn]
    · simp [hn]
theorem x_ls_s2 {G : XG} {ls : Array Slot} {L : XL} {k : Nat} {v : Value} (hk : k + 1 < L.length) (h : lv_has ls L.length ((k, xV G v) :: (x_ents G L).filter (fun q => !(q.1 == k) && (!(q.1 == k + 1) && !(q.1 + 1 == k && q.2.category == 2))))) : x_ls G ls (x_s2 L k v) := by
  refine ⟨by rw [h.1]; simp [x_s2, x_cl_len], h.2.1, fun q hq => ?_⟩
  obtain ⟨w, hw, e⟩ := x_ents_mem.mp hq
  refine h.2.2 q ?_
  unfold x_s2 at hw
  have hlen : (x_cl L k).length = L.length := x_cl_len L k
  by_cases hj : q.1 = k + 1
  · rw [hj, List.getElem?_set_self (by rw [List.length_set, hlen]; exact hk)] at hw
    cases hw
  rw [List.getElem?_set_ne (Ne.symm hj)] at hw
  by_cases hi : q.1 = k
  · rw [hi, List.getElem?_set_self (by rw [hlen]; omega)] at hw
    cases hw
    obtain ⟨q1, q2⟩ := q
    subst hi e
    exact List.mem_cons_self
  · rw [List.getElem?_set_ne (Ne.symm hi)] at hw
    obtain ⟨h1, h2⟩ := x_cl_get hw
    refine List.mem_cons_of_mem _ (List.mem_filter.mpr ⟨x_ents_mem.mpr ⟨w, h1, e⟩, ?_⟩)
    rw [e, xV_cat]
    have hi' : (q.1 == k) = false := by simpa using hi
    have hj' : (q.1 == k + 1) = false := by simpa using hj
    rw [hi', hj']
    by_cases hn : q.1 + 1 = k
    · simp [h2 hn]
    · simp [hn]
theorem x_ls_s0 {G : XG} {ls : Array Slot} {L : XL} {k : Nat} {v : Value} (hk : k < L.length) (h : lv_has ls L.length ((k, v) :: (x_ents G L).filter (fun q => !(q.1 == k) && !(q.1 + 1 == k && q.2.category == 2)))) : x_ls G ls ((x_cl L k).set k none) := by
  refine ⟨by rw [h.1]; simp [x_cl_len], h.2.1, fun q hq => ?_⟩
  obtain ⟨w, hw, e⟩ := x_ents_mem.mp hq
  refine h.2.2 q ?_
  by_cases hi : q.1 = k
  · rw [hi, List.getElem?_set_self (by rw [x_cl_len]; exact hk)] at hw
    cases hw
  · rw [List.getElem?_set_ne (Ne.symm hi)] at hw
    obtain ⟨h1, h2⟩ := x_cl_get hw
    refine List.mem_cons_of_mem _ (List.mem_filter.mpr ⟨x_ents_mem.mpr ⟨w, h1, e⟩, ?_⟩)
    rw [e, xV_cat]
    have hi' : (q.1 == k) = false := by simpa using hi
    rw [hi']
    by_cases hn : q.1 + 1 = k
    · simp [h2 hn]
    · simp [hn]
/-- the locals at the entry -/
theorem x_args_mem {G : XG} : ∀ (vs : List Value) (o i : Nat) (v : Value), (∀ u, u ∈ vs → ∀ x, u ≠ .double x) → (x_args vs)[i]? = some (some v) → (o + i, xV G v) ∈ lv_args o (vs.map (xV G)) := by
  intro vs
  induction vs with
  | nil => intro o i v _ h; simp [x_args] at h
  | cons u vs ih =>
    intro o i v hd h
    have hd' : ∀ u, u ∈ vs → ∀ x, u ≠ .double x := fun u hu => hd u (List.mem_cons_of_mem _ hu)
    have hone : ∀ {u : Value}, (some u :: x_args vs)[i]? = some (some v) → u.category = 1 → (o + i, xV G v) ∈ lv_args o ((u :: vs).map (xV G)) := by
      intro u h hc
      cases i with
      | zero =>
        cases h
        simp [lv_args]
      | succ i =>
        have h2 := ih (o + 1) i v hd' h
        rw [show o + 1 + i = o + (i + 1) by omega] at h2
        simp only [List.map_cons, lv_args, xV_cat, hc]
        exact List.mem_cons_of_mem _ h2
    cases u with
    | long x =>
      cases i with
      | zero => cases h; simp [lv_args]
      | succ i =>
        cases i with
        | zero => cases h
        | succ i =>
          have h2 := ih (o + 2) i v hd' h
          rw [show o + 2 + i = o + (i + 1 + 1) by omega] at h2
          simp only [List.map_cons, lv_args, xV_cat]
          exact List.mem_cons_of_mem _ h2
    | double x => exact absurd rfl (hd _ List.mem_cons_self x)
    | int x => exact hone h rfl
    | float x => exact hone h rfl
    | null => exact hone h rfl
    | ref x => exact hone h rfl
    | retAddr x => exact hone h rfl
