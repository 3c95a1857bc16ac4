/-! ===== layer 2: the model's steps ===== -/
/-- the model's rows of what it found, and its chain, may have changed too -/
def Fmo (h h2 : XH) : Prop := h2.1 = h.1 ∧ h2.2.2.2 = h.2.2.2 ∧ (∀ r, (r ≤ 76 ∨ r = 78 ∨ r = 79 ∨ r = 84 ∨ 90 ≤ r) → h2.2.1 r = h.2.1 r ∧ h2.2.2.1 r = h.2.2.1 r) ∧ (∀ s, s ≠ 7 → s ≠ 11 → h2.2.1 77 s = h.2.1 77 s) ∧ h2.2.2.1 77 = h.2.2.1 77
theorem Fmo.tr {h h2 h3 : XH} (a : Fmo h h2) (b : Fmo h2 h3) : Fmo h h3 := ⟨b.1.trans a.1, b.2.1.trans a.2.1, fun r hr => ⟨(b.2.2.1 r hr).1.trans (a.2.2.1 r hr).1, (b.2.2.1 r hr).2.trans (a.2.2.1 r hr).2⟩, fun s h1 h2 => (b.2.2.2.1 s h1 h2).trans (a.2.2.2.1 s h1 h2), b.2.2.2.2.trans a.2.2.2.2⟩
theorem Fmk.mo {h h2 : XH} (a : Fmk h h2) : Fmo h h2 := ⟨a.1, a.2.1, fun r hr => a.2.2.1 r (by omega), a.2.2.2.1, a.2.2.2.2⟩
theorem Fmo.sg {h h2 : XH} {y : Nat → Nat} (a : Fmo h h2) (hs : Sg h.1 y) : Sg h2.1 y := by rw [a.1]; exact hs
def Kmo (n : Nat) (h : XH) (m : Nat) (ov : Nat → O) (ok : Prop) (x : O) (K : XK) : Prop :=
  ∀ (r : Int32) (h2 : XH) (m2 : Nat) (ov2 : Nat → O), (∀ i, i < m → ov2 i = ov i) → m ≤ m2 → m2 ≤ m + n → Fmo h h2 → Mo h2 m2 ov2 → ((ok ∧ ∃ r2 : Nat, r.toInt = r2 ∧ r2 < m2 ∧ ov2 r2 = x) ∨ (¬ ok ∧ r.toInt = -1)) → K (some (.int r)) h2
/-- e is the last exponent of x -/
def le1 (x e : O) : Prop := ∃ n, (pl x)[(pl x).length - 1]? = some (e, n)
theorem le1_dep {x e : O} (h : le1 x e) : dep e + 1 ≤ dep x := by
  obtain ⟨n, g⟩ := h
  exact dep_pl _ _ (List.mem_of_getElem? g)
theorem le1_ne {x e : O} (h : le1 x e) : ¬ x = .leaf := by
  obtain ⟨n, g⟩ := h
  rintro rfl
  cases g
theorem tl_no {x f : O} (h : le1 x f) (hf : ¬ f = .leaf) : tl (pl x) = 0 := by
  obtain ⟨n, g⟩ := h
  unfold tl
  rw [g]
  cases f with
  | leaf => exact absurd rfl hf
  | inner => rfl
theorem tl_yes {x : O} (hx : nf x) (h : le1 x .leaf) : 0 < tl (pl x) := by
  obtain ⟨n, g⟩ := h
  have hs := nf_srt _ hx
  rw [last_eq g] at hs
  have h1 : 1 ≤ n := (srt_app.mp hs).2.1.1
  unfold tl
  rw [g]
  exact h1
theorem stp_fin2 {x : O} (n lv : Nat) (hg : gd x) (h : le1 x .leaf) : stpok n (lv + 1) x ∧ stpF n (lv + 1) x = mk (lsL (pl x) 1) := by
  obtain ⟨t, g⟩ := h
  have e1 : stpF n (lv + 1) x = mk (lsL (pl x) 1) := by
    rw [stpF_eq g]
    show mk (lsL (pl x) 1 ++ (if oc .leaf .leaf = 0 then [] else _)) = _
    rw [if_pos (show oc .leaf .leaf = 0 from rfl), List.append_nil]
  refine ⟨?_, e1⟩
  rw [stpok_eq g]
  refine ⟨(stp_leaf n lv).2, ?_⟩
  rw [e1]
  exact (gd_ls 1 hg).2
theorem stp_lim {x e f : O} (n lv : Nat) (h : le1 x e) (hf : le1 e f) (hz : ¬ f = .leaf) : stpF n (lv + 1) x = mk (lsL (pl x) 1 ++ [(stpF n lv e, 1)]) ∧ (stpok n (lv + 1) x ↔ stpok n lv e ∧ okm (stpF n (lv + 1) x)) := by
  obtain ⟨t, g⟩ := id h
  have hne := le1_ne hf
  refine ⟨?_, by rw [stpok_eq g]⟩
  rw [stpF_eq g]
  show mk (lsL (pl x) 1 ++ (if oc e .leaf = 0 then [] else [(stpF n lv e, if 0 < tl (pl e) then n else 1)])) = _
  rw [if_neg (fun v => hne (oc_eq _ _ v)), tl_no hf hz, if_neg (by omega)]
theorem stp_suc {x e : O} (n lv : Nat) (he : gd e) (h : le1 x e) (hf : le1 e .leaf) : stpF n (lv + 2) x = mk (lsL (pl x) 1 ++ [(mk (lsL (pl e) 1), n)]) ∧ (stpok n (lv + 2) x ↔ okm (stpF n (lv + 2) x)) := by
  obtain ⟨t, g⟩ := id h
  have hne := le1_ne hf
  have h2 := stp_fin2 n lv he hf
  refine ⟨?_, by rw [stpok_eq g]; exact ⟨fun v => v.2, fun v => ⟨h2.1, v⟩⟩⟩
  rw [stpF_eq g]
  show mk (lsL (pl x) 1 ++ (if oc e .leaf = 0 then [] else [(stpF n (lv + 1) e, if 0 < tl (pl e) then n else 1)])) = _
  rw [if_neg (fun v => hne (oc_eq _ _ v)), if_pos (tl_yes he.1 hf), h2.2]
section
variable {d : Nat} {h : XH} {y : Nat → Nat} {m : Nat} {ov : Nat → O} {K : XK} {E : XE}
/-- the last exponent's number, read behind 'last' -/
theorem Mo.lst {x : Int32} {i : Nat} (M : Mo h m ov) (hi : i < m) (h0 : ¬ ov i = .leaf) (hx : x.toInt = (8 * i + ((pl (ov i)).length - 1) : Nat)) : Ix x 16000 ∧ ∃ j, j < i ∧ le1 (ov i) (ov j) ∧ (h.2.1 80 (ix x)).toInt = j := by
  have hm := M.1.2.2
  have li := M.len hi
  obtain ⟨e0, n0, r0, hp⟩ := pl_cons h0
  have hl1 : 1 ≤ (pl (ov i)).length := by rw [hp, List.length_cons]; omega
  obtain ⟨e, n, g⟩ := getc (A := pl (ov i)) (m := (pl (ov i)).length - 1) (by omega)
  obtain ⟨j, j1, j2, j3, j4⟩ := M.pw hi g
  exact ⟨i_Ix hx (by omega), j, j1, ⟨n, by rw [j2]; exact g⟩, by rw [i_ix hx]; exact j3⟩
/-- from stage t of the chain up -/
theorem t_X7_stepped_up {i nn : Nat} {h0 : XH} {m0 : Nat} {ov0 : Nat → O} {cs : Nat → Nat} {top : Nat} (hd : 25 ≤ d) (h1n : 1 ≤ nn) (hc0 : cs 0 = i) (htop : top ≤ 4) (hcs : ∀ k, k ≤ top → cs k < m0) (hgd : ∀ k, k ≤ top → gd (ov0 (cs k))) (hlk : ∀ k, k < top → le1 (ov0 (cs k)) (ov0 (cs (k + 1)))) (hlm : ∀ k, k < top → ∃ f, le1 (ov0 (cs (k + 1))) f ∧ ¬ f = .leaf) (hdp : ∀ k, k ≤ top → dep (ov0 (cs k)) + k ≤ 5) (kk : Kmo 6 h0 m0 ov0 (stpok nn 5 (ov0 i)) (stpF nn 5 (ov0 i)) K) :
    ∀ (k : Nat) (u1 u2 u3 : Option Value) (u4 : Option Int32) (l5 l6 : Int32) (h : XH) (m : Nat) (ov : Nat → O), k ≤ top → l6.toInt = (k : Int) - 1 → Sg h.1 y → Mo h m ov → (∀ i, i < m0 → ov i = ov0 i) → m0 ≤ m → m + k ≤ m0 + 6 → m + k < 2000 → Fmo h0 h → (∀ k, k ≤ top → (h.2.1 89 k).toInt = cs k) → ((stpok nn (5 - k) (ov0 (cs k)) ∧ ∃ r2 : Nat, l5.toInt = r2 ∧ r2 < m ∧ ov r2 = stpF nn (5 - k) (ov0 (cs k))) ∨ (¬ stpok nn (5 - k) (ov0 (cs k)) ∧ l5.toInt = -1)) → b_X7_stepped_121 d 77 u1 u2 u3 u4 l5 l6 h K E := by
  -- what fails at a stage fails in all
  have down : ∀ k, k ≤ top → stpok nn 5 (ov0 i) → stpok nn (5 - k) (ov0 (cs k)) := by
    intro k
    induction k with
    | zero => intro _ v; rw [hc0]; exact v
    | succ k ih =>
      intro hk v
      have v2 := ih (by omega) v
      obtain ⟨f, f1, f2⟩ := hlm k (by omega)
      rw [show 5 - k = (5 - (k + 1)) + 1 by omega] at v2
      exact ((stp_lim nn (5 - (k + 1)) (hlk k (by omega)) f1 f2).2.mp v2).1
  have em1 : (-1 : Int32).toInt = -1 := rfl
  intro k
  induction k with
  | zero =>
    intro u1 u2 u3 u4 l5 l6 h m ov hk h6 hs M he hm0 hm6 hm2 F hch hres
    refine w_X7_stepped_121 (by omega) hs ⟨fun _ => kk l5 h m ov he hm0 (by omega) F M ?_, fun w => absurd (i_lt.mpr (by rw [i_0]; omega)) w⟩
    rw [hc0] at hres
    exact hres
  | succ k ih =>
    intro u1 u2 u3 u4 l5 l6 h m ov hk h6 hs M he hm0 hm6 hm2 F hch hres
    have h6' : l6.toInt = k := by omega
    refine w_X7_stepped_121 (by omega) hs ⟨fun w => absurd (i_lt.mp w) (by rw [i_0]; omega), fun _ => ⟨fun w => kk l5 h m ov he hm0 (by omega) F M (Or.inr ?_), fun w => ⟨i_Ix h6' (by omega), ?_⟩⟩⟩
    · have w2 : l5.toInt = -1 := by rw [w]; rfl
      rcases hres with ⟨-, r2, q1, -⟩ | ⟨q1, -⟩
      · omega
      · exact ⟨fun v => q1 (down (k + 1) hk v), w2⟩
    · rcases hres with ⟨ok1, r2, q1, q2, q3⟩ | ⟨-, q2⟩
      · rw [i_ix h6']
        have hck := hch k (by omega)
        have eck := he (cs k) (hcs k (by omega))
        have hnl : ¬ ov (cs k) = .leaf := by rw [eck]; exact le1_ne (hlk k (by omega))
        obtain ⟨f, f1, f2⟩ := hlm k (by omega)
        have sl := stp_lim nn (5 - (k + 1)) (hlk k (by omega)) f1 f2
        have hnf := (stp_lt nn h1n (5 - (k + 1) + 1) (ov0 (cs k)) (by have := hdp k (by omega); omega) (hgd k (by omega)).1).1
        have e5 : 5 - (k + 1) + 1 = 5 - k := by omega
        have lsl := lsL_len (pl (ov (cs k))) 1
        have lk8 := M.len (show cs k < m by have := hcs k (by omega); omega)
        refine t_X7_lessOne (i := cs k) (by omega) hs M hck (by have := hcs k (by omega); omega) hnl (fun h2 M2 D2 F2 => ⟨rfl, F2.sg hs, ?_⟩)
        refine t_X7_adds (n := 1) (by omega) (F2.sg hs) D2 (by omega) q1 q2 q3 rfl (fun h3 D3 F3 a3 b3 => ⟨rfl, F3.sg (F2.sg hs), ?_⟩)
        have F23 := F2.tr F3
        rw [eck] at D3
        rw [← e5] at ih
        refine t_makes (n := 1) (x := stpF nn (5 - (k + 1) + 1) (ov0 (cs k))) (ok := okm (stpF nn (5 - (k + 1) + 1) (ov0 (cs k)))) (K := fun rv h5 => ∃ x6, rv = some (.int x6) ∧ Sg h5.1 y ∧ b_X7_stepped_121 d 77 u1 u2 u3 u4 x6 (l6 + (-1)) h5 K E) (by omega) (F23.sg hs) (M2.add a3 b3) D3 F23 (by rw [← sl.1]; exact hnf) (by omega) sl.1.symm (by rw [sl.1]) (Nat.le_refl _) ?_ |>.imp (fun v h2 z => ?_)
        · intro r h5 m5 ov5 x1 x2 x3 x4 x5 x6
          refine ⟨r, rfl, x4.sg hs, ih u1 u2 u3 u4 r (l6 + (-1)) h5 m5 ov5 (by omega) ?_ (x4.sg hs) x5 (fun i hi => (x1 i (by omega)).trans (he i hi)) (by omega) (by omega) (by omega) (F.tr x4.mo) (fun k9 hk9 => ?_) ?_⟩
          · rw [i_add (by rw [em1]; omega) (by rw [em1]; omega), em1]; omega
          · rw [(x4.2.2.1 89 (by omega)).1]; exact hch k9 hk9
          · rcases x6 with ⟨v1, v2⟩ | ⟨v1, v2⟩
            · exact Or.inl ⟨sl.2.mpr ⟨ok1, v1⟩, v2⟩
            · exact Or.inr ⟨fun v => v1 (sl.2.mp v).2, v2⟩
        · obtain ⟨x2, rfl, _, x6, e6, s6, z6⟩ := z
          cases e6
          exact ⟨x2, rfl, s6, z6⟩
      · exact absurd (Int32.toInt_inj.mp (by rw [q2]; rfl)) w
end
