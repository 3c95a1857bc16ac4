/-! ===== layer 2: bits of numbers ===== -/
abbrev fitN (z : Int) : Prop := -268435456 ≤ z ∧ z ≤ 268435456
theorem j_shl {x k : Int64} {n : Nat} {p : Int} (hk : (k.toBitVec.smod 64).toNat = n) (hp : (BitVec.twoPow 64 n).toInt = p) (h1 : -9223372036854775808 ≤ x.toInt * p) (h2 : x.toInt * p < 9223372036854775808) : (x <<< k).toInt = x.toInt * p := by
  have e1 : (x <<< k).toBitVec = x.toBitVec <<< (k.toBitVec.smod 64).toNat := Int64.toBitVec_shiftLeft x k
  have e2 : (x <<< k).toInt = (x <<< k).toBitVec.toInt := rfl
  have e3 : x.toInt = x.toBitVec.toInt := rfl
  rw [e3] at h1 h2 ⊢
  rw [e2, e1, hk, BitVec.shiftLeft_eq_mul_twoPow, BitVec.toInt_mul, hp]
  exact j_bm h1 h2
theorem i_of {c : Int32} {i : Nat} (hc : c.toInt = i) (hi : i ≤ 20) : c = Int32.ofNat i := by
  refine Int32.toInt_inj.mp ?_
  rw [hc]
  match i, hi with
  | 0, _ => rfl
  | 1, _ => rfl
  | 2, _ => rfl
  | 3, _ => rfl
  | 4, _ => rfl
  | 5, _ => rfl
  | 6, _ => rfl
  | 7, _ => rfl
  | 8, _ => rfl
  | 9, _ => rfl
  | 10, _ => rfl
  | 11, _ => rfl
  | 12, _ => rfl
  | 13, _ => rfl
  | 14, _ => rfl
  | 15, _ => rfl
  | 16, _ => rfl
  | 17, _ => rfl
  | 18, _ => rfl
  | 19, _ => rfl
  | 20, _ => rfl
  | n + 21, h => exact absurd h (by omega)
theorem num_sh {b c : Int32} {i : Nat} (hc : c.toInt = i) (hi : i ≤ 20) : (b.toInt64 <<< ((20 - c).toInt64 &&& 63)).toInt = b.toInt * pw2 (20 - i) := by
  have h1 := i_lo b
  have h2 := i_hi b
  have h3 : b.toInt64.toInt = b.toInt := i_2j b
  rw [i_of hc hi, ← h3]
  rw [← h3] at h1 h2
  match i, hi with
  | 0, _ => exact j_shl (n := 20) (p := 1048576) rfl rfl (by omega) (by omega)
  | 1, _ => exact j_shl (n := 19) (p := 524288) rfl rfl (by omega) (by omega)
  | 2, _ => exact j_shl (n := 18) (p := 262144) rfl rfl (by omega) (by omega)
  | 3, _ => exact j_shl (n := 17) (p := 131072) rfl rfl (by omega) (by omega)
  | 4, _ => exact j_shl (n := 16) (p := 65536) rfl rfl (by omega) (by omega)
  | 5, _ => exact j_shl (n := 15) (p := 32768) rfl rfl (by omega) (by omega)
  | 6, _ => exact j_shl (n := 14) (p := 16384) rfl rfl (by omega) (by omega)
  | 7, _ => exact j_shl (n := 13) (p := 8192) rfl rfl (by omega) (by omega)
  | 8, _ => exact j_shl (n := 12) (p := 4096) rfl rfl (by omega) (by omega)
  | 9, _ => exact j_shl (n := 11) (p := 2048) rfl rfl (by omega) (by omega)
  | 10, _ => exact j_shl (n := 10) (p := 1024) rfl rfl (by omega) (by omega)
  | 11, _ => exact j_shl (n := 9) (p := 512) rfl rfl (by omega) (by omega)
  | 12, _ => exact j_shl (n := 8) (p := 256) rfl rfl (by omega) (by omega)
  | 13, _ => exact j_shl (n := 7) (p := 128) rfl rfl (by omega) (by omega)
  | 14, _ => exact j_shl (n := 6) (p := 64) rfl rfl (by omega) (by omega)
  | 15, _ => exact j_shl (n := 5) (p := 32) rfl rfl (by omega) (by omega)
  | 16, _ => exact j_shl (n := 4) (p := 16) rfl rfl (by omega) (by omega)
  | 17, _ => exact j_shl (n := 3) (p := 8) rfl rfl (by omega) (by omega)
  | 18, _ => exact j_shl (n := 2) (p := 4) rfl rfl (by omega) (by omega)
  | 19, _ => exact j_shl (n := 1) (p := 2) rfl rfl (by omega) (by omega)
  | 20, _ => exact j_shl (n := 0) (p := 1) rfl rfl (by omega) (by omega)
  | n + 21, h => exact absurd h (by omega)
theorem row_up {c : Int32} {i : Nat} (hc : c.toInt = i) (hi : i ≤ 20) : ((1 <<< (c &&& 31)) - 1 : Int32).toInt = pw2 i - 1 := by
  rw [i_of hc hi]
  match i, hi with
  | 0, _ => rfl
  | 1, _ => rfl
  | 2, _ => rfl
  | 3, _ => rfl
  | 4, _ => rfl
  | 5, _ => rfl
  | 6, _ => rfl
  | 7, _ => rfl
  | 8, _ => rfl
  | 9, _ => rfl
  | 10, _ => rfl
  | 11, _ => rfl
  | 12, _ => rfl
  | 13, _ => rfl
  | 14, _ => rfl
  | 15, _ => rfl
  | 16, _ => rfl
  | 17, _ => rfl
  | 18, _ => rfl
  | 19, _ => rfl
  | 20, _ => rfl
  | n + 21, h => exact absurd h (by omega)
theorem i_shr {b k : Int32} {n : Nat} {p : Int} (hk : (k.toBitVec.smod 32).toNat = n) (hp : ((2 ^ n : Nat) : Int) = p) : (b >>> k).toInt = b.toInt / p := by
  have e1 : (b >>> k).toBitVec = b.toBitVec.sshiftRight' (k.toBitVec.smod 32) := Int32.toBitVec_shiftRight b k
  have e2 : (b >>> k).toInt = (b >>> k).toBitVec.toInt := rfl
  have e3 : b.toInt = b.toBitVec.toInt := rfl
  rw [e2, e1, e3, BitVec.toInt_sshiftRight', hk, Int.shiftRight_eq_div_pow, ← hp]
theorem row_dn {b c : Int32} {i : Nat} (hc : c.toInt = i) (hi : i ≤ 20) (hb : 0 ≤ b.toInt) : (b >>> (c &&& 31)) = 0 ↔ b.toInt < pw2 i := by
  rw [i_ne, i_of hc hi]
  match i, hi with
  | 0, _ => rw [i_shr (n := 0) (p := 1) rfl rfl, show pw2 0 = 1 from rfl]; omega
  | 1, _ => rw [i_shr (n := 1) (p := 2) rfl rfl, show pw2 1 = 2 from rfl]; omega
  | 2, _ => rw [i_shr (n := 2) (p := 4) rfl rfl, show pw2 2 = 4 from rfl]; omega
  | 3, _ => rw [i_shr (n := 3) (p := 8) rfl rfl, show pw2 3 = 8 from rfl]; omega
  | 4, _ => rw [i_shr (n := 4) (p := 16) rfl rfl, show pw2 4 = 16 from rfl]; omega
  | 5, _ => rw [i_shr (n := 5) (p := 32) rfl rfl, show pw2 5 = 32 from rfl]; omega
  | 6, _ => rw [i_shr (n := 6) (p := 64) rfl rfl, show pw2 6 = 64 from rfl]; omega
  | 7, _ => rw [i_shr (n := 7) (p := 128) rfl rfl, show pw2 7 = 128 from rfl]; omega
  | 8, _ => rw [i_shr (n := 8) (p := 256) rfl rfl, show pw2 8 = 256 from rfl]; omega
  | 9, _ => rw [i_shr (n := 9) (p := 512) rfl rfl, show pw2 9 = 512 from rfl]; omega
  | 10, _ => rw [i_shr (n := 10) (p := 1024) rfl rfl, show pw2 10 = 1024 from rfl]; omega
  | 11, _ => rw [i_shr (n := 11) (p := 2048) rfl rfl, show pw2 11 = 2048 from rfl]; omega
  | 12, _ => rw [i_shr (n := 12) (p := 4096) rfl rfl, show pw2 12 = 4096 from rfl]; omega
  | 13, _ => rw [i_shr (n := 13) (p := 8192) rfl rfl, show pw2 13 = 8192 from rfl]; omega
  | 14, _ => rw [i_shr (n := 14) (p := 16384) rfl rfl, show pw2 14 = 16384 from rfl]; omega
  | 15, _ => rw [i_shr (n := 15) (p := 32768) rfl rfl, show pw2 15 = 32768 from rfl]; omega
  | 16, _ => rw [i_shr (n := 16) (p := 65536) rfl rfl, show pw2 16 = 65536 from rfl]; omega
  | 17, _ => rw [i_shr (n := 17) (p := 131072) rfl rfl, show pw2 17 = 131072 from rfl]; omega
  | 18, _ => rw [i_shr (n := 18) (p := 262144) rfl rfl, show pw2 18 = 262144 from rfl]; omega
  | 19, _ => rw [i_shr (n := 19) (p := 524288) rfl rfl, show pw2 19 = 524288 from rfl]; omega
  | 20, _ => rw [i_shr (n := 20) (p := 1048576) rfl rfl, show pw2 20 = 1048576 from rfl]; omega
  | n + 21, h => exact absurd h (by omega)
theorem i_and1 (x : Int32) : (x &&& 1) = 0 ∨ (x &&& 1) = 1 := by
  have h1 : (x &&& 1).toBitVec.toNat = x.toBitVec.toNat % 2 := by
    show (x.toBitVec &&& 1#32).toNat = _
    rw [BitVec.toNat_and]
    show x.toBitVec.toNat &&& 1 = _
    rw [Nat.and_one_is_mod]
  rcases (by omega : x.toBitVec.toNat % 2 = 0 ∨ x.toBitVec.toNat % 2 = 1) with z | z
  · refine Or.inl (Int32.toBitVec_inj.mp (BitVec.toNat_inj.mp ?_))
    rw [h1, z]
    rfl
  · refine Or.inr (Int32.toBitVec_inj.mp (BitVec.toNat_inj.mp ?_))
    rw [h1, z]
    rfl
theorem i_nd1 {x : Int32} : ¬ (x &&& 1) = 1 ↔ (x &&& 1) = 0 := by
  constructor
  · intro z
    rcases i_and1 x with w | w
    · exact w
    · exact absurd w z
  · intro z w
    rw [z] at w
    exact absurd w (by decide)
/-- the sign or place k of a row -/
def btI (b : Int32) (k : Nat) : Bool := decide (¬ ((b >>> (Int32.ofNat k &&& 31)) &&& 1) = 0)
theorem btI_f {b l : Int32} {k : Nat} (hl : l.toInt = k) (hk : k ≤ 20) : ((b >>> (l &&& 31)) &&& 1) = 0 ↔ btI b k = false := by
  rw [i_of hl hk, btI, decide_eq_false_iff_not, Classical.not_not]
theorem btI_t {b l : Int32} {k : Nat} (hl : l.toInt = k) (hk : k ≤ 20) : ((b >>> (l &&& 31)) &&& 1) = 1 ↔ btI b k = true := by
  rw [i_of hl hk, btI, decide_eq_true_iff]
  constructor
  · intro z w
    rw [z] at w
    exact absurd w (by decide)
  · intro z
    rcases i_and1 (b >>> (Int32.ofNat k &&& 31)) with w | w
    · exact absurd w z
    · exact w
theorem j_and20 (x : Int64) : (x &&& 1048575) = 0 ↔ x.toInt % 1048576 = 0 := by
  have h1 : (x &&& 1048575) = 0 ↔ x.toBitVec &&& 1048575#64 = 0#64 := by
    rw [← Int64.toBitVec_inj]
    exact Iff.rfl
  have h2 : x.toBitVec &&& 1048575#64 = 0#64 ↔ x.toBitVec.toNat % 1048576 = 0 := by
    rw [← BitVec.toNat_inj, BitVec.toNat_and]
    show x.toBitVec.toNat &&& (2 ^ 20 - 1) = 0 ↔ _
    rw [Nat.and_two_pow_sub_one_eq_mod]
  have h3 : x.toInt = x.toBitVec.toInt := rfl
  rw [h1, h2, h3, BitVec.toInt_eq_toNat_bmod, Int.bmod_def]
  have := x.toBitVec.isLt
  split <;> omega
theorem j_shr20 (x : Int64) : (x >>> ((20 : Int32).toInt64 &&& 63)).toInt = x.toInt / 1048576 := by
  have e1 : (x >>> ((20 : Int32).toInt64 &&& 63)).toBitVec = x.toBitVec.sshiftRight' ((((20 : Int32).toInt64 &&& 63)).toBitVec.smod 64) := Int64.toBitVec_shiftRight x _
  have e2 : (x >>> ((20 : Int32).toInt64 &&& 63)).toInt = (x >>> ((20 : Int32).toInt64 &&& 63)).toBitVec.toInt := rfl
  have e3 : x.toInt = x.toBitVec.toInt := rfl
  rw [e2, e1, e3, BitVec.toInt_sshiftRight', show ((((20 : Int32).toInt64 &&& 63)).toBitVec.smod 64).toNat = 20 from rfl, Int.shiftRight_eq_div_pow]
  rfl
/-- what rests behind a division by 1048576 -/
theorem j_rem20 {x : Int64} (h : -4611686018427387904 ≤ x.toInt ∧ x.toInt ≤ 4611686018427387904) : ((x - x / 1048576 * 1048576) = 0 ↔ x.toInt % 1048576 = 0) ∧ (x.toInt % 1048576 = 0 → (x / 1048576).toInt = x.toInt / 1048576) := by
  have e2 : (1048576 : Int64).toInt = 1048576 := rfl
  have e0 : (0 : Int64).toInt = 0 := rfl
  have h0 : (x / 1048576).toInt = x.toInt.tdiv 1048576 := Int64.toInt_div_of_ne_right x 1048576 (by decide)
  have ht : x.toInt.tdiv 1048576 = if 0 ≤ x.toInt then x.toInt / 1048576 else -((-x.toInt) / 1048576) := by
    split
    · exact Int.tdiv_eq_ediv_of_nonneg ‹_›
    · have h1 : (-(-x.toInt)).tdiv 1048576 = -((-x.toInt).tdiv 1048576) := Int.neg_tdiv (-x.toInt) 1048576
      rw [Int.neg_neg] at h1
      rw [h1, Int.tdiv_eq_ediv_of_nonneg (by omega)]
  rw [ht] at h0
  have h2 : (x / 1048576 * 1048576).toInt = (x / 1048576).toInt * 1048576 := by
    rw [j_mul (by rw [e2, h0]; split <;> omega) (by rw [e2, h0]; split <;> omega), e2]
  have h3 : (x - x / 1048576 * 1048576).toInt = x.toInt - (x / 1048576).toInt * 1048576 := by
    rw [j_sub (by rw [h2, h0]; split <;> omega) (by rw [h2, h0]; split <;> omega), h2]
  refine ⟨?_, fun z => ?_⟩
  · rw [← Int64.toInt_inj, h3, e0, h0]
    split <;> omega
  · rw [h0]
    split <;> omega
theorem j_to32 {x : Int64} (h : -2147483648 ≤ x.toInt ∧ x.toInt < 2147483648) : x.toInt32.toInt = x.toInt := by
  rw [Int64.toInt_toInt32]
  exact i_bm h.1 h.2
theorem mul_fit {a b : Int} (ha : fitN a) (hb : fitN b) : -72057594037927936 ≤ a * b ∧ a * b ≤ 72057594037927936 := by
  have h1 : a.natAbs * b.natAbs ≤ 268435456 * 268435456 := Nat.mul_le_mul (by omega) (by omega)
  have h2 : (a * b).natAbs = a.natAbs * b.natAbs := Int.natAbs_mul a b
  omega
theorem mxJ_i (x z : Int64) : (mxJ x z).toInt = max x.toInt z.toInt := by
  unfold mxJ
  by_cases h : z < x
  · rw [if_pos h]; rw [j_lt] at h; omega
  · rw [if_neg h]; rw [j_lt] at h; omega
theorem mnJ_i (x z : Int64) : (mnJ x z).toInt = min x.toInt z.toInt := by
  unfold mnJ
  by_cases h : z < x
  · rw [if_pos h]; rw [j_lt] at h; omega
  · rw [if_neg h]; rw [j_lt] at h; omega
theorem c_J_i (x z : Int64) : (c_J x z).toInt = csg x.toInt z.toInt := by
  unfold c_J csg
  by_cases h : x < z
  · rw [if_pos h, if_pos (j_lt.mp h)]; rfl
  · rw [if_neg h, if_neg (fun w => h (j_lt.mpr w))]
    by_cases g : x = z
    · rw [if_pos g, if_pos (congrArg Int64.toInt g)]; rfl
    · rw [if_neg g, if_neg (fun w => g (Int64.toInt_inj.mp w))]; rfl
