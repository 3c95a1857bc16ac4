/-! ===== the words of the throws ===== -/
/-- the throws: class, constructor, their words -/
def xTA : List (Nat × Nat × Nat) := [(2, 154, 3), (6, 88, 2), (6, 153, 3), (6, 244, 1)]
def xTN : List String := ["java/lang/RuntimeException", "java/lang/Exception"]
theorem xTA_1 : ∀ q ∈ xTA, ∀ w ∈ (vx_atS (xcn q.1) q.2.1 (xen q.2.2) xTN).filter goodWord, w ∈ lw_tbl := by decide +kernel
theorem xTA_2 : ∀ q ∈ xTA, ∀ w ∈ (vx_atS (xcn q.1) q.2.1 (xen q.2.2) xTN).filter (fun w => !goodWord w), w ∈ Cond.castable (xen q.2.2) (xen q.2.2) :: xDec.map Cond.declares := by decide +kernel
theorem xTA_3 : ∀ q ∈ xTA, ∀ w ∈ vx_atS (xcn q.1) q.2.1 (xen q.2.2) xTN, vx_ot w = true := by decide +kernel
theorem xTA_4 : Bundle.fit (xen 1) = true ∧ Bundle.fit (xen 2) = true ∧ Bundle.fit (xen 3) = true ∧ ∀ n ∈ xTN, Bundle.fit n = true := by decide +kernel
theorem xTH_ok : ∀ q ∈ xTH, (q.1, q.2.2.2.2.1, q.2.2.1) ∈ xTA ∧ Cond.classLink (xcn q.1) q.2.1 (xen q.2.2.1) ∈ lw_tbl ∧ Cond.initialized (xen q.2.2.1) ∈ lw_tbl ∧ (q.2.2.1 = 1 ∨ q.2.2.1 = 2 ∨ q.2.2.1 = 3) := by decide +kernel
