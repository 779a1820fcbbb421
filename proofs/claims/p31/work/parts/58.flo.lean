/-! PURE: the mean of the error's squares is a number, and itself -/
theorem dv_no (a b : Int32) (hb : b ≠ 0) : FP.Core.val64 (FP.ddiv (FP.i2d a) (FP.i2d b)) ≠ FP.Core.Datum.nan := by
  obtain ⟨s1, c1, q1, e1⟩ := FP.Core.i2d_fin a
  obtain ⟨s2, c2, q2, e2⟩ := FP.Core.i2d_fin b
  have hz := FP.Core.i2d_ne_zero hb
  have h2 : c2 ≠ 0 := by
    intro h
    subst h
    exact hz ((FP.Core.zero_bits2 _).mp ⟨s2, q2, e2⟩)
  have e3 : FP.Core.val64 (FP.ddiv (FP.i2d a) (FP.i2d b)) = FP.Core.roundRatio FP.Core.b64 (s1 != s2) c1 c2 (q1 - q2) := by
    show FP.Core.val64 (FP.Core.ddiv (FP.Core.i2d a) (FP.Core.i2d b)) = _
    rw [FP.Core.val64_ddiv, e1, e2]
    show (if c2 = 0 then (if c1 = 0 then FP.Core.Datum.nan else FP.Core.Datum.inf (s1 != s2)) else FP.Core.roundRatio FP.Core.b64 (s1 != s2) c1 c2 (q1 - q2)) = _
    rw [if_neg h2]
  rw [e3]
  exact FP.Core.roundRatio_ne_nan _ _ _ _ _
theorem dv_nn (a b : Int32) (hb : b ≠ 0) : (FP.ddiv (FP.i2d a) (FP.i2d b)) &&& 0x7fffffffffffffff ≤ 0x7ff0000000000000 := by
  rw [UInt64.le_iff_toNat_le, FP.Core.mask_toNat]
  exact (FP.Core.ne_nan _).mp (dv_no a b hb)
theorem dv_cmp (a b : Int32) (hb : b ≠ 0) : Op.cmpValue (FP.dcmp (FP.ddiv (FP.i2d a) (FP.i2d b)) (FP.ddiv (FP.i2d a) (FP.i2d b))) .l = 0 := by
  rw [show FP.dcmp (FP.ddiv (FP.i2d a) (FP.i2d b)) (FP.ddiv (FP.i2d a) (FP.i2d b)) = some .eq from FP.Core.dcmp_self (dv_no a b hb)]
  rfl
theorem d0_cmp : Op.cmpValue (FP.dcmp FP.dconst0 FP.dconst0) .l = 0 := by decide +kernel
theorem f0_cmp : Op.cmpValue (FP.fcmp FP.fconst0 FP.fconst0) .l = 0 := by decide +kernel
