/-! PURE: the calls: slots, undo, code, settings, the buffer's small calls -/
theorem x_isS {a1 : Int32} : fX6_isSetting a1 = some (if 0 ≤ a1 ∧ a1 ≤ 2 then 1 else 0) := by
  unfold fX6_isSetting
  have t2 : (2 : Int32).toInt = 2 := by decide
  have t3 : (3 : Int32).toInt = 3 := by decide
  simp only [Int32.lt_iff_toInt_lt, Int32.le_iff_toInt_le, t2, t3, Int32.toInt_zero]
  by_cases c1 : a1.toInt < 0
  · rw [if_pos c1, if_neg (by omega)]
  · rw [if_neg c1]
    by_cases c2 : 3 ≤ a1.toInt
    · rw [if_pos c2, if_neg (by omega)]
    · rw [if_neg c2, if_pos (by omega)]
theorem set_eq {σ : Sg} {s : Nat → Int32} {M B : Nat} (ha : Ba σ 10 s M B) (hm : MS s M B) : ∀ j, j < 3 → σ 12 j = s (2 + j) := by
  intro j hj
  rcases (show j = 0 ∨ j = 1 ∨ j = 2 by omega) with rfl | rfl | rfl
  · exact ha.2.1.trans hm.2.2.2.2.2.1.symm
  · exact ha.2.2.1
  · exact ha.2.2.2.1
theorem x_slot {a1 : Int32} {σ : Sg} : fX6_refuseUnlessSlot a1 σ = if 0 ≤ a1 ∧ a1 ≤ 1 then some (.inl (), σ) else some (.inr 0, σ) := by
  unfold fX6_refuseUnlessSlot
  have t2 : (2 : Int32).toInt = 2 := by decide
  have t1 : (1 : Int32).toInt = 1 := by decide
  simp only [Int32.lt_iff_toInt_lt, Int32.le_iff_toInt_le, t2, t1, Int32.toInt_zero]
  by_cases c1 : a1.toInt < 0
  · rw [if_pos c1, if_neg (by omega)]
  · rw [if_neg c1]
    by_cases c2 : a1.toInt < 2
    · rw [if_pos c2, if_pos (by omega)]
    · rw [if_neg c2, if_neg (by omega)]
