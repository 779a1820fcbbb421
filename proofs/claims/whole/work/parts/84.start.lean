/-! PURE: the relation at the start -/
theorem tbF_st : ∀ n, n < 49 → tbF 49 n = stp n := by decide +kernel
theorem mu0_0 : mu0 0 = upd (upd (fun _ => 0) 0 32) 2 8 := by
  show upd (upd (fun _ => 0) (0 : Int32).toNatClampNeg 32) (2 : Int32).toNatClampNeg 8 = _
  rw [show (0 : Int32).toNatClampNeg = 0 by decide, show (2 : Int32).toNatClampNeg = 2 by decide]
theorem Rl0 : Rl sg0 mu0 0 := by
  refine ⟨SR.unc 32 8 (by decide) (by decide) (by decide) (by decide) rfl ?_ ?_ ?_ ?_ ?_ (Or.inl ?_) (Or.inl ?_) (fun k hk => ⟨?_, ?_⟩) ?_ ?_ ?_ ?_, ⟨0, by decide, rfl, rfl, fun t => 3 + t, fun t ht => ⟨Nat.le_add_right 3 t, Nat.add_lt_add_left ht 3, rfl⟩, fun t u _ _ h => Nat.add_left_cancel (show 3 + t = 3 + u from h), fun t ht => by omega⟩, fun i hi k _ => Or.inl ?_, fun u hu => ?_, ⟨0, by decide, rfl, rfl, fun k hk => by omega⟩, fun n hn => tbF_st n hn, Or.inl rfl⟩
  · rw [mu0_0]; rfl
  · decide
  · rw [mu0_0]; rfl
  · rw [mu0_0]; decide
  · rw [mu0_0]; decide
  · rw [mu0_0]; rfl
  · rw [mu0_0]; rfl
  · rw [mu0_0, pk_un (by omega), pk_un (by omega)]
    rfl
  · rw [mu0_0, pk_un (by omega), pk_un (by omega)]
    exact z_inV
  · rw [mu0_0]; rfl
  · rw [mu0_0]; rfl
  · rw [mu0_0]; rfl
  · rfl
  · rcases (show i = 0 ∨ i = 1 ∨ i = 2 ∨ i = 3 ∨ i = 4 ∨ i = 5 ∨ i = 6 ∨ i = 7 ∨ i = 8 by omega) with rfl | rfl | rfl | rfl | rfl | rfl | rfl | rfl | rfl <;> rfl
  · exact ⟨rfl, Or.inl rfl⟩
