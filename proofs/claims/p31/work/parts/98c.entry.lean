theorem kNi_RX6 : Kw (.instantiable RX6 9) := ⟨List.mem_append_right _ (List.mem_of_getElem? (i := 17) (by decide +kernel)), by decide +kernel⟩
theorem kAo : Cond.arrayOver (.object RX4) ∈ lw_tbl := List.mem_append_right _ (List.mem_of_getElem? (i := 105) (by decide +kernel))
theorem kls_steps : Cond.laysStatic "SteppedSamples$Walk" "STEPS" "[I" ∈ lw_tbl := List.mem_append_right _ (List.mem_of_getElem? (i := 405) (by decide +kernel))
theorem kls_un : Cond.laysStatic "java/lang/Throwable" "UNASSIGNED_STACK" "[Ljava/lang/StackTraceElement;" ∈ lw_tbl := List.mem_append_right _ (List.mem_of_getElem? (i := 270) (by decide +kernel))
theorem kls_su : Cond.laysStatic "java/lang/Throwable" "SUPPRESSED_SENTINEL" "Ljava/util/List;" ∈ lw_tbl := List.mem_append_right _ (List.mem_of_getElem? (i := 272) (by decide +kernel))
theorem kin_thr : Cond.initialized "java/lang/Throwable" ∈ lw_tbl := List.mem_append_right _ (List.mem_of_getElem? (i := 8) (by decide +kernel))
theorem kin_wk : Cond.initialized "SteppedSamples$Walk" ∈ lw_tbl := List.mem_append_right _ (List.mem_of_getElem? (i := 6) (by decide +kernel))
/-! THE ENTRY: what stays, out of the tables' words and the Statement's premises -/
/-- a place's number in the order of making -/
def ixL : List Nat := [0, 9, 10, 59, 76, 77, 78, 79, 80, 91] ++ (List.range 8).map (· + 1) ++ (List.range 16).map (· + 60) ++ (List.range 48).map (· + 11) ++ [81, 85, 89, 90] ++ (List.range 3).map (· + 82) ++ (List.range 3).map (· + 86)
abbrev mkE (D : va_G) (Y : Nat → ClassId) (h t : Nat) (S : Nat → Nat) : En := (D, Y, fun q => h + ixL.getD q 0, h, t, S, 0)
theorem ix_inj : ∀ i, i < 92 → ∀ j, j < 92 → ixL.getD i 0 = ixL.getD j 0 → i = j := by decide +kernel
abbrev tmS : Term := .static "SteppedSamples$Walk" "STEPS" "[I"
theorem fl_el : ∀ j, j < 49 → Cond.eq (.elem tmS (.int (Int32.ofNat j))) (.int (stepsL.getD j 0)) ∈ flatC (Jvm.Cond.and given_1 narrow_1) := by decide +kernel
theorem tb_nw : ∀ w ∈ nwL, w ∈ lw_tbl ∧ w.onTables = true := by decide +kernel
theorem tb_nwC : ∀ w ∈ nwC, w ∈ lw_tbl ∧ w.onTables = true := by decide +kernel
theorem tb_str : ∀ q ∈ strs, Cond.stringRef RX6 q.1 q.2 ∈ lw_tbl := by decide +kernel
theorem str_one : ∀ q ∈ strs, ∀ r ∈ strs, q.1 = r.1 → q = r := by decide +kernel
theorem ko_of {args : Array Value} {s : State} (hts : ∀ w ∈ lw_tbl, w.before args s = true) (hg : (Jvm.Cond.and given_1 narrow_1).before args s = true) : ∃ (D : va_G) (Y : Nat → ClassId) (t : Nat) (S : Nat → Nat), Ks (mkE D Y s.heap.size t S) s ∧ Kc (mkE D Y s.heap.size t S) s := by
  have hq := flat_of_before _ hg
  obtain ⟨c0, i0, h0⟩ := u_known (ws := lw_tbl) hts (fun w h => (inK0 w h).1) (hts _ kNi_RX0.1)
  obtain ⟨c1, i1, h1⟩ := u_known (ws := lw_tbl) hts (fun w h => (inK1 w h).1) (hts _ kNi_RX1.1)
  obtain ⟨c2, i2, h2⟩ := u_known (ws := lw_tbl) hts (fun w h => (inK2 w h).1) (hts _ kNi_RX2.1)
  obtain ⟨c3, i3, h3⟩ := u_known (ws := lw_tbl) hts (fun w h => (inK3 w h).1) (hts _ kNi_RX3.1)
  obtain ⟨c4, i4, h4⟩ := u_known (ws := lw_tbl) hts (fun w h => (inK4 w h).1) (hts _ kNi_RX4.1)
  obtain ⟨c5, i5, h5⟩ := u_known (ws := lw_tbl) hts (fun w h => (inK5 w h).1) (hts _ kNi_RX5.1)
  obtain ⟨c6, i6, h6⟩ := u_known (ws := lw_tbl) hts (fun w h => (inK6 w h).1) (hts _ kNi_RX6.1)
  obtain ⟨cI, kI, pI, a1, a2, a3⟩ := Cond.arrayClass_spec (hts _ kAr_i.1)
  obtain ⟨cZ, kZ, pZ, z1, z2, z3⟩ := Cond.arrayClass_spec (hts _ kAr_z.1)
  obtain ⟨pQ, cQ, kQ, b1, b2, b3, b4, b5⟩ := Cond.arrayOver_spec (hts _ kAo)
  have hA : ∀ a : Nat, a < s.heap.size → ¬ s.heap.size ≤ a := fun a h q => by omega
  obtain ⟨t, ht, hT⟩ := va_Tof (tm := tmS) (ty := .int) (N := 49) (f := fun k => .int (stepsL.getD k 0)) (by decide) (hq _ (by decide +kernel)) (va_eqt (z := Int32.ofNat 49) (hq _ (by decide +kernel))) (fun j hj => va_eqt (hq _ (fl_el j hj))) hA
  have hS : ∀ k, ∃ a, ∀ tx, (k, tx) ∈ strs → vk_R RX6 k tx a s := by
    intro k
    by_cases hk : ∃ tx, (k, tx) ∈ strs
    · obtain ⟨tx, hk⟩ := hk
      obtain ⟨_, _, _, a, _, _, _, _, _, he⟩ := Cond.stringRef_spec h6.2.1 (hts _ (tb_str _ hk))
      refine ⟨a, fun tx' hk' => ?_⟩
      cases str_one _ hk _ hk' rfl
      exact vk_R.of (hts _ (tb_str _ hk)) he
    · exact ⟨0, fun tx h => absurd ⟨tx, h⟩ hk⟩
  let D : va_G := (fun c => [c0, c1, c2, c3, c4, c5, c6].getD c 0, fun c => [i0, i1, i2, i3, i4, i5, i6].getD c (fun _ => 0))
  let Y : Nat → ClassId := fun k => [cI, cZ, cQ].getD k 0
  let S : Nat → Nat := fun k => Classical.choose (hS k)
  let E : En := mkE D Y s.heap.size t S
  have hTb : Tb s := fun w hw g => word_at (State.WarmedH.refl s) (good_of_word g) (hts w hw)
  have hcl : ∀ (c : Nat) (q : vw_C), vwCl[c]? = some q → u_Kn s q.1 q.2.1 q.2.2 ((eD E).1 c) ((eD E).2 c) := by
    intro c q hc
    have hlt : c < 7 := (List.getElem?_eq_some_iff.mp hc).1
    rcases (show c = 0 ∨ c = 1 ∨ c = 2 ∨ c = 3 ∨ c = 4 ∨ c = 5 ∨ c = 6 by omega) with rfl | rfl | rfl | rfl | rfl | rfl | rfl <;> cases hc <;> assumption
  have hK : va_K (eD E) vwCl (tyOf E) s := by
    refine ⟨hcl, fun k q hk => ?_⟩
    have hlt : k < 3 := (List.getElem?_eq_some_iff.mp hk).1
    rcases (show k = 0 ∨ k = 1 ∨ k = 2 by omega) with rfl | rfl | rfl <;> cases hk
    · exact ⟨fun n z => ⟨(fun k h => by cases h), kI, a2, pI, a3⟩, a1⟩
    · exact ⟨fun n z => ⟨(fun k h => by cases h), kZ, z2, pZ, z3⟩, z1⟩
    · exact ⟨fun n z => ⟨(fun k h => by cases h), kQ, b3, pQ, b4⟩, kQ, pQ, b3, b4, b1, b5⟩
  have hKs : Ks E s := by
    refine ⟨hK, hTb, ⟨⟨fun i j hi hj h => ix_inj i hi.2 j hj.2 (by have h' : s.heap.size + ixL.getD i 0 = s.heap.size + ixL.getD j 0 := h; omega), fun i hi => Nat.le_add_right _ _⟩, Nat.zero_le 1⟩, ⟨va_Zof (hts _ kls_steps) (hts _ kin_wk) ht hA, hT⟩, ⟨vx_Zqof (hts _ kls_un) (hts _ kin_thr) (hq _ (by decide +kernel)) hA, vx_Zqof (hts _ kls_su) (hts _ kin_thr) (hq _ (by decide +kernel)) hA⟩, ⟨fun w hw => va_Nw.of (tb_nw w hw).2 (hts w (tb_nw w hw).1), trivial⟩, fun q hqs => Classical.choose_spec (hS q.1) q.2 hqs⟩
  exact ⟨D, Y, t, S, hKs, hK, hTb, fun w hw => va_Nw.of (tb_nwC w hw).2 (hts w (tb_nwC w hw).1), va_AO.of (hts _ kAo)⟩
