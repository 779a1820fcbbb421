theorem kO_i : Kw (.instanceMethod Lib.objectInit) := ⟨List.mem_append_right _ (List.mem_of_getElem? (i := 23) (by decide +kernel)), by decide +kernel⟩
theorem kO_c : Kw (.code Lib.objectInit ⟨#[0xb1]⟩ 1 none) := ⟨List.mem_append_right _ (List.mem_of_getElem? (i := 24) (by decide +kernel)), by decide +kernel⟩
theorem kAr_i : Kw (.arrayClass .int) := ⟨List.mem_append_right _ (List.mem_of_getElem? (i := 97) (by decide +kernel)), by decide +kernel⟩
theorem kAr_z : Kw (.arrayClass .boolean) := ⟨List.mem_append_right _ (List.mem_of_getElem? (i := 98) (by decide +kernel)), by decide +kernel⟩
theorem kM_RX5_3 : Kw (.methodLink RX5 3 Lib.objectInit) := ⟨List.mem_append_right _ (List.mem_of_getElem? (i := 170) (by decide +kernel)), by decide +kernel⟩
theorem kM_RX0_3 : Kw (.methodLink RX0 3 Lib.objectInit) := ⟨List.mem_append_right _ (List.mem_of_getElem? (i := 121) (by decide +kernel)), by decide +kernel⟩
theorem kM_RX1_3 : Kw (.methodLink RX1 3 Lib.objectInit) := ⟨List.mem_append_right _ (List.mem_of_getElem? (i := 164) (by decide +kernel)), by decide +kernel⟩
theorem kL_RX1_9 : Kw (.classLink RX1 9 RX5) := ⟨List.mem_append_right _ (List.mem_of_getElem? (i := 165) (by decide +kernel)), by decide +kernel⟩
theorem kNi_RX5 : Kw (.instantiable RX5 2) := ⟨List.mem_append_right _ (List.mem_of_getElem? (i := 166) (by decide +kernel)), by decide +kernel⟩
theorem kc_X5_init : Kw (.code yX5_init cX5_init 1 none) := ⟨List.mem_append_right _ (List.mem_of_getElem? (i := 169) (by decide +kernel)), by decide +kernel⟩
theorem ki_X5_init : Kw (.instanceMethod yX5_init) := ⟨List.mem_append_right _ (List.mem_of_getElem? (i := 168) (by decide +kernel)), by decide +kernel⟩
theorem kM_RX2_3 : Kw (.methodLink RX2 3 Lib.objectInit) := ⟨List.mem_append_right _ (List.mem_of_getElem? (i := 193) (by decide +kernel)), by decide +kernel⟩
theorem kL_RX2_18 : Kw (.classLink RX2 18 RX5) := ⟨List.mem_append_right _ (List.mem_of_getElem? (i := 194) (by decide +kernel)), by decide +kernel⟩
theorem kM_RX4_3 : Kw (.methodLink RX4 3 Lib.objectInit) := ⟨List.mem_append_right _ (List.mem_of_getElem? (i := 30) (by decide +kernel)), by decide +kernel⟩
theorem kM_RX3_3 : Kw (.methodLink RX3 3 Lib.objectInit) := ⟨List.mem_append_right _ (List.mem_of_getElem? (i := 104) (by decide +kernel)), by decide +kernel⟩
theorem kL_RX3_9 : Kw (.classLink RX3 9 RX4) := ⟨List.mem_append_right _ (List.mem_of_getElem? (i := 105) (by decide +kernel)), by decide +kernel⟩
theorem kNi_RX4 : Kw (.instantiable RX4 11) := ⟨List.mem_append_right _ (List.mem_of_getElem? (i := 26) (by decide +kernel)), by decide +kernel⟩
theorem kc_X4_init : Kw (.code yX4_init cX4_init 1 none) := ⟨List.mem_append_right _ (List.mem_of_getElem? (i := 29) (by decide +kernel)), by decide +kernel⟩
theorem ki_X4_init : Kw (.instanceMethod yX4_init) := ⟨List.mem_append_right _ (List.mem_of_getElem? (i := 28) (by decide +kernel)), by decide +kernel⟩
theorem kM_RX6_3 : Kw (.methodLink RX6 3 Lib.objectInit) := ⟨List.mem_append_right _ (List.mem_of_getElem? (i := 22) (by decide +kernel)), by decide +kernel⟩
theorem kL_RX6_9 : Kw (.classLink RX6 9 RX4) := ⟨List.mem_append_right _ (List.mem_of_getElem? (i := 25) (by decide +kernel)), by decide +kernel⟩
theorem kL_RX6_16 : Kw (.classLink RX6 16 RX3) := ⟨List.mem_append_right _ (List.mem_of_getElem? (i := 99) (by decide +kernel)), by decide +kernel⟩
theorem kNi_RX3 : Kw (.instantiable RX3 2) := ⟨List.mem_append_right _ (List.mem_of_getElem? (i := 100) (by decide +kernel)), by decide +kernel⟩
theorem kc_X3_init : Kw (.code yX3_init cX3_init 1 none) := ⟨List.mem_append_right _ (List.mem_of_getElem? (i := 103) (by decide +kernel)), by decide +kernel⟩
theorem ki_X3_init : Kw (.instanceMethod yX3_init) := ⟨List.mem_append_right _ (List.mem_of_getElem? (i := 102) (by decide +kernel)), by decide +kernel⟩
theorem kL_RX6_31 : Kw (.classLink RX6 31 RX0) := ⟨List.mem_append_right _ (List.mem_of_getElem? (i := 116) (by decide +kernel)), by decide +kernel⟩
theorem kNi_RX0 : Kw (.instantiable RX0 10) := ⟨List.mem_append_right _ (List.mem_of_getElem? (i := 117) (by decide +kernel)), by decide +kernel⟩
theorem kc_X0_init : Kw (.code yX0_init cX0_init 1 none) := ⟨List.mem_append_right _ (List.mem_of_getElem? (i := 120) (by decide +kernel)), by decide +kernel⟩
theorem ki_X0_init : Kw (.instanceMethod yX0_init) := ⟨List.mem_append_right _ (List.mem_of_getElem? (i := 119) (by decide +kernel)), by decide +kernel⟩
theorem kL_RX6_38 : Kw (.classLink RX6 38 RX1) := ⟨List.mem_append_right _ (List.mem_of_getElem? (i := 159) (by decide +kernel)), by decide +kernel⟩
theorem kNi_RX1 : Kw (.instantiable RX1 1) := ⟨List.mem_append_right _ (List.mem_of_getElem? (i := 160) (by decide +kernel)), by decide +kernel⟩
theorem kc_X1_init : Kw (.code yX1_init cX1_init 1 none) := ⟨List.mem_append_right _ (List.mem_of_getElem? (i := 163) (by decide +kernel)), by decide +kernel⟩
theorem ki_X1_init : Kw (.instanceMethod yX1_init) := ⟨List.mem_append_right _ (List.mem_of_getElem? (i := 162) (by decide +kernel)), by decide +kernel⟩
theorem kL_RX6_45 : Kw (.classLink RX6 45 RX2) := ⟨List.mem_append_right _ (List.mem_of_getElem? (i := 188) (by decide +kernel)), by decide +kernel⟩
theorem kNi_RX2 : Kw (.instantiable RX2 4) := ⟨List.mem_append_right _ (List.mem_of_getElem? (i := 189) (by decide +kernel)), by decide +kernel⟩
theorem kc_X2_init : Kw (.code yX2_init cX2_init 1 none) := ⟨List.mem_append_right _ (List.mem_of_getElem? (i := 192) (by decide +kernel)), by decide +kernel⟩
theorem ki_X2_init : Kw (.instanceMethod yX2_init) := ⟨List.mem_append_right _ (List.mem_of_getElem? (i := 191) (by decide +kernel)), by decide +kernel⟩
theorem kL_RX6_55 : Kw (.classLink RX6 55 RX5) := ⟨List.mem_append_right _ (List.mem_of_getElem? (i := 212) (by decide +kernel)), by decide +kernel⟩
theorem kM_RX7_1 : Kw (.methodLink RX7 1 Lib.objectInit) := ⟨List.mem_append_right _ (List.mem_of_getElem? (i := 867) (by decide +kernel)), by decide +kernel⟩
/-- the model's table after its first k places -/
def tbF : Nat → Nat → Int32
  | 0 => fun _ => 0
  | 1 => upd (fun _ => 0) (0 : Int32).toNatClampNeg 7
  | k + 2 => upd (tbF (k + 1)) (k + 1) (tbF (k + 1) k + tbF (k + 1) k / 10 + 1)
theorem tbF_s {k : Nat} (h : 1 ≤ k) : tbF (k + 1) = upd (tbF k) k (tbF k (k - 1) + tbF k (k - 1) / 10 + 1) := by
  obtain ⟨j, rfl⟩ : ∃ j, k = j + 1 := ⟨k - 1, by omega⟩
  rfl
theorem tb_step : ∀ k, k < 48 → stepsL.getD (k + 1) 0 = stepsL.getD k 0 + stepsL.getD k 0 / 10 + 1 := by decide +kernel
theorem tbF_val : ∀ k j, k ≤ 48 → j < k + 1 → tbF (k + 1) j = stepsL.getD j 0 := by
  intro k
  induction k with
  | zero =>
    intro j _ hj
    have : j = 0 := by omega
    subst this
    decide
  | succ k ih =>
    intro j hk hj
    show upd (tbF (k + 1)) (k + 1) (tbF (k + 1) k + tbF (k + 1) k / 10 + 1) j = _
    unfold upd
    by_cases h : j = k + 1
    · rw [if_pos h, h, ih k (by omega) (by omega), ← tb_step k (by omega)]
    · rw [if_neg h]
      exact ih j (by omega) (by omega)
theorem tbF_ok : ∀ j, j < 49 → tbF 49 j = stepsL.getD j 0 := fun j hj => tbF_val 48 j (by omega) (by omega)
def cX5_initC (E : En) (n : Nat) : List va_E := [.inr (5, [.int 0, .int 0])]
set_option maxHeartbeats 4000000 in
set_option maxRecDepth 100000 in
theorem mX5_init (l : Launch) {E : En} {pre : List va_E} {n : Nat} (hn : pre.length = n) : Met l yX5_init [.code yX5_init cX5_init 1 none] (Rc 1 12 0 0) (va_Pc [.ref (eB E + (n + 0))] (Cd E pre [.inr (5, [.int 0, .int 0])])) (Qc0 E pre (cX5_initC E n)) 0 0 (cP E) := by
  refine cn_of (by decide) (Nat.le_of_ble_eq_true rfl) rfl (fun p e s m below meth c hx hb hr hlk hml hown hin hK hW ls hl => ?_)
  have hown : s.vm.findClass RX5 = some m.cls := hown
  refine lv_aload_n hx hb dX5_init_0 rfl (lv_at hl 0 rfl) ?_
  refine cn_obj hx hb hml hl.1 hown hK kM_RX5_3 kO_i kO_c ⟨Nat.le_of_ble_eq_true rfl, Nat.le_of_ble_eq_true rfl⟩ dX5_init_1 ?_
  exact cn_ret hx hb hr hlk hW rfl rfl dX5_init_4
def cX0_initC (E : En) (n : Nat) : List va_E := [.inr (0, [.ref (eB E + (n + 1)), .int 0, .int 0, .int 0, .ref (eB E + (n + 2)), .int 0, .int 0, .int 0, .int 0, .int 0])] ++ [.inl (eY E 0, 40, .inl (fun _ => 0))] ++ [.inl (eY E 0, 15, .inl (fun _ => 0))]
set_option maxHeartbeats 4000000 in
set_option maxRecDepth 100000 in
theorem mX0_init (l : Launch) {E : En} {pre : List va_E} {n : Nat} (hn : pre.length = n) : Met l yX0_init [.code yX0_init cX0_init 1 none] (Rc 1 12 2 55) (va_Pc [.ref (eB E + (n + 0))] (Cd E pre [.inr (0, [.null, .int 0, .int 0, .int 0, .null, .int 0, .int 0, .int 0, .int 0, .int 0])])) (Qc0 E pre (cX0_initC E n)) 2 55 (cP E) := by
  refine cn_of (by decide) (Nat.le_of_ble_eq_true rfl) rfl (fun p e s m below meth c hx hb hr hlk hml hown hin hK hW ls hl => ?_)
  have hown : s.vm.findClass RX0 = some m.cls := hown
  refine lv_aload_n hx hb dX0_init_0 rfl (lv_at hl 0 rfl) ?_
  refine cn_obj hx hb hml hl.1 hown hK kM_RX0_3 kO_i kO_c ⟨Nat.le_of_ble_eq_true rfl, Nat.le_of_ble_eq_true rfl⟩ dX0_init_1 ?_
  refine lv_aload_n hx hb dX0_init_4 rfl (lv_at hl 0 rfl) ?_
  refine lv_bipush (v := 40) hx hb dX0_init_5 (by decide) ?_
  refine cn_newi (suf' := [.inr (0, [.null, .int 0, .int 0, .int 0, .null, .int 0, .int 0, .int 0, .int 0, .int 0])] ++ [.inl (eY E 0, 40, .inl (fun _ => 0))]) hx hb kAr_i hK hW hn 1 rfl (by decide) (by decide) (by decide) rfl (k0 := 0) (s0 := 0) rfl rfl ⟨Nat.le_of_ble_eq_true rfl, Nat.le_of_ble_eq_true rfl⟩ dX0_init_7 (fun H hW => ?_)
  refine cn_putF (suf' := [.inr (0, [.ref (eB E + (n + 1)), .int 0, .int 0, .int 0, .null, .int 0, .int 0, .int 0, .int 0, .int 0])] ++ [.inl (eY E 0, 40, .inl (fun _ => 0))]) (C := RX0) (T := TX0) (N := 10) (ci := 0) (k := 0) (v := .ref (eB E + (n + 1))) (ty0 := tyX0) hx hb hown hin hK hW hn 0 inK0 tyX0_ok nmX0 rfl (by decide) rfl rfl (Nat.le_of_ble_eq_true rfl) rfl rfl rfl rfl kF_RX0_9 dX0_init_9 (fun H locs hW => ?_)
  refine lv_aload_n hx hb dX0_init_12 rfl (lv_at hl 0 rfl) ?_
  refine lv_bipush (v := 15) hx hb dX0_init_13 (by decide) ?_
  refine cn_newi (suf' := [.inr (0, [.ref (eB E + (n + 1)), .int 0, .int 0, .int 0, .null, .int 0, .int 0, .int 0, .int 0, .int 0])] ++ [.inl (eY E 0, 40, .inl (fun _ => 0))] ++ [.inl (eY E 0, 15, .inl (fun _ => 0))]) hx hb kAr_i hK hW hn 2 rfl (by decide) (by decide) (by decide) rfl (k0 := 1) (s0 := 40) rfl rfl ⟨Nat.le_of_ble_eq_true rfl, Nat.le_of_ble_eq_true rfl⟩ dX0_init_15 (fun H hW => ?_)
  refine cn_putF (suf' := [.inr (0, [.ref (eB E + (n + 1)), .int 0, .int 0, .int 0, .ref (eB E + (n + 2)), .int 0, .int 0, .int 0, .int 0, .int 0])] ++ [.inl (eY E 0, 40, .inl (fun _ => 0))] ++ [.inl (eY E 0, 15, .inl (fun _ => 0))]) (C := RX0) (T := TX0) (N := 10) (ci := 0) (k := 4) (v := .ref (eB E + (n + 2))) (ty0 := tyX0) hx hb hown hin hK hW hn 0 inK0 tyX0_ok nmX0 rfl (by decide) rfl rfl (Nat.le_of_ble_eq_true rfl) rfl rfl rfl rfl kF_RX0_15 dX0_init_17 (fun H locs hW => ?_)
  exact cn_ret hx hb hr hlk hW rfl rfl dX0_init_20
def cX1_initC (E : En) (n : Nat) : List va_E := [.inr (1, [.ref (eB E + (n + 1))])] ++ cX5_initC E (n + 1)
set_option maxHeartbeats 4000000 in
set_option maxRecDepth 100000 in
theorem mX1_init (l : Launch) {E : En} {pre : List va_E} {n : Nat} (hn : pre.length = n) : Met l yX1_init [.code yX1_init cX1_init 1 none] (Rc 2 32 1 2) (va_Pc [.ref (eB E + (n + 0))] (Cd E pre [.inr (1, [.null])])) (Qc0 E pre (cX1_initC E n)) 1 2 (cP E) := by
  refine cn_of (by decide) (Nat.le_of_ble_eq_true rfl) rfl (fun p e s m below meth c hx hb hr hlk hml hown hin hK hW ls hl => ?_)
  have hown : s.vm.findClass RX1 = some m.cls := hown
  refine lv_aload_n hx hb dX1_init_0 rfl (lv_at hl 0 rfl) ?_
  refine cn_obj hx hb hml hl.1 hown hK kM_RX1_3 kO_i kO_c ⟨Nat.le_of_ble_eq_true rfl, Nat.le_of_ble_eq_true rfl⟩ dX1_init_1 ?_
  refine lv_aload_n hx hb dX1_init_4 rfl (lv_at hl 0 rfl) ?_
  refine cn_new (suf' := [.inr (1, [.null])] ++ [.inr (5, [.int 0, .int 0])]) (C := RX5) (T := TX5) (N := 2) (ci := 5) (ty := tyX5) (fs := [.int 0, .int 0]) hx hb inK5 tyX5_ok hown kL_RX1_9 kNi_RX5 kI_RX5 hK hW hn 1 rfl rfl (fun j hj => by rcases (show j = 0 ∨ j = 1 by omega) with rfl | rfl <;> rfl) rfl (k0 := 0) (s0 := 0) rfl rfl ⟨Nat.le_of_ble_eq_true rfl, Nat.le_of_ble_eq_true rfl⟩ dX1_init_5 (fun H hW => ?_)
  refine lv_dup hx hb dX1_init_8 rfl ?_
  refine cn_call (host := RX6) (pre2 := pre ++ ([.inr (1, [.null])])) (suf2 := [.inr (5, [.int 0, .int 0])]) (suf2' := cX5_initC E (n + 1)) (suf' := [.inr (1, [.null])] ++ cX5_initC E (n + 1)) hx hb hml hl.1 hown hK hW (List.append_assoc _ _ _).symm (List.append_assoc _ _ _) ⟨kI_RX5, kc_X5_init, ⟨by decide +kernel, by decide +kernel⟩, by decide +kernel⟩ ki_X5_init rfl (hK.2.2.1 _ (by simp [nwC])) (mX5_init l (E := E) (pre := pre ++ ([.inr (1, [.null])])) (n := n + 1) (by rw [List.length_append, hn]; rfl)) (Nat.le_of_ble_eq_true rfl) ⟨Nat.le_of_ble_eq_true rfl, Nat.le_of_ble_eq_true rfl⟩ (k0 := 1) (s0 := 2) (k1 := 1) (s1 := 2) rfl rfl rfl rfl ⟨Nat.le_of_ble_eq_true rfl, Nat.le_of_ble_eq_true rfl⟩ dX1_init_9 (fun H locs hW => ?_)
  sorry
