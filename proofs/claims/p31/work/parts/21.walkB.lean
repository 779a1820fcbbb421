def fX0_tell_L45 (i1 : Nat) (a2 : Int32) (n : Nat) (x3 : Int32) (σ : Sg) : Option Sg := match n with
  | 0 => none
  | n + 1 => bd (fX4_endOf i1 a2 σ) fun r2 => if r2 ≤ x3 then (some σ) else (gd (¬ (x3 < 0 ∨ 64 ≤ (x3).toNatClampNeg)) <| nm (σ (10 + 8 * i1 + 6) (x3).toNatClampNeg) fun x4_5 => if 10 ≤ x4_5 then (bd (fX0_put ((97 + x4_5) - 10) σ) fun s8 => nm (x3 + 1) fun x3_9 => (fun x3 σ => fX0_tell_L45 i1 a2 n x3 σ) x3_9 s8) else (bd (fX0_put (48 + x4_5) σ) fun s11 => nm (x3 + 1) fun x3_12 => (fun x3 σ => fX0_tell_L45 i1 a2 n x3 σ) x3_12 s11))
def fX0_tell (i1 : Nat) (a2 : Int32) (σ : Sg) : Option Sg := nm (up2 σ 5 1 0) fun s13 => gd (¬ (a2 < 0 ∨ 32 ≤ (a2).toNatClampNeg)) <| bd (fX0_putNumber (s13 (10 + 8 * i1 + 3) (a2).toNatClampNeg) s13) fun s16 => bd (fX0_put 44 s16) fun s18 => gd (¬ (a2 < 0 ∨ 32 ≤ (a2).toNatClampNeg)) <| bd (fX0_putNumber (s18 (10 + 8 * i1 + 4) (a2).toNatClampNeg) s18) fun s21 => bd (fX0_put 58 s21) fun s23 => bd (fX4_startOf i1 a2 s23) fun r25 => nm (r25 + 1) fun x3_26 => fX0_tell_L45 i1 a2 80 x3_26 s23
set_option maxHeartbeats 4000000 in
set_option maxRecDepth 100000 in
theorem mX0_tell (l : Launch) {E : En} {σ μ : Sg} {dg : Int64} {i1 : Nat} {a2 : Int32} (hi1 : i1 < 9) {σ' : Sg} (hf : fX0_tell i1 a2 σ = some σ') : Met l yX0_tell [.code yX0_tell cX0_tell 5 none] (Rm 3 64) (va_Pc [.ref (eA E 5), .ref (eA E (10 + 8 * i1)), .int a2] (Wd E σ μ dg)) (Qv E σ' μ dg) 0 0 (eP E) := by
  refine ss_of (by decide) (Nat.le_of_ble_eq_true rfl) (fun p e s m below meth c hx hb hr hlk hml hown hK hW ls hl => ?_)
  have hown : s.vm.findClass RX0 = some m.cls := hown
  have hl : lv_has ls 5 [(0, .ref (eA E 5)), (1, .ref (eA E (10 + 8 * i1))), (2, .int a2)] := hl
  unfold fX0_tell at hf
  have h45 : ∀ (n45 : Nat) (x3 : Int32) (σ : Sg) (H : Heap) (locs : List Loc) (ls : Array Slot), Wk E σ μ dg s H locs → lv_has ls 5 [(0, .ref (eA E 5)), (1, .ref (eA E (10 + 8 * i1))), (2, .int a2), (3, .int x3)] → fX0_tell_L45 i1 a2 n45 x3 σ = some σ' → W p l e (Rm 3 64) s m [.ref (eA E 5), .ref (eA E (10 + 8 * i1)), .int a2].toArray below meth c H locs 0 0 (MQ below (Qv E σ' μ dg) [.ref (eA E 5), .ref (eA E (10 + 8 * i1)), .int a2].toArray s 0 0 (eP E)) (F0 m 45 ls []) := by
    intro n45
    induction n45 with
    | zero =>
      intro x3 σ  H locs ls hW hl hf
      exact absurd hf (by simp [fX0_tell_L45])
    | succ n45 ih45 =>
      intro x3 σ  H locs ls hW hl hf
      rw [fX0_tell_L45] at hf
      refine lv_iload_n hx hb dX0_tell_45 rfl (lv_at hl 3 rfl) ?_
      refine lv_aload_n hx hb dX0_tell_46 rfl (lv_at hl 1 rfl) ?_
      refine lv_iload_n hx hb dX0_tell_47 rfl (lv_at hl 2 rfl) ?_
      obtain ⟨r2, q1, hf⟩ := bd_inv hf
      refine ss_callVi (As := [.int a2]) hx hb hml hown hK hW kb_X4_endOf kM_RX0_45 rfl (okq_lt (by omega)) (c_st (i := i1) (by omega) 0 (by decide)) (mX4_endOf l (i0 := i1) (a1 := a2) (by omega) q1) rfl dX0_tell_48 rfl hl.1 (Nat.le_of_ble_eq_true rfl) ⟨Nat.le_of_ble_eq_true rfl, Nat.le_of_ble_eq_true rfl⟩ ⟨Nat.zero_le _, Nat.zero_le _⟩ (fun H locs hW => ?_)
      refine lv_icmp_ge (tgt := 95) hx hb dX0_tell_51 (by decide) (fun c3 => ?_) (fun c3 => ?_)
      · have hf := br_p c3 hf
        cases hf
        exact ss_vret hx hb hr hlk hW dX0_tell_95
      · have hf := br_n c3 hf
        refine lv_aload_n hx hb dX0_tell_54 rfl (lv_at hl 1 rfl) ?_
        refine g_State_codes (i := i1) hx hb hown hK hW (by omega) kF_RX0_48 dX0_tell_55 ?_
        refine lv_iload_n hx hb dX0_tell_58 rfl (lv_at hl 3 rfl) ?_
        obtain ⟨hk4, hf⟩ := gd_inv hf
        refine l_St6 (i := i1) hx hb hK hW (by omega) rfl hk4 dX0_tell_59 ?_
        refine lv_topi (fun x4_5 ex4_5 => ?_)
        have hf := nm_use ex4_5 hf
        refine lv_istore (lv' := [(4, .int x4_5), (0, .ref (eA E 5)), (1, .ref (eA E (10 + 8 * i1))), (2, .int a2), (3, .int x3)]) hx hb dX0_tell_60 hl (by decide) rfl (fun ls hl => ?_)
        refine lv_aload_n hx hb dX0_tell_62 rfl (lv_at hl 1 rfl) ?_
        refine lv_iload hx hb dX0_tell_63 (lv_at hl 0 rfl) ?_
        refine lv_bipush (v := 10) hx hb dX0_tell_65 (by decide) ?_
        refine lv_icmp_ge (tgt := 78) hx hb dX0_tell_67 (by decide) (fun c6 => ?_) (fun c6 => ?_)
        · have hf := br_p c6 hf
          refine lv_bipush (v := 97) hx hb dX0_tell_78 (by decide) ?_
          refine lv_iload hx hb dX0_tell_80 (lv_at hl 0 rfl) ?_
          refine lv_iadd hx hb dX0_tell_82 ?_
          refine lv_bipush (v := 10) hx hb dX0_tell_83 (by decide) ?_
          refine lv_isub hx hb dX0_tell_85 ?_
          obtain ⟨s8, q7, hf⟩ := bd_inv hf
          refine ss_callVv (As := [.int ((97 + x4_5) - 10)]) hx hb hml hown hK hW kb_X0_put kM_RX0_35 rfl (okq_lt (by decide)) (c_fx (by decide)) (mX0_put l (a1 := ((97 + x4_5) - 10)) q7) rfl dX0_tell_86 rfl hl.1 (Nat.le_of_ble_eq_true rfl) ⟨Nat.le_of_ble_eq_true rfl, Nat.le_of_ble_eq_true rfl⟩ ⟨Nat.zero_le _, Nat.zero_le _⟩ (fun H locs hW => ?_)
          obtain ⟨x3_9, ex3_9⟩ : ∃ y : Int32, y = (x3 + 1) := ⟨_, rfl⟩
          have hf := nm_use ex3_9 hf
          refine lv_iinc (v := x3_9) (lv' := [(3, .int x3_9), (4, .int x4_5), (0, .ref (eA E 5)), (1, .ref (eA E (10 + 8 * i1))), (2, .int a2)]) hx hb dX0_tell_89 hl (k := 4) rfl (by rw [ex3_9]; rfl) (by decide) rfl (fun ls hl => ?_)
          refine lv_goto (tgt := 45) hx hb dX0_tell_92 (by decide) ?_
          exact ih45 x3_9 s8 _ _ _ hW (lv_sub hl [2, 3, 4, 0] rfl) hf
        · have hf := br_n c6 hf
          refine lv_bipush (v := 48) hx hb dX0_tell_70 (by decide) ?_
          refine lv_iload hx hb dX0_tell_72 (lv_at hl 0 rfl) ?_
          refine lv_iadd hx hb dX0_tell_74 ?_
          refine lv_goto (tgt := 86) hx hb dX0_tell_75 (by decide) ?_
          obtain ⟨s11, q10, hf⟩ := bd_inv hf
          refine ss_callVv (As := [.int (48 + x4_5)]) hx hb hml hown hK hW kb_X0_put kM_RX0_35 rfl (okq_lt (by decide)) (c_fx (by decide)) (mX0_put l (a1 := (48 + x4_5)) q10) rfl dX0_tell_86 rfl hl.1 (Nat.le_of_ble_eq_true rfl) ⟨Nat.le_of_ble_eq_true rfl, Nat.le_of_ble_eq_true rfl⟩ ⟨Nat.zero_le _, Nat.zero_le _⟩ (fun H locs hW => ?_)
          obtain ⟨x3_12, ex3_12⟩ : ∃ y : Int32, y = (x3 + 1) := ⟨_, rfl⟩
          have hf := nm_use ex3_12 hf
          refine lv_iinc (v := x3_12) (lv' := [(3, .int x3_12), (4, .int x4_5), (0, .ref (eA E 5)), (1, .ref (eA E (10 + 8 * i1))), (2, .int a2)]) hx hb dX0_tell_89 hl (k := 4) rfl (by rw [ex3_12]; rfl) (by decide) rfl (fun ls hl => ?_)
          refine lv_goto (tgt := 45) hx hb dX0_tell_92 (by decide) ?_
          exact ih45 x3_12 s11 _ _ _ hW (lv_sub hl [2, 3, 4, 0] rfl) hf
  refine lv_aload_n hx hb dX0_tell_0 rfl (lv_at hl 0 rfl) ?_
  refine lv_iconst (v := 0) hx hb dX0_tell_1 (by decide) ?_
  refine p_BT_length hx hb hown hK hW kF_RX0_18 dX0_tell_2 (fun H locs hW => ?_)
  obtain ⟨s13, es13⟩ : ∃ y : Sg, y = (up2 σ 5 1 0) := ⟨_, rfl⟩
  have hf := nm_use es13 hf
  rw [← es13] at hW
  refine lv_aload_n hx hb dX0_tell_5 rfl (lv_at hl 0 rfl) ?_
  refine lv_aload_n hx hb dX0_tell_6 rfl (lv_at hl 1 rfl) ?_
  refine g_State_firsts (i := i1) hx hb hown hK hW (by omega) kF_RX0_26 dX0_tell_7 ?_
  refine lv_iload_n hx hb dX0_tell_10 rfl (lv_at hl 2 rfl) ?_
  obtain ⟨hk14, hf⟩ := gd_inv hf
  refine l_St3 (i := i1) hx hb hK hW (by omega) rfl hk14 dX0_tell_11 ?_
  obtain ⟨s16, q15, hf⟩ := bd_inv hf
  refine ss_callVv (As := [.int (s13 (10 + 8 * i1 + 3) (a2).toNatClampNeg)]) hx hb hml hown hK hW kb_X0_putNumber kM_RX0_31 rfl (okq_lt (by decide)) (c_fx (by decide)) (mX0_putNumber l (a1 := (s13 (10 + 8 * i1 + 3) (a2).toNatClampNeg)) q15) rfl dX0_tell_12 rfl hl.1 (Nat.le_of_ble_eq_true rfl) ⟨Nat.le_of_ble_eq_true rfl, Nat.le_of_ble_eq_true rfl⟩ ⟨Nat.zero_le _, Nat.zero_le _⟩ (fun H locs hW => ?_)
  refine lv_aload_n hx hb dX0_tell_15 rfl (lv_at hl 0 rfl) ?_
  refine lv_bipush (v := 44) hx hb dX0_tell_16 (by decide) ?_
  obtain ⟨s18, q17, hf⟩ := bd_inv hf
  refine ss_callVv (As := [.int 44]) hx hb hml hown hK hW kb_X0_put kM_RX0_35 rfl (okq_lt (by decide)) (c_fx (by decide)) (mX0_put l (a1 := 44) q17) rfl dX0_tell_18 rfl hl.1 (Nat.le_of_ble_eq_true rfl) ⟨Nat.le_of_ble_eq_true rfl, Nat.le_of_ble_eq_true rfl⟩ ⟨Nat.zero_le _, Nat.zero_le _⟩ (fun H locs hW => ?_)
  refine lv_aload_n hx hb dX0_tell_21 rfl (lv_at hl 0 rfl) ?_
  refine lv_aload_n hx hb dX0_tell_22 rfl (lv_at hl 1 rfl) ?_
  refine g_State_starts (i := i1) hx hb hown hK hW (by omega) kF_RX0_38 dX0_tell_23 ?_
  refine lv_iload_n hx hb dX0_tell_26 rfl (lv_at hl 2 rfl) ?_
  obtain ⟨hk19, hf⟩ := gd_inv hf
  refine l_St4 (i := i1) hx hb hK hW (by omega) rfl hk19 dX0_tell_27 ?_
  obtain ⟨s21, q20, hf⟩ := bd_inv hf
  refine ss_callVv (As := [.int (s18 (10 + 8 * i1 + 4) (a2).toNatClampNeg)]) hx hb hml hown hK hW kb_X0_putNumber kM_RX0_31 rfl (okq_lt (by decide)) (c_fx (by decide)) (mX0_putNumber l (a1 := (s18 (10 + 8 * i1 + 4) (a2).toNatClampNeg)) q20) rfl dX0_tell_28 rfl hl.1 (Nat.le_of_ble_eq_true rfl) ⟨Nat.le_of_ble_eq_true rfl, Nat.le_of_ble_eq_true rfl⟩ ⟨Nat.zero_le _, Nat.zero_le _⟩ (fun H locs hW => ?_)
  refine lv_aload_n hx hb dX0_tell_31 rfl (lv_at hl 0 rfl) ?_
  refine lv_bipush (v := 58) hx hb dX0_tell_32 (by decide) ?_
  obtain ⟨s23, q22, hf⟩ := bd_inv hf
  refine ss_callVv (As := [.int 58]) hx hb hml hown hK hW kb_X0_put kM_RX0_35 rfl (okq_lt (by decide)) (c_fx (by decide)) (mX0_put l (a1 := 58) q22) rfl dX0_tell_34 rfl hl.1 (Nat.le_of_ble_eq_true rfl) ⟨Nat.le_of_ble_eq_true rfl, Nat.le_of_ble_eq_true rfl⟩ ⟨Nat.zero_le _, Nat.zero_le _⟩ (fun H locs hW => ?_)
  refine lv_aload_n hx hb dX0_tell_37 rfl (lv_at hl 1 rfl) ?_
  refine lv_iload_n hx hb dX0_tell_38 rfl (lv_at hl 2 rfl) ?_
  obtain ⟨r25, q24, hf⟩ := bd_inv hf
  refine ss_callVi (As := [.int a2]) hx hb hml hown hK hW kb_X4_startOf kM_RX0_41 rfl (okq_lt (by omega)) (c_st (i := i1) (by omega) 0 (by decide)) (mX4_startOf l (i0 := i1) (a1 := a2) (by omega) q24) rfl dX0_tell_39 rfl hl.1 (Nat.le_of_ble_eq_true rfl) ⟨Nat.le_of_ble_eq_true rfl, Nat.le_of_ble_eq_true rfl⟩ ⟨Nat.zero_le _, Nat.zero_le _⟩ (fun H locs hW => ?_)
  refine lv_iconst (v := 1) hx hb dX0_tell_42 (by decide) ?_
  refine lv_iadd hx hb dX0_tell_43 ?_
  refine lv_topi (fun x3_26 ex3_26 => ?_)
  have hf := nm_use ex3_26 hf
  refine lv_istore_n (lv' := [(3, .int x3_26), (0, .ref (eA E 5)), (1, .ref (eA E (10 + 8 * i1))), (2, .int a2)]) hx hb dX0_tell_44 rfl hl (by decide) rfl (fun ls hl => ?_)
  exact h45 80 x3_26 s23 _ _ _ hW (lv_sub hl [1, 2, 3, 0] rfl) hf
def fX0_beginDigits (σ : Sg) : Option Sg := nm (up2 σ 5 9 0) fun s1 => nm (up2 s1 5 8 0) fun s2 => some s2
set_option maxHeartbeats 4000000 in
set_option maxRecDepth 100000 in
theorem mX0_beginDigits (l : Launch) {E : En} {σ μ : Sg} {dg : Int64}   {σ' : Sg} (hf : fX0_beginDigits σ = some σ') : Met l yX0_beginDigits [.code yX0_beginDigits cX0_beginDigits 1 none] (Rm 0 0) (va_Pc [.ref (eA E 5)] (Wd E σ μ dg)) (Qv E σ' μ dg) 0 0 (eP E) := by
  refine ss_of (by decide) (Nat.le_of_ble_eq_true rfl) (fun p e s m below meth c hx hb hr hlk hml hown hK hW ls hl => ?_)
  have hown : s.vm.findClass RX0 = some m.cls := hown
  have hl : lv_has ls 1 [(0, .ref (eA E 5))] := hl
  unfold fX0_beginDigits at hf
  refine lv_aload_n hx hb dX0_beginDigits_0 rfl (lv_at hl 0 rfl) ?_
  refine lv_iconst (v := 0) hx hb dX0_beginDigits_1 (by decide) ?_
  refine p_BT_digits hx hb hown hK hW kF_RX0_87 dX0_beginDigits_2 (fun H locs hW => ?_)
  obtain ⟨s1, es1⟩ : ∃ y : Sg, y = (up2 σ 5 9 0) := ⟨_, rfl⟩
  have hf := nm_use es1 hf
  rw [← es1] at hW
  refine lv_aload_n hx hb dX0_beginDigits_5 rfl (lv_at hl 0 rfl) ?_
  refine lv_iconst (v := 0) hx hb dX0_beginDigits_6 (by decide) ?_
  refine p_BT_hasDigit hx hb hown hK hW (by decide) kF_RX0_84 dX0_beginDigits_7 (fun H locs hW => ?_)
  obtain ⟨s2, es2⟩ : ∃ y : Sg, y = (up2 s1 5 8 0) := ⟨_, rfl⟩
  have hf := nm_use es2 hf
  rw [← es2] at hW
  cases hf
  exact ss_vret hx hb hr hlk hW dX0_beginDigits_10
def fX0_readsDigit_b19 (a1 : Int32) (a2 : Int32) (k0 : Int32) (σ : Sg) : Option (Int32 × Sg) := if a1 < 48 then (some (0, σ)) else (if 57 < a1 then (some (0, σ)) else (if k0 = 0 then (nm (((10 * (σ 5 9)) + a1) - 48) fun x4_4 => if x4_4 ≤ a2 then (nm (up2 σ 5 9 x4_4) fun s6 => nm (up2 s6 5 8 1) fun s7 => some (1, s7)) else (some (0, σ))) else (some (0, σ))))
def fX0_readsDigit_b18 (a1 : Int32) (a2 : Int32) (σ : Sg) : Option (Int32 × Sg) := fX0_readsDigit_b19 a1 a2 0 σ
def fX0_readsDigit (a1 : Int32) (a2 : Int32) (σ : Sg) : Option (Int32 × Sg) := if (σ 5 8) = 0 then (fX0_readsDigit_b18 a1 a2 σ) else (if (σ 5 9) = 0 then (fX0_readsDigit_b19 a1 a2 1 σ) else (fX0_readsDigit_b18 a1 a2 σ))
set_option maxHeartbeats 4000000 in
set_option maxRecDepth 100000 in
theorem mX0_readsDigit (l : Launch) {E : En} {σ μ : Sg} {dg : Int64} {a1 : Int32} {a2 : Int32}  {r : Int32} {σ' : Sg} (hf : fX0_readsDigit a1 a2 σ = some (r, σ')) : Met l yX0_readsDigit [.code yX0_readsDigit cX0_readsDigit 5 (some .boolean)] (Rm 0 0) (va_Pc [.ref (eA E 5), .int a1, .int a2] (Wd E σ μ dg)) (Qi E σ' μ dg r) 0 0 (eP E) := by
  refine ss_of (by decide) (Nat.le_of_ble_eq_true rfl) (fun p e s m below meth c hx hb hr hlk hml hown hK hW ls hl => ?_)
  have hown : s.vm.findClass RX0 = some m.cls := hown
  have hl : lv_has ls 5 [(0, .ref (eA E 5)), (1, .int a1), (2, .int a2)] := hl
  unfold fX0_readsDigit at hf
  have h19 : ∀ (k0 : Int32) (σ : Sg) (H : Heap) (locs : List Loc) (ls : Array Slot), Wk E σ μ dg s H locs → lv_has ls 5 [(0, .ref (eA E 5)), (1, .int a1), (2, .int a2)] → fX0_readsDigit_b19 a1 a2 k0 σ = some (r, σ') → W p l e (Rm 0 0) s m [.ref (eA E 5), .int a1, .int a2].toArray below meth c H locs 0 0 (MQ below (Qi E σ' μ dg r) [.ref (eA E 5), .int a1, .int a2].toArray s 0 0 (eP E)) (F0 m 19 ls [.int k0]) := by
    intro k0 σ  H locs ls hW hl hf
    unfold fX0_readsDigit_b19 at hf
    refine lv_istore_n (lv' := [(3, .int k0), (0, .ref (eA E 5)), (1, .int a1), (2, .int a2)]) hx hb dX0_readsDigit_19 rfl hl (by decide) rfl (fun ls hl => ?_)
    refine lv_iload_n hx hb dX0_readsDigit_20 rfl (lv_at hl 2 rfl) ?_
    refine lv_bipush (v := 48) hx hb dX0_readsDigit_21 (by decide) ?_
    refine lv_icmp_lt (tgt := 36) hx hb dX0_readsDigit_23 (by decide) (fun c1 => ?_) (fun c1 => ?_)
    · have hf := br_p c1 hf
      refine lv_iconst (v := 0) hx hb dX0_readsDigit_36 (by decide) ?_
      cases hf
      exact ss_zret hx hb hr hlk hW rfl rfl dX0_readsDigit_37
    · have hf := br_n c1 hf
      refine lv_iload_n hx hb dX0_readsDigit_26 rfl (lv_at hl 2 rfl) ?_
      refine lv_bipush (v := 57) hx hb dX0_readsDigit_27 (by decide) ?_
      refine lv_icmp_gt (tgt := 36) hx hb dX0_readsDigit_29 (by decide) (fun c2 => ?_) (fun c2 => ?_)
      · have hf := br_p c2 hf
        refine lv_iconst (v := 0) hx hb dX0_readsDigit_36 (by decide) ?_
        cases hf
        exact ss_zret hx hb hr hlk hW rfl rfl dX0_readsDigit_37
      · have hf := br_n c2 hf
        refine lv_iload_n hx hb dX0_readsDigit_32 rfl (lv_at hl 0 rfl) ?_
        refine lv_if_eq (tgt := 38) hx hb dX0_readsDigit_33 (by decide) (fun c3 => ?_) (fun c3 => ?_)
        · have hf := br_p c3 hf
          refine lv_bipush (v := 10) hx hb dX0_readsDigit_38 (by decide) ?_
          refine lv_aload_n hx hb dX0_readsDigit_40 rfl (lv_at hl 1 rfl) ?_
          refine g_BT_digits hx hb hown hK hW kF_RX0_87 dX0_readsDigit_41 ?_
          refine lv_imul hx hb dX0_readsDigit_44 ?_
          refine lv_iload_n hx hb dX0_readsDigit_45 rfl (lv_at hl 2 rfl) ?_
          refine lv_iadd hx hb dX0_readsDigit_46 ?_
          refine lv_bipush (v := 48) hx hb dX0_readsDigit_47 (by decide) ?_
          refine lv_isub hx hb dX0_readsDigit_49 ?_
          refine lv_topi (fun x4_4 ex4_4 => ?_)
          have hf := nm_use ex4_4 hf
          refine lv_istore (lv' := [(4, .int x4_4), (3, .int k0), (0, .ref (eA E 5)), (1, .int a1), (2, .int a2)]) hx hb dX0_readsDigit_50 hl (by decide) rfl (fun ls hl => ?_)
          refine lv_iload hx hb dX0_readsDigit_52 (lv_at hl 0 rfl) ?_
          refine lv_iload_n hx hb dX0_readsDigit_54 rfl (lv_at hl 4 rfl) ?_
          refine lv_icmp_le (tgt := 60) hx hb dX0_readsDigit_55 (by decide) (fun c5 => ?_) (fun c5 => ?_)
          · have hf := br_p c5 hf
            refine lv_aload_n hx hb dX0_readsDigit_60 rfl (lv_at hl 2 rfl) ?_
            refine lv_iload hx hb dX0_readsDigit_61 (lv_at hl 0 rfl) ?_
            refine p_BT_digits hx hb hown hK hW kF_RX0_87 dX0_readsDigit_63 (fun H locs hW => ?_)
            obtain ⟨s6, es6⟩ : ∃ y : Sg, y = (up2 σ 5 9 x4_4) := ⟨_, rfl⟩
            have hf := nm_use es6 hf
            rw [← es6] at hW
            refine lv_aload_n hx hb dX0_readsDigit_66 rfl (lv_at hl 2 rfl) ?_
            refine lv_iconst (v := 1) hx hb dX0_readsDigit_67 (by decide) ?_
            refine p_BT_hasDigit hx hb hown hK hW (by decide) kF_RX0_84 dX0_readsDigit_68 (fun H locs hW => ?_)
            obtain ⟨s7, es7⟩ : ∃ y : Sg, y = (up2 s6 5 8 1) := ⟨_, rfl⟩
            have hf := nm_use es7 hf
            rw [← es7] at hW
            refine lv_iconst (v := 1) hx hb dX0_readsDigit_71 (by decide) ?_
            cases hf
            exact ss_zret hx hb hr hlk hW rfl rfl dX0_readsDigit_72
          · have hf := br_n c5 hf
            refine lv_iconst (v := 0) hx hb dX0_readsDigit_58 (by decide) ?_
            cases hf
            exact ss_zret hx hb hr hlk hW rfl rfl dX0_readsDigit_59
        · have hf := br_n c3 hf
          refine lv_iconst (v := 0) hx hb dX0_readsDigit_36 (by decide) ?_
          cases hf
          exact ss_zret hx hb hr hlk hW rfl rfl dX0_readsDigit_37
  have h18 : ∀ (σ : Sg) (H : Heap) (locs : List Loc) (ls : Array Slot), Wk E σ μ dg s H locs → lv_has ls 5 [(0, .ref (eA E 5)), (1, .int a1), (2, .int a2)] → fX0_readsDigit_b18 a1 a2 σ = some (r, σ') → W p l e (Rm 0 0) s m [.ref (eA E 5), .int a1, .int a2].toArray below meth c H locs 0 0 (MQ below (Qi E σ' μ dg r) [.ref (eA E 5), .int a1, .int a2].toArray s 0 0 (eP E)) (F0 m 18 ls []) := by
    intro σ  H locs ls hW hl hf
    unfold fX0_readsDigit_b18 at hf
    refine lv_iconst (v := 0) hx hb dX0_readsDigit_18 (by decide) ?_
    exact h19 0 σ _ _ _ hW (lv_sub hl [0, 1, 2] rfl) hf
  refine lv_aload_n hx hb dX0_readsDigit_0 rfl (lv_at hl 0 rfl) ?_
  refine g_BT_hasDigit hx hb hown hK hW kF_RX0_84 dX0_readsDigit_1 ?_
  refine lv_if_eq (tgt := 18) hx hb dX0_readsDigit_4 (by decide) (fun c8 => ?_) (fun c8 => ?_)
  · have hf := br_p c8 hf
    exact h18 σ _ _ _ hW (lv_sub hl [0, 1, 2] rfl) hf
  · have hf := br_n c8 hf
    refine lv_aload_n hx hb dX0_readsDigit_7 rfl (lv_at hl 0 rfl) ?_
    refine g_BT_digits hx hb hown hK hW kF_RX0_87 dX0_readsDigit_8 ?_
    refine lv_if_ne (tgt := 18) hx hb dX0_readsDigit_11 (by decide) (fun c9 => ?_) (fun c9 => ?_)
    · have hf := br_n c9 hf
      exact h18 σ _ _ _ hW (lv_sub hl [0, 1, 2] rfl) hf
    · have hf := br_p c9 hf
      refine lv_iconst (v := 1) hx hb dX0_readsDigit_14 (by decide) ?_
      refine lv_goto (tgt := 19) hx hb dX0_readsDigit_15 (by decide) ?_
      exact h19 1 σ _ _ _ hW (lv_sub hl [0, 1, 2] rfl) hf
def fX0_readsFirst_b99 (a1 : Int32) (k0 : Int32) (σ : Sg) : Option (Int32 × Sg) := if k0 = 0 then (if (σ 5 7) = 0 then (bd2 (fX0_readsDigit a1 2047 σ) fun r4 s5 => if r4 = 0 then (some (0, s5)) else (some (1, s5))) else (bd2 (fX0_readsDigit a1 2048 σ) fun r8 s9 => if r8 = 0 then (some (0, s9)) else (some (1, s9)))) else (some (0, σ))
def fX0_readsFirst_b98 (a1 : Int32) (σ : Sg) : Option (Int32 × Sg) := fX0_readsFirst_b99 a1 0 σ
def fX0_readsFirst_b74 (a1 : Int32) (σ : Sg) : Option (Int32 × Sg) := if (σ 5 7) = 0 then (fX0_readsFirst_b98 a1 σ) else (if (σ 5 8) = 0 then (if a1 = 48 then (fX0_readsFirst_b99 a1 1 σ) else (fX0_readsFirst_b98 a1 σ)) else (fX0_readsFirst_b98 a1 σ))
def fX0_readsFirst_b60  (k0 : Int32) (σ : Sg) : Option (Int32 × Sg) := nm (up2 σ 5 2 k0) fun s14 => nm (up2 s14 5 6 1) fun s15 => bd (fX0_beginDigits s15) fun s17 => some (1, s17)
def fX0_readsFirst_b27 (a1 : Int32) (σ : Sg) : Option (Int32 × Sg) := if a1 = 44 then (if (σ 5 8) = 0 then (fX0_readsFirst_b74 a1 σ) else (if (σ 5 7) = 0 then (fX0_readsFirst_b60 (σ 5 9) σ) else (fX0_readsFirst_b60 (-(σ 5 9)) σ))) else (fX0_readsFirst_b74 a1 σ)
def fX0_readsFirst (a1 : Int32) (σ : Sg) : Option (Int32 × Sg) := if a1 = 45 then (if (σ 5 7) = 0 then (if (σ 5 8) = 0 then (nm (up2 σ 5 7 1) fun s24 => some (1, s24)) else (fX0_readsFirst_b27 a1 σ)) else (fX0_readsFirst_b27 a1 σ)) else (fX0_readsFirst_b27 a1 σ)
set_option maxHeartbeats 4000000 in
set_option maxRecDepth 100000 in
theorem mX0_readsFirst (l : Launch) {E : En} {σ μ : Sg} {dg : Int64} {a1 : Int32}  {r : Int32} {σ' : Sg} (hf : fX0_readsFirst a1 σ = some (r, σ')) : Met l yX0_readsFirst [.code yX0_readsFirst cX0_readsFirst 3 (some .boolean)] (Rm 1 24) (va_Pc [.ref (eA E 5), .int a1] (Wd E σ μ dg)) (Qi E σ' μ dg r) 0 0 (eP E) := by
  refine ss_of (by decide) (Nat.le_of_ble_eq_true rfl) (fun p e s m below meth c hx hb hr hlk hml hown hK hW ls hl => ?_)
  have hown : s.vm.findClass RX0 = some m.cls := hown
  have hl : lv_has ls 3 [(0, .ref (eA E 5)), (1, .int a1)] := hl
  unfold fX0_readsFirst at hf
  have h99 : ∀ (k0 : Int32) (σ : Sg) (H : Heap) (locs : List Loc) (ls : Array Slot), Wk E σ μ dg s H locs → lv_has ls 3 [(0, .ref (eA E 5)), (1, .int a1)] → fX0_readsFirst_b99 a1 k0 σ = some (r, σ') → W p l e (Rm 1 24) s m [.ref (eA E 5), .int a1].toArray below meth c H locs 0 0 (MQ below (Qi E σ' μ dg r) [.ref (eA E 5), .int a1].toArray s 0 0 (eP E)) (F0 m 99 ls [.int k0]) := by
    intro k0 σ  H locs ls hW hl hf
    unfold fX0_readsFirst_b99 at hf
    refine lv_istore_n (lv' := [(2, .int k0), (0, .ref (eA E 5)), (1, .int a1)]) hx hb dX0_readsFirst_99 rfl hl (by decide) rfl (fun ls hl => ?_)
    refine lv_iload_n hx hb dX0_readsFirst_100 rfl (lv_at hl 0 rfl) ?_
    refine lv_if_ne (tgt := 132) hx hb dX0_readsFirst_101 (by decide) (fun c1 => ?_) (fun c1 => ?_)
    · have hf := br_n c1 hf
      refine lv_iconst (v := 0) hx hb dX0_readsFirst_132 (by decide) ?_
      cases hf
      exact ss_zret hx hb hr hlk hW rfl rfl dX0_readsFirst_133
    · have hf := br_p c1 hf
      refine lv_aload_n hx hb dX0_readsFirst_104 rfl (lv_at hl 1 rfl) ?_
      refine lv_iload_n hx hb dX0_readsFirst_105 rfl (lv_at hl 2 rfl) ?_
      refine lv_aload_n hx hb dX0_readsFirst_106 rfl (lv_at hl 1 rfl) ?_
      refine g_BT_negative hx hb hown hK hW kF_RX0_61 dX0_readsFirst_107 ?_
      refine lv_if_eq (tgt := 119) hx hb dX0_readsFirst_110 (by decide) (fun c2 => ?_) (fun c2 => ?_)
      · have hf := br_p c2 hf
        refine lv_sipush (v := 2047) hx hb dX0_readsFirst_119 (by decide) ?_
        obtain ⟨r4, s5, q3, hf⟩ := bd2_inv hf
        refine ss_callVi (As := [.int a1, .int 2047]) hx hb hml hown hK hW kb_X0_readsDigit kM_RX0_93 rfl (okq_lt (by decide)) (c_fx (by decide)) (mX0_readsDigit l (a1 := a1) (a2 := 2047) q3) rfl dX0_readsFirst_122 rfl hl.1 (Nat.le_of_ble_eq_true rfl) ⟨Nat.le_of_ble_eq_true rfl, Nat.le_of_ble_eq_true rfl⟩ ⟨Nat.zero_le _, Nat.zero_le _⟩ (fun H locs hW => ?_)
        refine lv_if_eq (tgt := 132) hx hb dX0_readsFirst_125 (by decide) (fun c6 => ?_) (fun c6 => ?_)
        · have hf := br_p c6 hf
          refine lv_iconst (v := 0) hx hb dX0_readsFirst_132 (by decide) ?_
          cases hf
          exact ss_zret hx hb hr hlk hW rfl rfl dX0_readsFirst_133
        · have hf := br_n c6 hf
          refine lv_iconst (v := 1) hx hb dX0_readsFirst_128 (by decide) ?_
          refine lv_goto (tgt := 133) hx hb dX0_readsFirst_129 (by decide) ?_
          cases hf
          exact ss_zret hx hb hr hlk hW rfl rfl dX0_readsFirst_133
      · have hf := br_n c2 hf
        refine lv_sipush (v := 2048) hx hb dX0_readsFirst_113 (by decide) ?_
        refine lv_goto (tgt := 122) hx hb dX0_readsFirst_116 (by decide) ?_
        obtain ⟨r8, s9, q7, hf⟩ := bd2_inv hf
        refine ss_callVi (As := [.int a1, .int 2048]) hx hb hml hown hK hW kb_X0_readsDigit kM_RX0_93 rfl (okq_lt (by decide)) (c_fx (by decide)) (mX0_readsDigit l (a1 := a1) (a2 := 2048) q7) rfl dX0_readsFirst_122 rfl hl.1 (Nat.le_of_ble_eq_true rfl) ⟨Nat.le_of_ble_eq_true rfl, Nat.le_of_ble_eq_true rfl⟩ ⟨Nat.zero_le _, Nat.zero_le _⟩ (fun H locs hW => ?_)
        refine lv_if_eq (tgt := 132) hx hb dX0_readsFirst_125 (by decide) (fun c10 => ?_) (fun c10 => ?_)
        · have hf := br_p c10 hf
          refine lv_iconst (v := 0) hx hb dX0_readsFirst_132 (by decide) ?_
          cases hf
          exact ss_zret hx hb hr hlk hW rfl rfl dX0_readsFirst_133
        · have hf := br_n c10 hf
          refine lv_iconst (v := 1) hx hb dX0_readsFirst_128 (by decide) ?_
          refine lv_goto (tgt := 133) hx hb dX0_readsFirst_129 (by decide) ?_
          cases hf
          exact ss_zret hx hb hr hlk hW rfl rfl dX0_readsFirst_133
  have h98 : ∀ (σ : Sg) (H : Heap) (locs : List Loc) (ls : Array Slot), Wk E σ μ dg s H locs → lv_has ls 3 [(0, .ref (eA E 5)), (1, .int a1)] → fX0_readsFirst_b98 a1 σ = some (r, σ') → W p l e (Rm 1 24) s m [.ref (eA E 5), .int a1].toArray below meth c H locs 0 0 (MQ below (Qi E σ' μ dg r) [.ref (eA E 5), .int a1].toArray s 0 0 (eP E)) (F0 m 98 ls []) := by
    intro σ  H locs ls hW hl hf
    unfold fX0_readsFirst_b98 at hf
    refine lv_iconst (v := 0) hx hb dX0_readsFirst_98 (by decide) ?_
    exact h99 0 σ _ _ _ hW (lv_sub hl [0, 1] rfl) hf
  have h74 : ∀ (σ : Sg) (H : Heap) (locs : List Loc) (ls : Array Slot), Wk E σ μ dg s H locs → lv_has ls 3 [(0, .ref (eA E 5)), (1, .int a1)] → fX0_readsFirst_b74 a1 σ = some (r, σ') → W p l e (Rm 1 24) s m [.ref (eA E 5), .int a1].toArray below meth c H locs 0 0 (MQ below (Qi E σ' μ dg r) [.ref (eA E 5), .int a1].toArray s 0 0 (eP E)) (F0 m 74 ls []) := by
    intro σ  H locs ls hW hl hf
    unfold fX0_readsFirst_b74 at hf
    refine lv_aload_n hx hb dX0_readsFirst_74 rfl (lv_at hl 0 rfl) ?_
    refine g_BT_negative hx hb hown hK hW kF_RX0_61 dX0_readsFirst_75 ?_
    refine lv_if_eq (tgt := 98) hx hb dX0_readsFirst_78 (by decide) (fun c11 => ?_) (fun c11 => ?_)
    · have hf := br_p c11 hf
      exact h98 σ _ _ _ hW (lv_sub hl [0, 1] rfl) hf
    · have hf := br_n c11 hf
      refine lv_aload_n hx hb dX0_readsFirst_81 rfl (lv_at hl 0 rfl) ?_
      refine g_BT_hasDigit hx hb hown hK hW kF_RX0_84 dX0_readsFirst_82 ?_
      refine lv_if_ne (tgt := 98) hx hb dX0_readsFirst_85 (by decide) (fun c12 => ?_) (fun c12 => ?_)
      · have hf := br_n c12 hf
        exact h98 σ _ _ _ hW (lv_sub hl [0, 1] rfl) hf
      · have hf := br_p c12 hf
        refine lv_iload_n hx hb dX0_readsFirst_88 rfl (lv_at hl 1 rfl) ?_
        refine lv_bipush (v := 48) hx hb dX0_readsFirst_89 (by decide) ?_
        refine lv_icmp_ne (tgt := 98) hx hb dX0_readsFirst_91 (by decide) (fun c13 => ?_) (fun c13 => ?_)
        · have hf := br_n c13 hf
          exact h98 σ _ _ _ hW (lv_sub hl [0, 1] rfl) hf
        · have hf := br_p c13 hf
          refine lv_iconst (v := 1) hx hb dX0_readsFirst_94 (by decide) ?_
          refine lv_goto (tgt := 99) hx hb dX0_readsFirst_95 (by decide) ?_
          exact h99 1 σ _ _ _ hW (lv_sub hl [0, 1] rfl) hf
  have h60 : ∀ (k0 : Int32) (σ : Sg) (H : Heap) (locs : List Loc) (ls : Array Slot), Wk E σ μ dg s H locs → lv_has ls 3 [(0, .ref (eA E 5))] → fX0_readsFirst_b60 k0 σ = some (r, σ') → W p l e (Rm 1 24) s m [.ref (eA E 5), .int a1].toArray below meth c H locs 0 0 (MQ below (Qi E σ' μ dg r) [.ref (eA E 5), .int a1].toArray s 0 0 (eP E)) (F0 m 60 ls [.int k0, .ref (eA E 5)]) := by
    intro k0 σ  H locs ls hW hl hf
    unfold fX0_readsFirst_b60 at hf
    refine p_BT_first hx hb hown hK hW kF_RX0_90 dX0_readsFirst_60 (fun H locs hW => ?_)
    obtain ⟨s14, es14⟩ : ∃ y : Sg, y = (up2 σ 5 2 k0) := ⟨_, rfl⟩
    have hf := nm_use es14 hf
    rw [← es14] at hW
    refine lv_aload_n hx hb dX0_readsFirst_63 rfl (lv_at hl 0 rfl) ?_
    refine lv_iconst (v := 1) hx hb dX0_readsFirst_64 (by decide) ?_
    refine p_BT_part hx hb hown hK hW kF_RX0_58 dX0_readsFirst_65 (fun H locs hW => ?_)
    obtain ⟨s15, es15⟩ : ∃ y : Sg, y = (up2 s14 5 6 1) := ⟨_, rfl⟩
    have hf := nm_use es15 hf
    rw [← es15] at hW
    refine lv_aload_n hx hb dX0_readsFirst_68 rfl (lv_at hl 0 rfl) ?_
    obtain ⟨s17, q16, hf⟩ := bd_inv hf
    refine ss_callVv (As := []) hx hb hml hown hK hW kb_X0_beginDigits kM_RX0_68 rfl (okq_lt (by decide)) (c_fx (by decide)) (mX0_beginDigits l  q16) rfl dX0_readsFirst_69 rfl hl.1 (Nat.le_of_ble_eq_true rfl) ⟨Nat.le_of_ble_eq_true rfl, Nat.le_of_ble_eq_true rfl⟩ ⟨Nat.zero_le _, Nat.zero_le _⟩ (fun H locs hW => ?_)
    refine lv_iconst (v := 1) hx hb dX0_readsFirst_72 (by decide) ?_
    cases hf
    exact ss_zret hx hb hr hlk hW rfl rfl dX0_readsFirst_73
  have h27 : ∀ (σ : Sg) (H : Heap) (locs : List Loc) (ls : Array Slot), Wk E σ μ dg s H locs → lv_has ls 3 [(0, .ref (eA E 5)), (1, .int a1)] → fX0_readsFirst_b27 a1 σ = some (r, σ') → W p l e (Rm 1 24) s m [.ref (eA E 5), .int a1].toArray below meth c H locs 0 0 (MQ below (Qi E σ' μ dg r) [.ref (eA E 5), .int a1].toArray s 0 0 (eP E)) (F0 m 27 ls []) := by
    intro σ  H locs ls hW hl hf
    unfold fX0_readsFirst_b27 at hf
    refine lv_iload_n hx hb dX0_readsFirst_27 rfl (lv_at hl 1 rfl) ?_
    refine lv_bipush (v := 44) hx hb dX0_readsFirst_28 (by decide) ?_
    refine lv_icmp_ne (tgt := 74) hx hb dX0_readsFirst_30 (by decide) (fun c18 => ?_) (fun c18 => ?_)
    · have hf := br_n c18 hf
      exact h74 σ _ _ _ hW (lv_sub hl [0, 1] rfl) hf
    · have hf := br_p c18 hf
      refine lv_aload_n hx hb dX0_readsFirst_33 rfl (lv_at hl 0 rfl) ?_
      refine g_BT_hasDigit hx hb hown hK hW kF_RX0_84 dX0_readsFirst_34 ?_
      refine lv_if_eq (tgt := 74) hx hb dX0_readsFirst_37 (by decide) (fun c19 => ?_) (fun c19 => ?_)
      · have hf := br_p c19 hf
        exact h74 σ _ _ _ hW (lv_sub hl [0, 1] rfl) hf
      · have hf := br_n c19 hf
        refine lv_aload_n hx hb dX0_readsFirst_40 rfl (lv_at hl 0 rfl) ?_
        refine lv_aload_n hx hb dX0_readsFirst_41 rfl (lv_at hl 0 rfl) ?_
        refine g_BT_negative hx hb hown hK hW kF_RX0_61 dX0_readsFirst_42 ?_
        refine lv_if_eq (tgt := 56) hx hb dX0_readsFirst_45 (by decide) (fun c20 => ?_) (fun c20 => ?_)
        · have hf := br_p c20 hf
          refine lv_aload_n hx hb dX0_readsFirst_56 rfl (lv_at hl 0 rfl) ?_
          refine g_BT_digits hx hb hown hK hW kF_RX0_87 dX0_readsFirst_57 ?_
          exact h60 (σ 5 9) σ _ _ _ hW (lv_sub hl [0] rfl) hf
        · have hf := br_n c20 hf
          refine lv_aload_n hx hb dX0_readsFirst_48 rfl (lv_at hl 0 rfl) ?_
          refine g_BT_digits hx hb hown hK hW kF_RX0_87 dX0_readsFirst_49 ?_
          refine lv_ineg hx hb dX0_readsFirst_52 ?_
          refine lv_goto (tgt := 60) hx hb dX0_readsFirst_53 (by decide) ?_
          exact h60 (-(σ 5 9)) σ _ _ _ hW (lv_sub hl [0] rfl) hf
  refine lv_iload_n hx hb dX0_readsFirst_0 rfl (lv_at hl 1 rfl) ?_
  refine lv_bipush (v := 45) hx hb dX0_readsFirst_1 (by decide) ?_
  refine lv_icmp_ne (tgt := 27) hx hb dX0_readsFirst_3 (by decide) (fun c21 => ?_) (fun c21 => ?_)
  · have hf := br_n c21 hf
    exact h27 σ _ _ _ hW (lv_sub hl [0, 1] rfl) hf
  · have hf := br_p c21 hf
    refine lv_aload_n hx hb dX0_readsFirst_6 rfl (lv_at hl 0 rfl) ?_
    refine g_BT_negative hx hb hown hK hW kF_RX0_61 dX0_readsFirst_7 ?_
    refine lv_if_ne (tgt := 27) hx hb dX0_readsFirst_10 (by decide) (fun c22 => ?_) (fun c22 => ?_)
    · have hf := br_n c22 hf
      exact h27 σ _ _ _ hW (lv_sub hl [0, 1] rfl) hf
    · have hf := br_p c22 hf
      refine lv_aload_n hx hb dX0_readsFirst_13 rfl (lv_at hl 0 rfl) ?_
      refine g_BT_hasDigit hx hb hown hK hW kF_RX0_84 dX0_readsFirst_14 ?_
      refine lv_if_ne (tgt := 27) hx hb dX0_readsFirst_17 (by decide) (fun c23 => ?_) (fun c23 => ?_)
      · have hf := br_n c23 hf
        exact h27 σ _ _ _ hW (lv_sub hl [0, 1] rfl) hf
      · have hf := br_p c23 hf
        refine lv_aload_n hx hb dX0_readsFirst_20 rfl (lv_at hl 0 rfl) ?_
        refine lv_iconst (v := 1) hx hb dX0_readsFirst_21 (by decide) ?_
        refine p_BT_negative hx hb hown hK hW (by decide) kF_RX0_61 dX0_readsFirst_22 (fun H locs hW => ?_)
        obtain ⟨s24, es24⟩ : ∃ y : Sg, y = (up2 σ 5 7 1) := ⟨_, rfl⟩
        have hf := nm_use es24 hf
        rw [← es24] at hW
        refine lv_iconst (v := 1) hx hb dX0_readsFirst_25 (by decide) ?_
        cases hf
        exact ss_zret hx hb hr hlk hW rfl rfl dX0_readsFirst_26
def fX0_readsNumber (a1 : Int32) (σ : Sg) : Option (Int32 × Sg) := if a1 = 58 then (if (σ 5 8) = 0 then (bd2 (fX0_readsDigit a1 48 σ) fun r8 s9 => gd (r8 = 0 ∨ r8 = 1) <| some (r8, s9)) else (nm (up2 σ 5 3 (σ 5 9)) fun s11 => nm (up2 s11 5 6 2) fun s12 => some (1, s12))) else (bd2 (fX0_readsDigit a1 48 σ) fun r3 s4 => gd (r3 = 0 ∨ r3 = 1) <| some (r3, s4))
set_option maxHeartbeats 4000000 in
set_option maxRecDepth 100000 in
theorem mX0_readsNumber (l : Launch) {E : En} {σ μ : Sg} {dg : Int64} {a1 : Int32}  {r : Int32} {σ' : Sg} (hf : fX0_readsNumber a1 σ = some (r, σ')) : Met l yX0_readsNumber [.code yX0_readsNumber cX0_readsNumber 2 (some .boolean)] (Rm 1 24) (va_Pc [.ref (eA E 5), .int a1] (Wd E σ μ dg)) (Qi E σ' μ dg r) 0 0 (eP E) := by
  refine ss_of (by decide) (Nat.le_of_ble_eq_true rfl) (fun p e s m below meth c hx hb hr hlk hml hown hK hW ls hl => ?_)
  have hown : s.vm.findClass RX0 = some m.cls := hown
  have hl : lv_has ls 2 [(0, .ref (eA E 5)), (1, .int a1)] := hl
  unfold fX0_readsNumber at hf
  refine lv_iload_n hx hb dX0_readsNumber_0 rfl (lv_at hl 1 rfl) ?_
  refine lv_bipush (v := 58) hx hb dX0_readsNumber_1 (by decide) ?_
  refine lv_icmp_ne (tgt := 28) hx hb dX0_readsNumber_3 (by decide) (fun c1 => ?_) (fun c1 => ?_)
  · have hf := br_n c1 hf
    refine lv_aload_n hx hb dX0_readsNumber_28 rfl (lv_at hl 0 rfl) ?_
    refine lv_iload_n hx hb dX0_readsNumber_29 rfl (lv_at hl 1 rfl) ?_
    refine lv_bipush (v := 48) hx hb dX0_readsNumber_30 (by decide) ?_
    obtain ⟨r3, s4, q2, hf⟩ := bd2_inv hf
    refine ss_callVi (As := [.int a1, .int 48]) hx hb hml hown hK hW kb_X0_readsDigit kM_RX0_93 rfl (okq_lt (by decide)) (c_fx (by decide)) (mX0_readsDigit l (a1 := a1) (a2 := 48) q2) rfl dX0_readsNumber_32 rfl hl.1 (Nat.le_of_ble_eq_true rfl) ⟨Nat.le_of_ble_eq_true rfl, Nat.le_of_ble_eq_true rfl⟩ ⟨Nat.zero_le _, Nat.zero_le _⟩ (fun H locs hW => ?_)
    obtain ⟨hz5, hf⟩ := gd_inv hf
    cases hf
    exact ss_zret hx hb hr hlk hW rfl (zb_n hz5) dX0_readsNumber_35
  · have hf := br_p c1 hf
    refine lv_aload_n hx hb dX0_readsNumber_6 rfl (lv_at hl 0 rfl) ?_
    refine g_BT_hasDigit hx hb hown hK hW kF_RX0_84 dX0_readsNumber_7 ?_
    refine lv_if_eq (tgt := 28) hx hb dX0_readsNumber_10 (by decide) (fun c6 => ?_) (fun c6 => ?_)
    · have hf := br_p c6 hf
      refine lv_aload_n hx hb dX0_readsNumber_28 rfl (lv_at hl 0 rfl) ?_
      refine lv_iload_n hx hb dX0_readsNumber_29 rfl (lv_at hl 1 rfl) ?_
      refine lv_bipush (v := 48) hx hb dX0_readsNumber_30 (by decide) ?_
      obtain ⟨r8, s9, q7, hf⟩ := bd2_inv hf
      refine ss_callVi (As := [.int a1, .int 48]) hx hb hml hown hK hW kb_X0_readsDigit kM_RX0_93 rfl (okq_lt (by decide)) (c_fx (by decide)) (mX0_readsDigit l (a1 := a1) (a2 := 48) q7) rfl dX0_readsNumber_32 rfl hl.1 (Nat.le_of_ble_eq_true rfl) ⟨Nat.le_of_ble_eq_true rfl, Nat.le_of_ble_eq_true rfl⟩ ⟨Nat.zero_le _, Nat.zero_le _⟩ (fun H locs hW => ?_)
      obtain ⟨hz10, hf⟩ := gd_inv hf
      cases hf
      exact ss_zret hx hb hr hlk hW rfl (zb_n hz10) dX0_readsNumber_35
    · have hf := br_n c6 hf
      refine lv_aload_n hx hb dX0_readsNumber_13 rfl (lv_at hl 0 rfl) ?_
      refine lv_aload_n hx hb dX0_readsNumber_14 rfl (lv_at hl 0 rfl) ?_
      refine g_BT_digits hx hb hown hK hW kF_RX0_87 dX0_readsNumber_15 ?_
      refine p_BT_number hx hb hown hK hW kF_RX0_97 dX0_readsNumber_18 (fun H locs hW => ?_)
      obtain ⟨s11, es11⟩ : ∃ y : Sg, y = (up2 σ 5 3 (σ 5 9)) := ⟨_, rfl⟩
      have hf := nm_use es11 hf
      rw [← es11] at hW
      refine lv_aload_n hx hb dX0_readsNumber_21 rfl (lv_at hl 0 rfl) ?_
      refine lv_iconst (v := 2) hx hb dX0_readsNumber_22 (by decide) ?_
      refine p_BT_part hx hb hown hK hW kF_RX0_58 dX0_readsNumber_23 (fun H locs hW => ?_)
      obtain ⟨s12, es12⟩ : ∃ y : Sg, y = (up2 s11 5 6 2) := ⟨_, rfl⟩
      have hf := nm_use es12 hf
      rw [← es12] at hW
      refine lv_iconst (v := 1) hx hb dX0_readsNumber_26 (by decide) ?_
      cases hf
      exact ss_zret hx hb hr hlk hW rfl rfl dX0_readsNumber_27
def fX0_readsCode_b42  (x2 : Int32) (σ : Sg) : Option (Int32 × Sg) := if x2 = (-1) then (some (0, σ)) else (if (σ 5 5) < 15 then (gd (¬ ((σ 5 5) < 0 ∨ 15 ≤ ((σ 5 5)).toNatClampNeg)) <| nm (up2 σ 7 (((σ 5 5)).toNatClampNeg) x2) fun s4 => nm (up2 s4 5 5 ((s4 5 5) + 1)) fun s5 => some (1, s5)) else (some (0, σ)))
def fX0_readsCode_b22 (a1 : Int32) (x2 : Int32) (σ : Sg) : Option (Int32 × Sg) := if a1 < 97 then (fX0_readsCode_b42 x2 σ) else (if 102 < a1 then (fX0_readsCode_b42 x2 σ) else (nm ((a1 - 97) + 10) fun x2_8 => fX0_readsCode_b42 x2_8 σ))
def fX0_readsCode (a1 : Int32) (σ : Sg) : Option (Int32 × Sg) := if a1 < 48 then (fX0_readsCode_b22 a1 (-1) σ) else (if 57 < a1 then (fX0_readsCode_b22 a1 (-1) σ) else (nm (a1 - 48) fun x2_11 => fX0_readsCode_b42 x2_11 σ))
set_option maxHeartbeats 4000000 in
set_option maxRecDepth 100000 in
theorem mX0_readsCode (l : Launch) {E : En} {σ μ : Sg} {dg : Int64} {a1 : Int32}  {r : Int32} {σ' : Sg} (hf : fX0_readsCode a1 σ = some (r, σ')) : Met l yX0_readsCode [.code yX0_readsCode cX0_readsCode 3 (some .boolean)] (Rm 0 0) (va_Pc [.ref (eA E 5), .int a1] (Wd E σ μ dg)) (Qi E σ' μ dg r) 0 0 (eP E) := by
  refine ss_of (by decide) (Nat.le_of_ble_eq_true rfl) (fun p e s m below meth c hx hb hr hlk hml hown hK hW ls hl => ?_)
  have hown : s.vm.findClass RX0 = some m.cls := hown
  have hl : lv_has ls 3 [(0, .ref (eA E 5)), (1, .int a1)] := hl
  unfold fX0_readsCode at hf
  have h42 : ∀ (x2 : Int32) (σ : Sg) (H : Heap) (locs : List Loc) (ls : Array Slot), Wk E σ μ dg s H locs → lv_has ls 3 [(0, .ref (eA E 5)), (2, .int x2)] → fX0_readsCode_b42 x2 σ = some (r, σ') → W p l e (Rm 0 0) s m [.ref (eA E 5), .int a1].toArray below meth c H locs 0 0 (MQ below (Qi E σ' μ dg r) [.ref (eA E 5), .int a1].toArray s 0 0 (eP E)) (F0 m 42 ls []) := by
    intro x2 σ  H locs ls hW hl hf
    unfold fX0_readsCode_b42 at hf
    refine lv_iload_n hx hb dX0_readsCode_42 rfl (lv_at hl 1 rfl) ?_
    refine lv_iconst (v := (-1)) hx hb dX0_readsCode_43 (by decide) ?_
    refine lv_icmp_eq (tgt := 59) hx hb dX0_readsCode_44 (by decide) (fun c1 => ?_) (fun c1 => ?_)
    · have hf := br_p c1 hf
      refine lv_iconst (v := 0) hx hb dX0_readsCode_59 (by decide) ?_
      cases hf
      exact ss_zret hx hb hr hlk hW rfl rfl dX0_readsCode_60
    · have hf := br_n c1 hf
      refine lv_aload_n hx hb dX0_readsCode_47 rfl (lv_at hl 0 rfl) ?_
      refine g_BT_codeCount hx hb hown hK hW kF_RX0_65 dX0_readsCode_48 ?_
      refine lv_aload_n hx hb dX0_readsCode_51 rfl (lv_at hl 0 rfl) ?_
      refine g_BT_codes hx hb hown hK hW kF_RX0_15 dX0_readsCode_52 ?_
      refine n_btc hx hb hK hW dX0_readsCode_55 ?_
      refine lv_icmp_lt (tgt := 61) hx hb dX0_readsCode_56 (by decide) (fun c2 => ?_) (fun c2 => ?_)
      · have hf := br_p c2 hf
        refine lv_aload_n hx hb dX0_readsCode_61 rfl (lv_at hl 0 rfl) ?_
        refine g_BT_codes hx hb hown hK hW kF_RX0_15 dX0_readsCode_62 ?_
        refine lv_aload_n hx hb dX0_readsCode_65 rfl (lv_at hl 0 rfl) ?_
        refine g_BT_codeCount hx hb hown hK hW kF_RX0_65 dX0_readsCode_66 ?_
        refine lv_iload_n hx hb dX0_readsCode_69 rfl (lv_at hl 1 rfl) ?_
        obtain ⟨hk3, hf⟩ := gd_inv hf
        refine s_btc hx hb hK hW rfl hk3 dX0_readsCode_70 (fun H locs hW => ?_)
        obtain ⟨s4, es4⟩ : ∃ y : Sg, y = (up2 σ 7 (((σ 5 5)).toNatClampNeg) x2) := ⟨_, rfl⟩
        have hf := nm_use es4 hf
        rw [← es4] at hW
        refine lv_aload_n hx hb dX0_readsCode_71 rfl (lv_at hl 0 rfl) ?_
        refine lv_dup hx hb dX0_readsCode_72 rfl ?_
        refine g_BT_codeCount hx hb hown hK hW kF_RX0_65 dX0_readsCode_73 ?_
        refine lv_iconst (v := 1) hx hb dX0_readsCode_76 (by decide) ?_
        refine lv_iadd hx hb dX0_readsCode_77 ?_
        refine p_BT_codeCount hx hb hown hK hW kF_RX0_65 dX0_readsCode_78 (fun H locs hW => ?_)
        obtain ⟨s5, es5⟩ : ∃ y : Sg, y = (up2 s4 5 5 ((s4 5 5) + 1)) := ⟨_, rfl⟩
        have hf := nm_use es5 hf
        rw [← es5] at hW
        refine lv_iconst (v := 1) hx hb dX0_readsCode_81 (by decide) ?_
        cases hf
        exact ss_zret hx hb hr hlk hW rfl rfl dX0_readsCode_82
      · have hf := br_n c2 hf
        refine lv_iconst (v := 0) hx hb dX0_readsCode_59 (by decide) ?_
        cases hf
        exact ss_zret hx hb hr hlk hW rfl rfl dX0_readsCode_60
  have h22 : ∀ (x2 : Int32) (σ : Sg) (H : Heap) (locs : List Loc) (ls : Array Slot), Wk E σ μ dg s H locs → lv_has ls 3 [(0, .ref (eA E 5)), (1, .int a1), (2, .int x2)] → fX0_readsCode_b22 a1 x2 σ = some (r, σ') → W p l e (Rm 0 0) s m [.ref (eA E 5), .int a1].toArray below meth c H locs 0 0 (MQ below (Qi E σ' μ dg r) [.ref (eA E 5), .int a1].toArray s 0 0 (eP E)) (F0 m 22 ls []) := by
    intro x2 σ  H locs ls hW hl hf
    unfold fX0_readsCode_b22 at hf
    refine lv_iload_n hx hb dX0_readsCode_22 rfl (lv_at hl 1 rfl) ?_
    refine lv_bipush (v := 97) hx hb dX0_readsCode_23 (by decide) ?_
    refine lv_icmp_lt (tgt := 42) hx hb dX0_readsCode_25 (by decide) (fun c6 => ?_) (fun c6 => ?_)
    · have hf := br_p c6 hf
      exact h42 x2 σ _ _ _ hW (lv_sub hl [0, 2] rfl) hf
    · have hf := br_n c6 hf
      refine lv_iload_n hx hb dX0_readsCode_28 rfl (lv_at hl 1 rfl) ?_
      refine lv_bipush (v := 102) hx hb dX0_readsCode_29 (by decide) ?_
      refine lv_icmp_gt (tgt := 42) hx hb dX0_readsCode_31 (by decide) (fun c7 => ?_) (fun c7 => ?_)
      · have hf := br_p c7 hf
        exact h42 x2 σ _ _ _ hW (lv_sub hl [0, 2] rfl) hf
      · have hf := br_n c7 hf
        refine lv_iload_n hx hb dX0_readsCode_34 rfl (lv_at hl 1 rfl) ?_
        refine lv_bipush (v := 97) hx hb dX0_readsCode_35 (by decide) ?_
        refine lv_isub hx hb dX0_readsCode_37 ?_
        refine lv_bipush (v := 10) hx hb dX0_readsCode_38 (by decide) ?_
        refine lv_iadd hx hb dX0_readsCode_40 ?_
        refine lv_topi (fun x2_8 ex2_8 => ?_)
        have hf := nm_use ex2_8 hf
        refine lv_istore_n (lv' := [(2, .int x2_8), (0, .ref (eA E 5)), (1, .int a1)]) hx hb dX0_readsCode_41 rfl hl (by decide) rfl (fun ls hl => ?_)
        exact h42 x2_8 σ _ _ _ hW (lv_sub hl [1, 0] rfl) hf
  refine lv_iconst (v := (-1)) hx hb dX0_readsCode_0 (by decide) ?_
  refine lv_istore_n (lv' := [(2, .int (-1)), (0, .ref (eA E 5)), (1, .int a1)]) hx hb dX0_readsCode_1 rfl hl (by decide) rfl (fun ls hl => ?_)
  refine lv_iload_n hx hb dX0_readsCode_2 rfl (lv_at hl 2 rfl) ?_
  refine lv_bipush (v := 48) hx hb dX0_readsCode_3 (by decide) ?_
  refine lv_icmp_lt (tgt := 22) hx hb dX0_readsCode_5 (by decide) (fun c9 => ?_) (fun c9 => ?_)
  · have hf := br_p c9 hf
    exact h22 (-1) σ _ _ _ hW (lv_sub hl [1, 2, 0] rfl) hf
  · have hf := br_n c9 hf
    refine lv_iload_n hx hb dX0_readsCode_8 rfl (lv_at hl 2 rfl) ?_
    refine lv_bipush (v := 57) hx hb dX0_readsCode_9 (by decide) ?_
    refine lv_icmp_gt (tgt := 22) hx hb dX0_readsCode_11 (by decide) (fun c10 => ?_) (fun c10 => ?_)
    · have hf := br_p c10 hf
      exact h22 (-1) σ _ _ _ hW (lv_sub hl [1, 2, 0] rfl) hf
    · have hf := br_n c10 hf
      refine lv_iload_n hx hb dX0_readsCode_14 rfl (lv_at hl 2 rfl) ?_
      refine lv_bipush (v := 48) hx hb dX0_readsCode_15 (by decide) ?_
      refine lv_isub hx hb dX0_readsCode_17 ?_
      refine lv_topi (fun x2_11 ex2_11 => ?_)
      have hf := nm_use ex2_11 hf
      refine lv_istore_n (lv' := [(2, .int x2_11), (0, .ref (eA E 5)), (1, .int a1)]) hx hb dX0_readsCode_18 rfl hl (by decide) rfl (fun ls hl => ?_)
      refine lv_goto (tgt := 42) hx hb dX0_readsCode_19 (by decide) ?_
      exact h42 x2_11 σ _ _ _ hW (lv_sub hl [1, 0] rfl) hf
def fX0_readsOn (a1 : Int32) (σ : Sg) : Option (Int32 × Sg) := nm (σ 5 6) fun w1 => if w1 = 0 then (bd2 (fX0_readsFirst a1 σ) fun r4 s5 => gd (r4 = 0 ∨ r4 = 1) <| some (r4, s5)) else (if w1 = 1 then (bd2 (fX0_readsNumber a1 σ) fun r9 s10 => gd (r9 = 0 ∨ r9 = 1) <| some (r9, s10)) else (bd2 (fX0_readsCode a1 σ) fun r13 s14 => gd (r13 = 0 ∨ r13 = 1) <| some (r13, s14)))
set_option maxHeartbeats 4000000 in
set_option maxRecDepth 100000 in
theorem mX0_readsOn (l : Launch) {E : En} {σ μ : Sg} {dg : Int64} {a1 : Int32}  {r : Int32} {σ' : Sg} (hf : fX0_readsOn a1 σ = some (r, σ')) : Met l yX0_readsOn [.code yX0_readsOn cX0_readsOn 2 (some .boolean)] (Rm 2 46) (va_Pc [.ref (eA E 5), .int a1] (Wd E σ μ dg)) (Qi E σ' μ dg r) 0 0 (eP E) := by
  refine ss_of (by decide) (Nat.le_of_ble_eq_true rfl) (fun p e s m below meth c hx hb hr hlk hml hown hK hW ls hl => ?_)
  have hown : s.vm.findClass RX0 = some m.cls := hown
  have hl : lv_has ls 2 [(0, .ref (eA E 5)), (1, .int a1)] := hl
  unfold fX0_readsOn at hf
  refine lv_aload_n hx hb dX0_readsOn_0 rfl (lv_at hl 0 rfl) ?_
  refine g_BT_part hx hb hown hK hW kF_RX0_58 dX0_readsOn_1 ?_
  refine lv_topi (fun w1 ew1 => ?_)
  have hf := nm_use ew1 hf
  by_cases c2 : w1 = 0
  · have hf := br_p c2 hf
    refine lv_lookup (off := 28) (tgt := 32) hx hb dX0_readsOn_4 (by decide) (by rw [c2]; rfl) (by decide) ?_
    refine lv_aload_n hx hb dX0_readsOn_32 rfl (lv_at hl 0 rfl) ?_
    refine lv_iload_n hx hb dX0_readsOn_33 rfl (lv_at hl 1 rfl) ?_
    obtain ⟨r4, s5, q3, hf⟩ := bd2_inv hf
    refine ss_callVi (As := [.int a1]) hx hb hml hown hK hW kb_X0_readsFirst kM_RX0_75 rfl (okq_lt (by decide)) (c_fx (by decide)) (mX0_readsFirst l (a1 := a1) q3) rfl dX0_readsOn_34 rfl hl.1 (Nat.le_of_ble_eq_true rfl) ⟨Nat.le_of_ble_eq_true rfl, Nat.le_of_ble_eq_true rfl⟩ ⟨Nat.zero_le _, Nat.zero_le _⟩ (fun H locs hW => ?_)
    obtain ⟨hz6, hf⟩ := gd_inv hf
    cases hf
    exact ss_zret hx hb hr hlk hW rfl (zb_n hz6) dX0_readsOn_37
  have hf := br_n c2 hf
  by_cases c7 : w1 = 1
  · have hf := br_p c7 hf
    refine lv_lookup (off := 34) (tgt := 38) hx hb dX0_readsOn_4 (by decide) (by rw [c7]; rfl) (by decide) ?_
    refine lv_aload_n hx hb dX0_readsOn_38 rfl (lv_at hl 0 rfl) ?_
    refine lv_iload_n hx hb dX0_readsOn_39 rfl (lv_at hl 1 rfl) ?_
    obtain ⟨r9, s10, q8, hf⟩ := bd2_inv hf
    refine ss_callVi (As := [.int a1]) hx hb hml hown hK hW kb_X0_readsNumber kM_RX0_78 rfl (okq_lt (by decide)) (c_fx (by decide)) (mX0_readsNumber l (a1 := a1) q8) rfl dX0_readsOn_40 rfl hl.1 (Nat.le_of_ble_eq_true rfl) ⟨Nat.le_of_ble_eq_true rfl, Nat.le_of_ble_eq_true rfl⟩ ⟨Nat.zero_le _, Nat.zero_le _⟩ (fun H locs hW => ?_)
    obtain ⟨hz11, hf⟩ := gd_inv hf
    cases hf
    exact ss_zret hx hb hr hlk hW rfl (zb_n hz11) dX0_readsOn_43
  have hf := br_n c7 hf
  have zc2 := sw_ne (n := 0) c2 (by decide)
  have zc7 := sw_ne (n := 1) c7 (by decide)
  refine lv_lookup (off := 40) (tgt := 44) hx hb dX0_readsOn_4 (by decide) (by simp only [Op.lookupswitch.offset]; simp [Ne.symm zc2, Ne.symm zc7, zc2, zc7]) (by decide) ?_
  refine lv_aload_n hx hb dX0_readsOn_44 rfl (lv_at hl 0 rfl) ?_
  refine lv_iload_n hx hb dX0_readsOn_45 rfl (lv_at hl 1 rfl) ?_
  obtain ⟨r13, s14, q12, hf⟩ := bd2_inv hf
  refine ss_callVi (As := [.int a1]) hx hb hml hown hK hW kb_X0_readsCode kM_RX0_81 rfl (okq_lt (by decide)) (c_fx (by decide)) (mX0_readsCode l (a1 := a1) q12) rfl dX0_readsOn_46 rfl hl.1 (Nat.le_of_ble_eq_true rfl) ⟨Nat.le_of_ble_eq_true rfl, Nat.le_of_ble_eq_true rfl⟩ ⟨Nat.zero_le _, Nat.zero_le _⟩ (fun H locs hW => ?_)
  obtain ⟨hz15, hf⟩ := gd_inv hf
  cases hf
  exact ss_zret hx hb hr hlk hW rfl (zb_n hz15) dX0_readsOn_49
def fX0_read_L21  (n : Nat) (x1 : Int32) (σ : Sg) : Option (Int32 × Sg) := match n with
  | 0 => none
  | n + 1 => if (σ 5 1) ≤ x1 then (some ((σ 5 1), σ)) else (gd (¬ (x1 < 0 ∨ 40 ≤ (x1).toNatClampNeg)) <| bd2 (fX0_readsOn (σ 6 (x1).toNatClampNeg) σ) fun r4 s5 => if r4 = 0 then (some (x1, s5)) else (nm (x1 + 1) fun x1_7 => (fun x1 σ => fX0_read_L21 n x1 σ) x1_7 s5))
def fX0_read (σ : Sg) : Option (Int32 × Sg) := nm (up2 σ 5 6 0) fun s8 => nm (up2 s8 5 7 0) fun s9 => nm (up2 s9 5 5 0) fun s10 => bd (fX0_beginDigits s10) fun s12 => fX0_read_L21 80 0 s12
set_option maxHeartbeats 4000000 in
set_option maxRecDepth 100000 in
theorem mX0_read (l : Launch) {E : En} {σ μ : Sg} {dg : Int64}   {r : Int32} {σ' : Sg} (hf : fX0_read σ = some (r, σ')) : Met l yX0_read [.code yX0_read cX0_read 2 (some .int)] (Rm 3 67) (va_Pc [.ref (eA E 5)] (Wd E σ μ dg)) (Qi E σ' μ dg r) 0 0 (eP E) := by
  refine ss_of (by decide) (Nat.le_of_ble_eq_true rfl) (fun p e s m below meth c hx hb hr hlk hml hown hK hW ls hl => ?_)
  have hown : s.vm.findClass RX0 = some m.cls := hown
  have hl : lv_has ls 2 [(0, .ref (eA E 5))] := hl
  unfold fX0_read at hf
  have h21 : ∀ (n21 : Nat) (x1 : Int32) (σ : Sg) (H : Heap) (locs : List Loc) (ls : Array Slot), Wk E σ μ dg s H locs → lv_has ls 2 [(0, .ref (eA E 5)), (1, .int x1)] → fX0_read_L21 n21 x1 σ = some (r, σ') → W p l e (Rm 3 67) s m [.ref (eA E 5)].toArray below meth c H locs 0 0 (MQ below (Qi E σ' μ dg r) [.ref (eA E 5)].toArray s 0 0 (eP E)) (F0 m 21 ls []) := by
    intro n21
    induction n21 with
    | zero =>
      intro x1 σ  H locs ls hW hl hf
      exact absurd hf (by simp [fX0_read_L21])
    | succ n21 ih21 =>
      intro x1 σ  H locs ls hW hl hf
      rw [fX0_read_L21] at hf
      refine lv_iload_n hx hb dX0_read_21 rfl (lv_at hl 1 rfl) ?_
      refine lv_aload_n hx hb dX0_read_22 rfl (lv_at hl 0 rfl) ?_
      refine g_BT_length hx hb hown hK hW kF_RX0_18 dX0_read_23 ?_
      refine lv_icmp_ge (tgt := 50) hx hb dX0_read_26 (by decide) (fun c1 => ?_) (fun c1 => ?_)
      · have hf := br_p c1 hf
        refine lv_aload_n hx hb dX0_read_50 rfl (lv_at hl 0 rfl) ?_
        refine g_BT_length hx hb hown hK hW kF_RX0_18 dX0_read_51 ?_
        cases hf
        exact ss_iret hx hb hr hlk hW rfl dX0_read_54
      · have hf := br_n c1 hf
        refine lv_aload_n hx hb dX0_read_29 rfl (lv_at hl 0 rfl) ?_
        refine lv_aload_n hx hb dX0_read_30 rfl (lv_at hl 0 rfl) ?_
        refine g_BT_signs hx hb hown hK hW kF_RX0_9 dX0_read_31 ?_
        refine lv_iload_n hx hb dX0_read_34 rfl (lv_at hl 1 rfl) ?_
        obtain ⟨hk2, hf⟩ := gd_inv hf
        refine l_signs hx hb hK hW rfl hk2 dX0_read_35 ?_
        obtain ⟨r4, s5, q3, hf⟩ := bd2_inv hf
        refine ss_callVi (As := [.int (σ 6 (x1).toNatClampNeg)]) hx hb hml hown hK hW kb_X0_readsOn kM_RX0_71 rfl (okq_lt (by decide)) (c_fx (by decide)) (mX0_readsOn l (a1 := (σ 6 (x1).toNatClampNeg)) q3) rfl dX0_read_36 rfl hl.1 (Nat.le_of_ble_eq_true rfl) ⟨Nat.le_of_ble_eq_true rfl, Nat.le_of_ble_eq_true rfl⟩ ⟨Nat.zero_le _, Nat.zero_le _⟩ (fun H locs hW => ?_)
        refine lv_if_ne (tgt := 44) hx hb dX0_read_39 (by decide) (fun c6 => ?_) (fun c6 => ?_)
        · have hf := br_n c6 hf
          obtain ⟨x1_7, ex1_7⟩ : ∃ y : Int32, y = (x1 + 1) := ⟨_, rfl⟩
          have hf := nm_use ex1_7 hf
          refine lv_iinc (v := x1_7) (lv' := [(1, .int x1_7), (0, .ref (eA E 5))]) hx hb dX0_read_44 hl (k := 1) rfl (by rw [ex1_7]; rfl) (by decide) rfl (fun ls hl => ?_)
          refine lv_goto (tgt := 21) hx hb dX0_read_47 (by decide) ?_
          exact ih21 x1_7 s5 _ _ _ hW (lv_sub hl [1, 0] rfl) hf
        · have hf := br_p c6 hf
          refine lv_iload_n hx hb dX0_read_42 rfl (lv_at hl 1 rfl) ?_
          cases hf
          exact ss_iret hx hb hr hlk hW rfl dX0_read_43
  refine lv_aload_n hx hb dX0_read_0 rfl (lv_at hl 0 rfl) ?_
  refine lv_iconst (v := 0) hx hb dX0_read_1 (by decide) ?_
  refine p_BT_part hx hb hown hK hW kF_RX0_58 dX0_read_2 (fun H locs hW => ?_)
  obtain ⟨s8, es8⟩ : ∃ y : Sg, y = (up2 σ 5 6 0) := ⟨_, rfl⟩
  have hf := nm_use es8 hf
  rw [← es8] at hW
  refine lv_aload_n hx hb dX0_read_5 rfl (lv_at hl 0 rfl) ?_
  refine lv_iconst (v := 0) hx hb dX0_read_6 (by decide) ?_
  refine p_BT_negative hx hb hown hK hW (by decide) kF_RX0_61 dX0_read_7 (fun H locs hW => ?_)
  obtain ⟨s9, es9⟩ : ∃ y : Sg, y = (up2 s8 5 7 0) := ⟨_, rfl⟩
  have hf := nm_use es9 hf
  rw [← es9] at hW
  refine lv_aload_n hx hb dX0_read_10 rfl (lv_at hl 0 rfl) ?_
  refine lv_iconst (v := 0) hx hb dX0_read_11 (by decide) ?_
  refine p_BT_codeCount hx hb hown hK hW kF_RX0_65 dX0_read_12 (fun H locs hW => ?_)
  obtain ⟨s10, es10⟩ : ∃ y : Sg, y = (up2 s9 5 5 0) := ⟨_, rfl⟩
  have hf := nm_use es10 hf
  rw [← es10] at hW
  refine lv_aload_n hx hb dX0_read_15 rfl (lv_at hl 0 rfl) ?_
  obtain ⟨s12, q11, hf⟩ := bd_inv hf
  refine ss_callVv (As := []) hx hb hml hown hK hW kb_X0_beginDigits kM_RX0_68 rfl (okq_lt (by decide)) (c_fx (by decide)) (mX0_beginDigits l  q11) rfl dX0_read_16 rfl hl.1 (Nat.le_of_ble_eq_true rfl) ⟨Nat.le_of_ble_eq_true rfl, Nat.le_of_ble_eq_true rfl⟩ ⟨Nat.zero_le _, Nat.zero_le _⟩ (fun H locs hW => ?_)
  refine lv_iconst (v := 0) hx hb dX0_read_19 (by decide) ?_
  refine lv_istore_n (lv' := [(1, .int 0), (0, .ref (eA E 5))]) hx hb dX0_read_20 rfl hl (by decide) rfl (fun ls hl => ?_)
  exact h21 80 0 s12 _ _ _ hW (lv_sub hl [1, 0] rfl) hf
def fX6_firstError (σ : Sg) : Option (Int32 × Sg) := bd2 (fX0_read σ) fun r2 s3 => some (r2, s3)
set_option maxHeartbeats 4000000 in
set_option maxRecDepth 100000 in
theorem mX6_firstError (l : Launch) {E : En} {σ μ : Sg} {dg : Int64}   {r : Int32} {σ' : Sg} (hf : fX6_firstError σ = some (r, σ')) : Met l yX6_firstError [.code yX6_firstError cX6_firstError 1 (some .int)] (Rm 4 88) (va_Pc [.ref (eA E 0)] (Wd E σ μ dg)) (Qi E σ' μ dg r) 0 0 (eP E) := by
  refine ss_of (by decide) (Nat.le_of_ble_eq_true rfl) (fun p e s m below meth c hx hb hr hlk hml hown hK hW ls hl => ?_)
  have hown : s.vm.findClass RX6 = some m.cls := hown
  have hl : lv_has ls 1 [(0, .ref (eA E 0))] := hl
  unfold fX6_firstError at hf
  refine lv_aload_n hx hb dX6_firstError_0 rfl (lv_at hl 0 rfl) ?_
  refine g_X_buffer hx hb hown hK hW kF_RX6_34 dX6_firstError_1 ?_
  obtain ⟨r2, s3, q1, hf⟩ := bd2_inv hf
  refine ss_callVi (As := []) hx hb hml hown hK hW kb_X0_read kM_RX6_197 rfl (okq_lt (by decide)) (c_fx (by decide)) (mX0_read l  q1) rfl dX6_firstError_4 rfl hl.1 (Nat.le_of_ble_eq_true rfl) ⟨Nat.le_of_ble_eq_true rfl, Nat.le_of_ble_eq_true rfl⟩ ⟨Nat.zero_le _, Nat.zero_le _⟩ (fun H locs hW => ?_)
  cases hf
  exact ss_iret hx hb hr hlk hW rfl dX6_firstError_7
def fX0_tellsBlock (σ : Sg) : Option (Int32 × Sg) := bd2 (fX0_read σ) fun r2 s3 => if r2 = (s3 5 1) then (if (s3 5 6) = 2 then (some (1, s3)) else (some (0, s3))) else (some (0, s3))
set_option maxHeartbeats 4000000 in
set_option maxRecDepth 100000 in
theorem mX0_tellsBlock (l : Launch) {E : En} {σ μ : Sg} {dg : Int64}   {r : Int32} {σ' : Sg} (hf : fX0_tellsBlock σ = some (r, σ')) : Met l yX0_tellsBlock [.code yX0_tellsBlock cX0_tellsBlock 1 (some .boolean)] (Rm 4 88) (va_Pc [.ref (eA E 5)] (Wd E σ μ dg)) (Qi E σ' μ dg r) 0 0 (eP E) := by
  refine ss_of (by decide) (Nat.le_of_ble_eq_true rfl) (fun p e s m below meth c hx hb hr hlk hml hown hK hW ls hl => ?_)
  have hown : s.vm.findClass RX0 = some m.cls := hown
  have hl : lv_has ls 1 [(0, .ref (eA E 5))] := hl
  unfold fX0_tellsBlock at hf
  refine lv_aload_n hx hb dX0_tellsBlock_0 rfl (lv_at hl 0 rfl) ?_
  obtain ⟨r2, s3, q1, hf⟩ := bd2_inv hf
  refine ss_callVi (As := []) hx hb hml hown hK hW kb_X0_read kM_RX0_54 rfl (okq_lt (by decide)) (c_fx (by decide)) (mX0_read l  q1) rfl dX0_tellsBlock_1 rfl hl.1 (Nat.le_of_ble_eq_true rfl) ⟨Nat.le_of_ble_eq_true rfl, Nat.le_of_ble_eq_true rfl⟩ ⟨Nat.zero_le _, Nat.zero_le _⟩ (fun H locs hW => ?_)
  refine lv_aload_n hx hb dX0_tellsBlock_4 rfl (lv_at hl 0 rfl) ?_
  refine g_BT_length hx hb hown hK hW kF_RX0_18 dX0_tellsBlock_5 ?_
  refine lv_icmp_ne (tgt := 23) hx hb dX0_tellsBlock_8 (by decide) (fun c4 => ?_) (fun c4 => ?_)
  · have hf := br_n c4 hf
    refine lv_iconst (v := 0) hx hb dX0_tellsBlock_23 (by decide) ?_
    cases hf
    exact ss_zret hx hb hr hlk hW rfl rfl dX0_tellsBlock_24
  · have hf := br_p c4 hf
    refine lv_aload_n hx hb dX0_tellsBlock_11 rfl (lv_at hl 0 rfl) ?_
    refine g_BT_part hx hb hown hK hW kF_RX0_58 dX0_tellsBlock_12 ?_
    refine lv_iconst (v := 2) hx hb dX0_tellsBlock_15 (by decide) ?_
    refine lv_icmp_ne (tgt := 23) hx hb dX0_tellsBlock_16 (by decide) (fun c5 => ?_) (fun c5 => ?_)
    · have hf := br_n c5 hf
      refine lv_iconst (v := 0) hx hb dX0_tellsBlock_23 (by decide) ?_
      cases hf
      exact ss_zret hx hb hr hlk hW rfl rfl dX0_tellsBlock_24
    · have hf := br_p c5 hf
      refine lv_iconst (v := 1) hx hb dX0_tellsBlock_19 (by decide) ?_
      refine lv_goto (tgt := 24) hx hb dX0_tellsBlock_20 (by decide) ?_
      cases hf
      exact ss_zret hx hb hr hlk hW rfl rfl dX0_tellsBlock_24
def fX4_codesOf (i0 : Nat) (a1 : Int32) (σ : Sg) : Option Int32 := bd (fX4_endOf i0 a1 σ) fun r2 => bd (fX4_startOf i0 a1 σ) fun r4 => some ((r2 - r4) - 1)
set_option maxHeartbeats 4000000 in
set_option maxRecDepth 100000 in
theorem mX4_codesOf (l : Launch) {E : En} {σ μ : Sg} {dg : Int64} {i0 : Nat} {a1 : Int32} (hi0 : i0 < 9) {r : Int32} (hf : fX4_codesOf i0 a1 σ = some r) : Met l yX4_codesOf [.code yX4_codesOf cX4_codesOf 2 (some .int)] (Rm 2 42) (va_Pc [.ref (eA E (10 + 8 * i0)), .int a1] (Wd E σ μ dg)) (Qi E σ μ dg r) 0 0 (eP E) := by
  refine ss_of (by decide) (Nat.le_of_ble_eq_true rfl) (fun p e s m below meth c hx hb hr hlk hml hown hK hW ls hl => ?_)
  have hown : s.vm.findClass RX4 = some m.cls := hown
  have hl : lv_has ls 2 [(0, .ref (eA E (10 + 8 * i0))), (1, .int a1)] := hl
  unfold fX4_codesOf at hf
  refine lv_aload_n hx hb dX4_codesOf_0 rfl (lv_at hl 0 rfl) ?_
  refine lv_iload_n hx hb dX4_codesOf_1 rfl (lv_at hl 1 rfl) ?_
  obtain ⟨r2, q1, hf⟩ := bd_inv hf
  refine ss_callVi (As := [.int a1]) hx hb hml hown hK hW kb_X4_endOf kM_RX4_72 rfl (okq_lt (by omega)) (c_st (i := i0) (by omega) 0 (by decide)) (mX4_endOf l (i0 := i0) (a1 := a1) (by omega) q1) rfl dX4_codesOf_2 rfl hl.1 (Nat.le_of_ble_eq_true rfl) ⟨Nat.le_of_ble_eq_true rfl, Nat.le_of_ble_eq_true rfl⟩ ⟨Nat.zero_le _, Nat.zero_le _⟩ (fun H locs hW => ?_)
  refine lv_aload_n hx hb dX4_codesOf_5 rfl (lv_at hl 0 rfl) ?_
  refine lv_iload_n hx hb dX4_codesOf_6 rfl (lv_at hl 1 rfl) ?_
  obtain ⟨r4, q3, hf⟩ := bd_inv hf
  refine ss_callVi (As := [.int a1]) hx hb hml hown hK hW kb_X4_startOf kM_RX4_62 rfl (okq_lt (by omega)) (c_st (i := i0) (by omega) 0 (by decide)) (mX4_startOf l (i0 := i0) (a1 := a1) (by omega) q3) rfl dX4_codesOf_7 rfl hl.1 (Nat.le_of_ble_eq_true rfl) ⟨Nat.le_of_ble_eq_true rfl, Nat.le_of_ble_eq_true rfl⟩ ⟨Nat.zero_le _, Nat.zero_le _⟩ (fun H locs hW => ?_)
  refine lv_isub hx hb dX4_codesOf_10 ?_
  refine lv_iconst (v := 1) hx hb dX4_codesOf_11 (by decide) ?_
  refine lv_isub hx hb dX4_codesOf_12 ?_
  exact ss_iret hx hb hr hlk hW (Option.some.inj hf) dX4_codesOf_13
def fX4_putBlock_L36 (i0 : Nat) (a1 : Int32) (n : Nat) (x3 : Int32) (x4 : Int32) (σ : Sg) : Option Sg := match n with
  | 0 => none
  | n + 1 => bd (fX4_codesOf i0 a1 σ) fun r2 => if r2 ≤ x4 then (some σ) else (if 15 ≤ x4 then (some σ) else (gd (¬ (x4 < 0 ∨ 15 ≤ (x4).toNatClampNeg)) <| gd (¬ (((x3 + 1) + x4) < 0 ∨ 64 ≤ (((x3 + 1) + x4)).toNatClampNeg)) <| nm (up2 σ (10 + 8 * i0 + 6) ((((x3 + 1) + x4)).toNatClampNeg) (σ 7 (x4).toNatClampNeg)) fun s7 => nm (x4 + 1) fun x4_8 => (fun x3 x4 σ => fX4_putBlock_L36 i0 a1 n x3 x4 σ) x3 x4_8 s7))
def fX4_putBlock (i0 : Nat) (a1 : Int32) (σ : Sg) : Option Sg := gd (¬ (a1 < 0 ∨ 32 ≤ (a1).toNatClampNeg)) <| nm (up2 σ (10 + 8 * i0 + 3) ((a1).toNatClampNeg) (σ 5 2)) fun s10 => gd (¬ (a1 < 0 ∨ 32 ≤ (a1).toNatClampNeg)) <| nm (up2 s10 (10 + 8 * i0 + 4) ((a1).toNatClampNeg) (s10 5 3)) fun s12 => gd (¬ (a1 < 0 ∨ 32 ≤ (a1).toNatClampNeg)) <| nm (up2 s12 (10 + 8 * i0 + 5) ((a1).toNatClampNeg) 0) fun s14 => bd (fX4_startOf i0 a1 s14) fun r16 => fX4_putBlock_L36 i0 a1 80 r16 0 s14
set_option maxHeartbeats 4000000 in
set_option maxRecDepth 100000 in
theorem mX4_putBlock (l : Launch) {E : En} {σ μ : Sg} {dg : Int64} {i0 : Nat} {a1 : Int32} (hi0 : i0 < 9) {σ' : Sg} (hf : fX4_putBlock i0 a1 σ = some σ') : Met l yX4_putBlock [.code yX4_putBlock cX4_putBlock 5 none] (Rm 3 63) (va_Pc [.ref (eA E (10 + 8 * i0)), .int a1, .ref (eA E 5)] (Wd E σ μ dg)) (Qv E σ' μ dg) 0 0 (eP E) := by
  refine ss_of (by decide) (Nat.le_of_ble_eq_true rfl) (fun p e s m below meth c hx hb hr hlk hml hown hK hW ls hl => ?_)
  have hown : s.vm.findClass RX4 = some m.cls := hown
  have hl : lv_has ls 5 [(0, .ref (eA E (10 + 8 * i0))), (1, .int a1), (2, .ref (eA E 5))] := hl
  unfold fX4_putBlock at hf
  have h36 : ∀ (n36 : Nat) (x3 : Int32) (x4 : Int32) (σ : Sg) (H : Heap) (locs : List Loc) (ls : Array Slot), Wk E σ μ dg s H locs → lv_has ls 5 [(0, .ref (eA E (10 + 8 * i0))), (1, .int a1), (2, .ref (eA E 5)), (3, .int x3), (4, .int x4)] → fX4_putBlock_L36 i0 a1 n36 x3 x4 σ = some σ' → W p l e (Rm 3 63) s m [.ref (eA E (10 + 8 * i0)), .int a1, .ref (eA E 5)].toArray below meth c H locs 0 0 (MQ below (Qv E σ' μ dg) [.ref (eA E (10 + 8 * i0)), .int a1, .ref (eA E 5)].toArray s 0 0 (eP E)) (F0 m 36 ls []) := by
    intro n36
    induction n36 with
    | zero =>
      intro x3 x4 σ  H locs ls hW hl hf
      exact absurd hf (by simp [fX4_putBlock_L36])
    | succ n36 ih36 =>
      intro x3 x4 σ  H locs ls hW hl hf
      rw [fX4_putBlock_L36] at hf
      refine lv_iload hx hb dX4_putBlock_36 (lv_at hl 4 rfl) ?_
      refine lv_aload_n hx hb dX4_putBlock_38 rfl (lv_at hl 0 rfl) ?_
      refine lv_iload_n hx hb dX4_putBlock_39 rfl (lv_at hl 1 rfl) ?_
      obtain ⟨r2, q1, hf⟩ := bd_inv hf
      refine ss_callVi (As := [.int a1]) hx hb hml hown hK hW kb_X4_codesOf kM_RX4_83 rfl (okq_lt (by omega)) (c_st (i := i0) (by omega) 0 (by decide)) (mX4_codesOf l (i0 := i0) (a1 := a1) (by omega) q1) rfl dX4_putBlock_40 rfl hl.1 (Nat.le_of_ble_eq_true rfl) ⟨Nat.le_of_ble_eq_true rfl, Nat.le_of_ble_eq_true rfl⟩ ⟨Nat.zero_le _, Nat.zero_le _⟩ (fun H locs hW => ?_)
      refine lv_icmp_ge (tgt := 80) hx hb dX4_putBlock_43 (by decide) (fun c3 => ?_) (fun c3 => ?_)
      · have hf := br_p c3 hf
        cases hf
        exact ss_vret hx hb hr hlk hW dX4_putBlock_80
      · have hf := br_n c3 hf
        refine lv_iload hx hb dX4_putBlock_46 (lv_at hl 4 rfl) ?_
        refine lv_aload_n hx hb dX4_putBlock_48 rfl (lv_at hl 2 rfl) ?_
        refine g_BT_codes hx hb hown hK hW kF_RX4_86 dX4_putBlock_49 ?_
        refine n_btc hx hb hK hW dX4_putBlock_52 ?_
        refine lv_icmp_ge (tgt := 80) hx hb dX4_putBlock_53 (by decide) (fun c4 => ?_) (fun c4 => ?_)
        · have hf := br_p c4 hf
          cases hf
          exact ss_vret hx hb hr hlk hW dX4_putBlock_80
        · have hf := br_n c4 hf
          refine lv_aload_n hx hb dX4_putBlock_56 rfl (lv_at hl 0 rfl) ?_
          refine g_State_codes (i := i0) hx hb hown hK hW (by omega) kF_RX4_32 dX4_putBlock_57 ?_
          refine lv_iload_n hx hb dX4_putBlock_60 rfl (lv_at hl 3 rfl) ?_
          refine lv_iconst (v := 1) hx hb dX4_putBlock_61 (by decide) ?_
          refine lv_iadd hx hb dX4_putBlock_62 ?_
          refine lv_iload hx hb dX4_putBlock_63 (lv_at hl 4 rfl) ?_
          refine lv_iadd hx hb dX4_putBlock_65 ?_
          refine lv_aload_n hx hb dX4_putBlock_66 rfl (lv_at hl 2 rfl) ?_
          refine g_BT_codes hx hb hown hK hW kF_RX4_86 dX4_putBlock_67 ?_
          refine lv_iload hx hb dX4_putBlock_70 (lv_at hl 4 rfl) ?_
          obtain ⟨hk5, hf⟩ := gd_inv hf
          refine l_btc hx hb hK hW rfl hk5 dX4_putBlock_72 ?_
          obtain ⟨hk6, hf⟩ := gd_inv hf
          refine s_St6 (i := i0) hx hb hK hW (by omega) rfl hk6 dX4_putBlock_73 (fun H locs hW => ?_)
          obtain ⟨s7, es7⟩ : ∃ y : Sg, y = (up2 σ (10 + 8 * i0 + 6) ((((x3 + 1) + x4)).toNatClampNeg) (σ 7 (x4).toNatClampNeg)) := ⟨_, rfl⟩
          have hf := nm_use es7 hf
          rw [← es7] at hW
          obtain ⟨x4_8, ex4_8⟩ : ∃ y : Int32, y = (x4 + 1) := ⟨_, rfl⟩
          have hf := nm_use ex4_8 hf
          refine lv_iinc (v := x4_8) (lv' := [(4, .int x4_8), (0, .ref (eA E (10 + 8 * i0))), (1, .int a1), (2, .ref (eA E 5)), (3, .int x3)]) hx hb dX4_putBlock_74 hl (k := 4) rfl (by rw [ex4_8]; rfl) (by decide) rfl (fun ls hl => ?_)
          refine lv_goto (tgt := 36) hx hb dX4_putBlock_77 (by decide) ?_
          exact ih36 x3 x4_8 s7 _ _ _ hW (lv_sub hl [1, 2, 3, 4, 0] rfl) hf
  refine lv_aload_n hx hb dX4_putBlock_0 rfl (lv_at hl 0 rfl) ?_
  refine g_State_firsts (i := i0) hx hb hown hK hW (by omega) kF_RX4_22 dX4_putBlock_1 ?_
  refine lv_iload_n hx hb dX4_putBlock_4 rfl (lv_at hl 1 rfl) ?_
  refine lv_aload_n hx hb dX4_putBlock_5 rfl (lv_at hl 2 rfl) ?_
  refine g_BT_first hx hb hown hK hW kF_RX4_75 dX4_putBlock_6 ?_
  obtain ⟨hk9, hf⟩ := gd_inv hf
  refine s_St3 (i := i0) hx hb hK hW (by omega) rfl hk9 dX4_putBlock_9 (fun H locs hW => ?_)
  obtain ⟨s10, es10⟩ : ∃ y : Sg, y = (up2 σ (10 + 8 * i0 + 3) ((a1).toNatClampNeg) (σ 5 2)) := ⟨_, rfl⟩
  have hf := nm_use es10 hf
  rw [← es10] at hW
  refine lv_aload_n hx hb dX4_putBlock_10 rfl (lv_at hl 0 rfl) ?_
  refine g_State_starts (i := i0) hx hb hown hK hW (by omega) kF_RX4_25 dX4_putBlock_11 ?_
  refine lv_iload_n hx hb dX4_putBlock_14 rfl (lv_at hl 1 rfl) ?_
  refine lv_aload_n hx hb dX4_putBlock_15 rfl (lv_at hl 2 rfl) ?_
  refine g_BT_number hx hb hown hK hW kF_RX4_80 dX4_putBlock_16 ?_
  obtain ⟨hk11, hf⟩ := gd_inv hf
  refine s_St4 (i := i0) hx hb hK hW (by omega) rfl hk11 dX4_putBlock_19 (fun H locs hW => ?_)
  obtain ⟨s12, es12⟩ : ∃ y : Sg, y = (up2 s10 (10 + 8 * i0 + 4) ((a1).toNatClampNeg) (s10 5 3)) := ⟨_, rfl⟩
  have hf := nm_use es12 hf
  rw [← es12] at hW
  refine lv_aload_n hx hb dX4_putBlock_20 rfl (lv_at hl 0 rfl) ?_
  refine g_State_lost (i := i0) hx hb hown hK hW (by omega) kF_RX4_28 dX4_putBlock_21 ?_
  refine lv_iload_n hx hb dX4_putBlock_24 rfl (lv_at hl 1 rfl) ?_
  refine lv_iconst (v := 0) hx hb dX4_putBlock_25 (by decide) ?_
  obtain ⟨hk13, hf⟩ := gd_inv hf
  refine s_St5 (i := i0) hx hb hK hW (by omega) rfl hk13 (by decide) dX4_putBlock_26 (fun H locs hW => ?_)
  obtain ⟨s14, es14⟩ : ∃ y : Sg, y = (up2 s12 (10 + 8 * i0 + 5) ((a1).toNatClampNeg) 0) := ⟨_, rfl⟩
  have hf := nm_use es14 hf
  rw [← es14] at hW
  refine lv_aload_n hx hb dX4_putBlock_27 rfl (lv_at hl 0 rfl) ?_
  refine lv_iload_n hx hb dX4_putBlock_28 rfl (lv_at hl 1 rfl) ?_
  obtain ⟨r16, q15, hf⟩ := bd_inv hf
  refine ss_callVi (As := [.int a1]) hx hb hml hown hK hW kb_X4_startOf kM_RX4_62 rfl (okq_lt (by omega)) (c_st (i := i0) (by omega) 0 (by decide)) (mX4_startOf l (i0 := i0) (a1 := a1) (by omega) q15) rfl dX4_putBlock_29 rfl hl.1 (Nat.le_of_ble_eq_true rfl) ⟨Nat.le_of_ble_eq_true rfl, Nat.le_of_ble_eq_true rfl⟩ ⟨Nat.zero_le _, Nat.zero_le _⟩ (fun H locs hW => ?_)
  refine lv_istore_n (lv' := [(3, .int r16), (0, .ref (eA E (10 + 8 * i0))), (1, .int a1), (2, .ref (eA E 5))]) hx hb dX4_putBlock_32 rfl hl (by decide) rfl (fun ls hl => ?_)
  refine lv_iconst (v := 0) hx hb dX4_putBlock_33 (by decide) ?_
  refine lv_istore (lv' := [(4, .int 0), (3, .int r16), (0, .ref (eA E (10 + 8 * i0))), (1, .int a1), (2, .ref (eA E 5))]) hx hb dX4_putBlock_34 hl (by decide) rfl (fun ls hl => ?_)
  exact h36 80 r16 0 s14 _ _ _ hW (lv_sub hl [2, 3, 4, 1, 0] rfl) hf
def fX6_clearBuffer (σ : Sg) : Option (Int32 × Sg) := nm (σ 5 1) fun x1_1 => nm (up2 σ 5 1 0) fun s2 => some (x1_1, s2)
set_option maxHeartbeats 4000000 in
set_option maxRecDepth 100000 in
theorem mX6_clearBuffer (l : Launch) {E : En} {σ μ : Sg} {dg : Int64}   {r : Int32} {σ' : Sg} (hf : fX6_clearBuffer σ = some (r, σ')) : Met l yX6_clearBuffer [.code yX6_clearBuffer cX6_clearBuffer 2 (some .int)] (Rm 0 0) (va_Pc [.ref (eA E 0)] (Wd E σ μ dg)) (Qi E σ' μ dg r) 0 0 (eP E) := by
  refine ss_of (by decide) (Nat.le_of_ble_eq_true rfl) (fun p e s m below meth c hx hb hr hlk hml hown hK hW ls hl => ?_)
  have hown : s.vm.findClass RX6 = some m.cls := hown
  have hl : lv_has ls 2 [(0, .ref (eA E 0))] := hl
  unfold fX6_clearBuffer at hf
  refine lv_aload_n hx hb dX6_clearBuffer_0 rfl (lv_at hl 0 rfl) ?_
  refine g_X_buffer hx hb hown hK hW kF_RX6_34 dX6_clearBuffer_1 ?_
  refine g_BT_length hx hb hown hK hW kF_RX6_194 dX6_clearBuffer_4 ?_
  refine lv_topi (fun x1_1 ex1_1 => ?_)
  have hf := nm_use ex1_1 hf
  refine lv_istore_n (lv' := [(1, .int x1_1), (0, .ref (eA E 0))]) hx hb dX6_clearBuffer_7 rfl hl (by decide) rfl (fun ls hl => ?_)
  refine lv_aload_n hx hb dX6_clearBuffer_8 rfl (lv_at hl 1 rfl) ?_
  refine g_X_buffer hx hb hown hK hW kF_RX6_34 dX6_clearBuffer_9 ?_
  refine lv_iconst (v := 0) hx hb dX6_clearBuffer_12 (by decide) ?_
  refine p_BT_length hx hb hown hK hW kF_RX6_194 dX6_clearBuffer_13 (fun H locs hW => ?_)
  obtain ⟨s2, es2⟩ : ∃ y : Sg, y = (up2 σ 5 1 0) := ⟨_, rfl⟩
  have hf := nm_use es2 hf
  rw [← es2] at hW
  refine lv_iload_n hx hb dX6_clearBuffer_16 rfl (lv_at hl 0 rfl) ?_
  cases hf
  exact ss_iret hx hb hr hlk hW rfl dX6_clearBuffer_17
def fX5_codeTowards_b68  (x2 : Int32) (x3 : Int32) (x4 : Int32) (σ : Sg) : Option Int32 := if x3 < (x2 / 4) then (some x4) else (nm (x4 ||| 1) fun x4_2 => some x4_2)
def fX5_codeTowards_b49  (x2 : Int32) (x3 : Int32) (x4 : Int32) (σ : Sg) : Option Int32 := if x3 < (x2 / 2) then (fX5_codeTowards_b68 x2 x3 x4 σ) else (nm (x4 ||| 2) fun x4_4 => nm (x3 - (x2 / 2)) fun x3_5 => fX5_codeTowards_b68 x2 x3_5 x4_4 σ)
def fX5_codeTowards_b32  (x2 : Int32) (x3 : Int32) (k0 : Int32) (σ : Sg) : Option Int32 := if x3 < x2 then (fX5_codeTowards_b49 x2 x3 k0 σ) else (nm (k0 ||| 4) fun x4_7 => nm (x3 - x2) fun x3_8 => fX5_codeTowards_b49 x2 x3_8 x4_7 σ)
def fX5_codeTowards (i0 : Nat) (a1 : Int32) (σ : Sg) : Option Int32 := bd (fX5_stepOf (σ (82 + i0) 1)) fun r10 => nm (abI (a1 - (σ (82 + i0) 0))) fun x3_11 => if (σ (82 + i0) 0) ≤ a1 then (fX5_codeTowards_b32 r10 x3_11 0 σ) else (fX5_codeTowards_b32 r10 x3_11 8 σ)
set_option maxHeartbeats 4000000 in
set_option maxRecDepth 100000 in
theorem mX5_codeTowards (l : Launch) {E : En} {σ μ : Sg} {dg : Int64} {i0 : Nat} {a1 : Int32} (hi0 : i0 < 4) {r : Int32} (hf : fX5_codeTowards i0 a1 σ = some r) : Met l yX5_codeTowards [.code yX5_codeTowards cX5_codeTowards 5 (some .int)] (Rm 1 21) (va_Pc [.ref (eA E (82 + i0)), .int a1] (Wd E σ μ dg)) (Qi E σ μ dg r) 0 0 (eP E) := by
  refine ss_of (by decide) (Nat.le_of_ble_eq_true rfl) (fun p e s m below meth c hx hb hr hlk hml hown hK hW ls hl => ?_)
  have hown : s.vm.findClass RX5 = some m.cls := hown
  have hl : lv_has ls 5 [(0, .ref (eA E (82 + i0))), (1, .int a1)] := hl
  unfold fX5_codeTowards at hf
  have h68 : ∀ (x2 : Int32) (x3 : Int32) (x4 : Int32) (σ : Sg) (H : Heap) (locs : List Loc) (ls : Array Slot), Wk E σ μ dg s H locs → lv_has ls 5 [(2, .int x2), (3, .int x3), (4, .int x4)] → fX5_codeTowards_b68 x2 x3 x4 σ = some r → W p l e (Rm 1 21) s m [.ref (eA E (82 + i0)), .int a1].toArray below meth c H locs 0 0 (MQ below (Qi E σ μ dg r) [.ref (eA E (82 + i0)), .int a1].toArray s 0 0 (eP E)) (F0 m 68 ls []) := by
    intro x2 x3 x4 σ  H locs ls hW hl hf
    unfold fX5_codeTowards_b68 at hf
    refine lv_iload_n hx hb dX5_codeTowards_68 rfl (lv_at hl 1 rfl) ?_
    refine lv_iload_n hx hb dX5_codeTowards_69 rfl (lv_at hl 0 rfl) ?_
    refine lv_iconst (v := 4) hx hb dX5_codeTowards_70 (by decide) ?_
    refine lv_idiv hx hb dX5_codeTowards_71 (by decide) ?_
    refine lv_icmp_lt (tgt := 81) hx hb dX5_codeTowards_72 (by decide) (fun c1 => ?_) (fun c1 => ?_)
    · have hf := br_p c1 hf
      refine lv_iload hx hb dX5_codeTowards_81 (lv_at hl 2 rfl) ?_
      exact ss_iret hx hb hr hlk hW (Option.some.inj hf) dX5_codeTowards_83
    · have hf := br_n c1 hf
      refine lv_iload hx hb dX5_codeTowards_75 (lv_at hl 2 rfl) ?_
      refine lv_iconst (v := 1) hx hb dX5_codeTowards_77 (by decide) ?_
      refine lv_ior hx hb dX5_codeTowards_78 ?_
      refine lv_topi (fun x4_2 ex4_2 => ?_)
      have hf := nm_use ex4_2 hf
      refine lv_istore (lv' := [(4, .int x4_2), (2, .int x2), (3, .int x3)]) hx hb dX5_codeTowards_79 hl (by decide) rfl (fun ls hl => ?_)
      refine lv_iload hx hb dX5_codeTowards_81 (lv_at hl 0 rfl) ?_
      exact ss_iret hx hb hr hlk hW (Option.some.inj hf) dX5_codeTowards_83
  have h49 : ∀ (x2 : Int32) (x3 : Int32) (x4 : Int32) (σ : Sg) (H : Heap) (locs : List Loc) (ls : Array Slot), Wk E σ μ dg s H locs → lv_has ls 5 [(2, .int x2), (3, .int x3), (4, .int x4)] → fX5_codeTowards_b49 x2 x3 x4 σ = some r → W p l e (Rm 1 21) s m [.ref (eA E (82 + i0)), .int a1].toArray below meth c H locs 0 0 (MQ below (Qi E σ μ dg r) [.ref (eA E (82 + i0)), .int a1].toArray s 0 0 (eP E)) (F0 m 49 ls []) := by
    intro x2 x3 x4 σ  H locs ls hW hl hf
    unfold fX5_codeTowards_b49 at hf
    refine lv_iload_n hx hb dX5_codeTowards_49 rfl (lv_at hl 1 rfl) ?_
    refine lv_iload_n hx hb dX5_codeTowards_50 rfl (lv_at hl 0 rfl) ?_
    refine lv_iconst (v := 2) hx hb dX5_codeTowards_51 (by decide) ?_
    refine lv_idiv hx hb dX5_codeTowards_52 (by decide) ?_
    refine lv_icmp_lt (tgt := 68) hx hb dX5_codeTowards_53 (by decide) (fun c3 => ?_) (fun c3 => ?_)
    · have hf := br_p c3 hf
      exact h68 x2 x3 x4 σ _ _ _ hW (lv_sub hl [0, 1, 2] rfl) hf
    · have hf := br_n c3 hf
      refine lv_iload hx hb dX5_codeTowards_56 (lv_at hl 2 rfl) ?_
      refine lv_iconst (v := 2) hx hb dX5_codeTowards_58 (by decide) ?_
      refine lv_ior hx hb dX5_codeTowards_59 ?_
      refine lv_topi (fun x4_4 ex4_4 => ?_)
      have hf := nm_use ex4_4 hf
      refine lv_istore (lv' := [(4, .int x4_4), (2, .int x2), (3, .int x3)]) hx hb dX5_codeTowards_60 hl (by decide) rfl (fun ls hl => ?_)
      refine lv_iload_n hx hb dX5_codeTowards_62 rfl (lv_at hl 2 rfl) ?_
      refine lv_iload_n hx hb dX5_codeTowards_63 rfl (lv_at hl 1 rfl) ?_
      refine lv_iconst (v := 2) hx hb dX5_codeTowards_64 (by decide) ?_
      refine lv_idiv hx hb dX5_codeTowards_65 (by decide) ?_
      refine lv_isub hx hb dX5_codeTowards_66 ?_
      refine lv_topi (fun x3_5 ex3_5 => ?_)
      have hf := nm_use ex3_5 hf
      refine lv_istore_n (lv' := [(3, .int x3_5), (4, .int x4_4), (2, .int x2)]) hx hb dX5_codeTowards_67 rfl hl (by decide) rfl (fun ls hl => ?_)
      exact h68 x2 x3_5 x4_4 σ _ _ _ hW (lv_sub hl [2, 0, 1] rfl) hf
  have h32 : ∀ (x2 : Int32) (x3 : Int32) (k0 : Int32) (σ : Sg) (H : Heap) (locs : List Loc) (ls : Array Slot), Wk E σ μ dg s H locs → lv_has ls 5 [(2, .int x2), (3, .int x3)] → fX5_codeTowards_b32 x2 x3 k0 σ = some r → W p l e (Rm 1 21) s m [.ref (eA E (82 + i0)), .int a1].toArray below meth c H locs 0 0 (MQ below (Qi E σ μ dg r) [.ref (eA E (82 + i0)), .int a1].toArray s 0 0 (eP E)) (F0 m 32 ls [.int k0]) := by
    intro x2 x3 k0 σ  H locs ls hW hl hf
    unfold fX5_codeTowards_b32 at hf
    refine lv_istore (lv' := [(4, .int k0), (2, .int x2), (3, .int x3)]) hx hb dX5_codeTowards_32 hl (by decide) rfl (fun ls hl => ?_)
    refine lv_iload_n hx hb dX5_codeTowards_34 rfl (lv_at hl 2 rfl) ?_
    refine lv_iload_n hx hb dX5_codeTowards_35 rfl (lv_at hl 1 rfl) ?_
    refine lv_icmp_lt (tgt := 49) hx hb dX5_codeTowards_36 (by decide) (fun c6 => ?_) (fun c6 => ?_)
    · have hf := br_p c6 hf
      exact h49 x2 x3 k0 σ _ _ _ hW (lv_sub hl [1, 2, 0] rfl) hf
    · have hf := br_n c6 hf
      refine lv_iload hx hb dX5_codeTowards_39 (lv_at hl 0 rfl) ?_
      refine lv_iconst (v := 4) hx hb dX5_codeTowards_41 (by decide) ?_
      refine lv_ior hx hb dX5_codeTowards_42 ?_
      refine lv_topi (fun x4_7 ex4_7 => ?_)
      have hf := nm_use ex4_7 hf
      refine lv_istore (lv' := [(4, .int x4_7), (2, .int x2), (3, .int x3)]) hx hb dX5_codeTowards_43 hl (by decide) rfl (fun ls hl => ?_)
      refine lv_iload_n hx hb dX5_codeTowards_45 rfl (lv_at hl 2 rfl) ?_
      refine lv_iload_n hx hb dX5_codeTowards_46 rfl (lv_at hl 1 rfl) ?_
      refine lv_isub hx hb dX5_codeTowards_47 ?_
      refine lv_topi (fun x3_8 ex3_8 => ?_)
      have hf := nm_use ex3_8 hf
      refine lv_istore_n (lv' := [(3, .int x3_8), (4, .int x4_7), (2, .int x2)]) hx hb dX5_codeTowards_48 rfl hl (by decide) rfl (fun ls hl => ?_)
      exact h49 x2 x3_8 x4_7 σ _ _ _ hW (lv_sub hl [2, 0, 1] rfl) hf
  refine lv_aload_n hx hb dX5_codeTowards_0 rfl (lv_at hl 0 rfl) ?_
  refine g_Walk_number (i := i0) hx hb hown hK hW (by omega) kF_RX5_19 dX5_codeTowards_1 ?_
  obtain ⟨r10, q9, hf⟩ := bd_inv hf
  refine ss_callSi (As := [.int (σ (82 + i0) 1)]) hx hb hml hown hK hW kb_X5_stepOf kM_RX5_22 (mX5_stepOf l (a0 := (σ (82 + i0) 1)) q9) rfl dX5_codeTowards_4 rfl hl.1 (Nat.le_of_ble_eq_true rfl) ⟨Nat.le_of_ble_eq_true rfl, Nat.le_of_ble_eq_true rfl⟩ ⟨Nat.zero_le _, Nat.zero_le _⟩ (fun H locs hW => ?_)
  refine lv_istore_n (lv' := [(2, .int r10), (0, .ref (eA E (82 + i0))), (1, .int a1)]) hx hb dX5_codeTowards_7 rfl hl (by decide) rfl (fun ls hl => ?_)
  refine lv_iload_n hx hb dX5_codeTowards_8 rfl (lv_at hl 2 rfl) ?_
  refine lv_aload_n hx hb dX5_codeTowards_9 rfl (lv_at hl 1 rfl) ?_
  refine g_Walk_guess (i := i0) hx hb hown hK hW (by omega) kF_RX5_15 dX5_codeTowards_10 ?_
  refine lv_isub hx hb dX5_codeTowards_13 ?_
  refine ss_abs hx hb hml hl.1 hown hK kM_RX5_26 kMs_abs kMi kMc_abs ⟨Nat.le_of_ble_eq_true rfl, Nat.le_of_ble_eq_true rfl⟩ ⟨Nat.zero_le _, Nat.zero_le _⟩ dX5_codeTowards_14 ?_
  show W p l e _ s m _ below meth c _ _ 0 0 _ (F0 m 17 ls ([.int (abI (a1 - (σ (82 + i0) 0)))]))
  refine lv_topi (fun x3_11 ex3_11 => ?_)
  have hf := nm_use ex3_11 hf
  refine lv_istore_n (lv' := [(3, .int x3_11), (2, .int r10), (0, .ref (eA E (82 + i0))), (1, .int a1)]) hx hb dX5_codeTowards_17 rfl hl (by decide) rfl (fun ls hl => ?_)
  refine lv_iload_n hx hb dX5_codeTowards_18 rfl (lv_at hl 3 rfl) ?_
  refine lv_aload_n hx hb dX5_codeTowards_19 rfl (lv_at hl 2 rfl) ?_
  refine g_Walk_guess (i := i0) hx hb hown hK hW (by omega) kF_RX5_15 dX5_codeTowards_20 ?_
  refine lv_icmp_ge (tgt := 31) hx hb dX5_codeTowards_23 (by decide) (fun c12 => ?_) (fun c12 => ?_)
  · have hf := br_p c12 hf
    refine lv_iconst (v := 0) hx hb dX5_codeTowards_31 (by decide) ?_
    exact h32 r10 x3_11 0 σ _ _ _ hW (lv_sub hl [1, 0] rfl) hf
  · have hf := br_n c12 hf
    refine lv_bipush (v := 8) hx hb dX5_codeTowards_26 (by decide) ?_
    refine lv_goto (tgt := 32) hx hb dX5_codeTowards_28 (by decide) ?_
    exact h32 r10 x3_11 8 σ _ _ _ hW (lv_sub hl [1, 0] rfl) hf
def fX1_errorAsBlock_L23 (i1 : Nat) (a3 : Int32) (n : Nat) (x5 : Int32) (x6 : Int32) (σ : Sg) : Option (Int32 × Sg) := match n with
  | 0 => none
  | n + 1 => if a3 ≤ x6 then (some (x5, σ)) else (gd (¬ (x6 < 0 ∨ 64 ≤ (x6).toNatClampNeg)) <| bd (fX5_codeTowards 0 (σ (10 + 8 * i1 + 1) (x6).toNatClampNeg) σ) fun r4 => bd (fX5_follow 0 r4 σ) fun s6 => gd (¬ (x6 < 0 ∨ 64 ≤ (x6).toNatClampNeg)) <| nm ((s6 (10 + 8 * i1 + 1) (x6).toNatClampNeg) - (s6 (82 + 0) 0)) fun x7_8 => nm (x5 + (x7_8 * x7_8)) fun x5_9 => nm (x6 + 1) fun x6_10 => (fun x5 x6 σ => fX1_errorAsBlock_L23 i1 a3 n x5 x6 σ) x5_9 x6_10 s6)
def fX1_errorAsBlock (i1 : Nat) (a2 : Int32) (a3 : Int32) (a4 : Int32) (σ : Sg) : Option (Int32 × Sg) := gd (¬ (a2 < 0 ∨ 64 ≤ (a2).toNatClampNeg)) <| bd (fX5_begin 0 (σ (10 + 8 * i1 + 1) (a2).toNatClampNeg) a4 σ) fun s13 => nm (a2 + 1) fun x6_14 => fX1_errorAsBlock_L23 i1 a3 80 0 x6_14 s13
set_option maxHeartbeats 4000000 in
set_option maxRecDepth 100000 in
theorem mX1_errorAsBlock (l : Launch) {E : En} {σ μ : Sg} {dg : Int64} {i1 : Nat} {a2 : Int32} {a3 : Int32} {a4 : Int32} (hi1 : i1 < 9) {r : Int32} {σ' : Sg} (hf : fX1_errorAsBlock i1 a2 a3 a4 σ = some (r, σ')) : Met l yX1_errorAsBlock [.code yX1_errorAsBlock cX1_errorAsBlock 8 (some .int)] (Rm 3 65) (va_Pc [.ref (eA E 8), .ref (eA E (10 + 8 * i1)), .int a2, .int a3, .int a4] (Wd E σ μ dg)) (Qi E σ' μ dg r) 0 0 (eP E) := by
  refine ss_of (by decide) (Nat.le_of_ble_eq_true rfl) (fun p e s m below meth c hx hb hr hlk hml hown hK hW ls hl => ?_)
  have hown : s.vm.findClass RX1 = some m.cls := hown
  have hl : lv_has ls 8 [(0, .ref (eA E 8)), (1, .ref (eA E (10 + 8 * i1))), (2, .int a2), (3, .int a3), (4, .int a4)] := hl
  unfold fX1_errorAsBlock at hf
  have h23 : ∀ (n23 : Nat) (x5 : Int32) (x6 : Int32) (σ : Sg) (H : Heap) (locs : List Loc) (ls : Array Slot), Wk E σ μ dg s H locs → lv_has ls 8 [(0, .ref (eA E 8)), (1, .ref (eA E (10 + 8 * i1))), (3, .int a3), (5, .int x5), (6, .int x6)] → fX1_errorAsBlock_L23 i1 a3 n23 x5 x6 σ = some (r, σ') → W p l e (Rm 3 65) s m [.ref (eA E 8), .ref (eA E (10 + 8 * i1)), .int a2, .int a3, .int a4].toArray below meth c H locs 0 0 (MQ below (Qi E σ' μ dg r) [.ref (eA E 8), .ref (eA E (10 + 8 * i1)), .int a2, .int a3, .int a4].toArray s 0 0 (eP E)) (F0 m 23 ls []) := by
    intro n23
    induction n23 with
    | zero =>
      intro x5 x6 σ  H locs ls hW hl hf
      exact absurd hf (by simp [fX1_errorAsBlock_L23])
    | succ n23 ih23 =>
      intro x5 x6 σ  H locs ls hW hl hf
      rw [fX1_errorAsBlock_L23] at hf
      refine lv_iload hx hb dX1_errorAsBlock_23 (lv_at hl 4 rfl) ?_
      refine lv_iload_n hx hb dX1_errorAsBlock_25 rfl (lv_at hl 2 rfl) ?_
      refine lv_icmp_ge (tgt := 83) hx hb dX1_errorAsBlock_26 (by decide) (fun c1 => ?_) (fun c1 => ?_)
      · have hf := br_p c1 hf
        refine lv_iload hx hb dX1_errorAsBlock_83 (lv_at hl 3 rfl) ?_
        cases hf
        exact ss_iret hx hb hr hlk hW rfl dX1_errorAsBlock_85
      · have hf := br_n c1 hf
        refine lv_aload_n hx hb dX1_errorAsBlock_29 rfl (lv_at hl 0 rfl) ?_
        refine g_Coder_walk hx hb hown hK hW kF_RX1_12 dX1_errorAsBlock_30 ?_
        refine lv_aload_n hx hb dX1_errorAsBlock_33 rfl (lv_at hl 0 rfl) ?_
        refine g_Coder_walk hx hb hown hK hW kF_RX1_12 dX1_errorAsBlock_34 ?_
        refine lv_aload_n hx hb dX1_errorAsBlock_37 rfl (lv_at hl 1 rfl) ?_
        refine g_State_values (i := i1) hx hb hown hK hW (by omega) kF_RX1_52 dX1_errorAsBlock_38 ?_
        refine lv_iload hx hb dX1_errorAsBlock_41 (lv_at hl 4 rfl) ?_
        obtain ⟨hk2, hf⟩ := gd_inv hf
        refine l_St1 (i := i1) hx hb hK hW (by omega) rfl hk2 dX1_errorAsBlock_43 ?_
        obtain ⟨r4, q3, hf⟩ := bd_inv hf
        refine ss_callVi (As := [.int (σ (10 + 8 * i1 + 1) (x6).toNatClampNeg)]) hx hb hml hown hK hW kb_X5_codeTowards kM_RX1_75 rfl (okq_lt (by omega)) (c_wk (w := 0) (by omega)) (mX5_codeTowards l (i0 := 0) (a1 := (σ (10 + 8 * i1 + 1) (x6).toNatClampNeg)) (by omega) q3) rfl dX1_errorAsBlock_44 rfl hl.1 (Nat.le_of_ble_eq_true rfl) ⟨Nat.le_of_ble_eq_true rfl, Nat.le_of_ble_eq_true rfl⟩ ⟨Nat.zero_le _, Nat.zero_le _⟩ (fun H locs hW => ?_)
        obtain ⟨s6, q5, hf⟩ := bd_inv hf
        refine ss_callVv (As := [.int r4]) hx hb hml hown hK hW kb_X5_follow kM_RX1_78 rfl (okq_lt (by omega)) (c_wk (w := 0) (by omega)) (mX5_follow l (i0 := 0) (a1 := r4) (by omega) q5) rfl dX1_errorAsBlock_47 rfl hl.1 (Nat.le_of_ble_eq_true rfl) ⟨Nat.le_of_ble_eq_true rfl, Nat.le_of_ble_eq_true rfl⟩ ⟨Nat.zero_le _, Nat.zero_le _⟩ (fun H locs hW => ?_)
        refine lv_aload_n hx hb dX1_errorAsBlock_50 rfl (lv_at hl 1 rfl) ?_
        refine g_State_values (i := i1) hx hb hown hK hW (by omega) kF_RX1_52 dX1_errorAsBlock_51 ?_
        refine lv_iload hx hb dX1_errorAsBlock_54 (lv_at hl 4 rfl) ?_
        obtain ⟨hk7, hf⟩ := gd_inv hf
        refine l_St1 (i := i1) hx hb hK hW (by omega) rfl hk7 dX1_errorAsBlock_56 ?_
        refine lv_aload_n hx hb dX1_errorAsBlock_57 rfl (lv_at hl 0 rfl) ?_
        refine g_Coder_walk hx hb hown hK hW kF_RX1_12 dX1_errorAsBlock_58 ?_
        refine g_Walk_guess (i := 0) hx hb hown hK hW (by omega) kF_RX1_82 dX1_errorAsBlock_61 ?_
        refine lv_isub hx hb dX1_errorAsBlock_64 ?_
        refine lv_topi (fun x7_8 ex7_8 => ?_)
        have hf := nm_use ex7_8 hf
        refine lv_istore (lv' := [(7, .int x7_8), (0, .ref (eA E 8)), (1, .ref (eA E (10 + 8 * i1))), (3, .int a3), (5, .int x5), (6, .int x6)]) hx hb dX1_errorAsBlock_65 hl (by decide) rfl (fun ls hl => ?_)
        refine lv_iload hx hb dX1_errorAsBlock_67 (lv_at hl 4 rfl) ?_
        refine lv_iload hx hb dX1_errorAsBlock_69 (lv_at hl 0 rfl) ?_
        refine lv_iload hx hb dX1_errorAsBlock_71 (lv_at hl 0 rfl) ?_
        refine lv_imul hx hb dX1_errorAsBlock_73 ?_
        refine lv_iadd hx hb dX1_errorAsBlock_74 ?_
        refine lv_topi (fun x5_9 ex5_9 => ?_)
        have hf := nm_use ex5_9 hf
        refine lv_istore (lv' := [(5, .int x5_9), (7, .int x7_8), (0, .ref (eA E 8)), (1, .ref (eA E (10 + 8 * i1))), (3, .int a3), (6, .int x6)]) hx hb dX1_errorAsBlock_75 hl (by decide) rfl (fun ls hl => ?_)
        obtain ⟨x6_10, ex6_10⟩ : ∃ y : Int32, y = (x6 + 1) := ⟨_, rfl⟩
        have hf := nm_use ex6_10 hf
        refine lv_iinc (v := x6_10) (lv' := [(6, .int x6_10), (5, .int x5_9), (7, .int x7_8), (0, .ref (eA E 8)), (1, .ref (eA E (10 + 8 * i1))), (3, .int a3)]) hx hb dX1_errorAsBlock_77 hl (k := 5) rfl (by rw [ex6_10]; rfl) (by decide) rfl (fun ls hl => ?_)
        refine lv_goto (tgt := 23) hx hb dX1_errorAsBlock_80 (by decide) ?_
        exact ih23 x5_9 x6_10 s6 _ _ _ hW (lv_sub hl [3, 4, 5, 1, 0] rfl) hf
  refine lv_iconst (v := 0) hx hb dX1_errorAsBlock_0 (by decide) ?_
  refine lv_istore (lv' := [(5, .int 0), (0, .ref (eA E 8)), (1, .ref (eA E (10 + 8 * i1))), (2, .int a2), (3, .int a3), (4, .int a4)]) hx hb dX1_errorAsBlock_1 hl (by decide) rfl (fun ls hl => ?_)
  refine lv_aload_n hx hb dX1_errorAsBlock_3 rfl (lv_at hl 1 rfl) ?_
  refine g_Coder_walk hx hb hown hK hW kF_RX1_12 dX1_errorAsBlock_4 ?_
  refine lv_aload_n hx hb dX1_errorAsBlock_7 rfl (lv_at hl 2 rfl) ?_
  refine g_State_values (i := i1) hx hb hown hK hW (by omega) kF_RX1_52 dX1_errorAsBlock_8 ?_
  refine lv_iload_n hx hb dX1_errorAsBlock_11 rfl (lv_at hl 3 rfl) ?_
  obtain ⟨hk11, hf⟩ := gd_inv hf
  refine l_St1 (i := i1) hx hb hK hW (by omega) rfl hk11 dX1_errorAsBlock_12 ?_
  refine lv_iload hx hb dX1_errorAsBlock_13 (lv_at hl 5 rfl) ?_
  obtain ⟨s13, q12, hf⟩ := bd_inv hf
  refine ss_callVv (As := [.int (σ (10 + 8 * i1 + 1) (a2).toNatClampNeg), .int a4]) hx hb hml hown hK hW kb_X5_begin kM_RX1_71 rfl (okq_lt (by omega)) (c_wk (w := 0) (by omega)) (mX5_begin l (i0 := 0) (a1 := (σ (10 + 8 * i1 + 1) (a2).toNatClampNeg)) (a2 := a4) (by omega) q12) rfl dX1_errorAsBlock_15 rfl hl.1 (Nat.le_of_ble_eq_true rfl) ⟨Nat.le_of_ble_eq_true rfl, Nat.le_of_ble_eq_true rfl⟩ ⟨Nat.zero_le _, Nat.zero_le _⟩ (fun H locs hW => ?_)
  refine lv_iload_n hx hb dX1_errorAsBlock_18 rfl (lv_at hl 3 rfl) ?_
  refine lv_iconst (v := 1) hx hb dX1_errorAsBlock_19 (by decide) ?_
  refine lv_iadd hx hb dX1_errorAsBlock_20 ?_
  refine lv_topi (fun x6_14 ex6_14 => ?_)
  have hf := nm_use ex6_14 hf
  refine lv_istore (lv' := [(6, .int x6_14), (5, .int 0), (0, .ref (eA E 8)), (1, .ref (eA E (10 + 8 * i1))), (2, .int a2), (3, .int a3), (4, .int a4)]) hx hb dX1_errorAsBlock_21 hl (by decide) rfl (fun ls hl => ?_)
  exact h23 80 0 x6_14 s13 _ _ _ hW (lv_sub hl [2, 3, 5, 1, 0] rfl) hf
def fX1_bestStart_L16 (i1 : Nat) (a2 : Int32) (a3 : Int32) (n : Nat) (x4 : Int32) (x5 : Int32) (x6 : Int32) (σ : Sg) : Option (Int32 × Sg) := match n with
  | 0 => none
  | n + 1 => if 48 < x6 then (some (x4, σ)) else (bd2 (fX1_errorAsBlock i1 a2 a3 x6 σ) fun r3 s4 => if x5 ≤ r3 then (nm (x6 + 1) fun x6_6 => (fun x4 x5 x6 σ => fX1_bestStart_L16 i1 a2 a3 n x4 x5 x6 σ) x4 x5 x6_6 s4) else (nm (x6 + 1) fun x6_7 => (fun x4 x5 x6 σ => fX1_bestStart_L16 i1 a2 a3 n x4 x5 x6 σ) x6 r3 x6_7 s4))
def fX1_bestStart (i1 : Nat) (a2 : Int32) (a3 : Int32) (σ : Sg) : Option (Int32 × Sg) := bd2 (fX1_errorAsBlock i1 a2 a3 0 σ) fun r9 s10 => fX1_bestStart_L16 i1 a2 a3 80 0 r9 1 s10
set_option maxHeartbeats 4000000 in
set_option maxRecDepth 100000 in
theorem mX1_bestStart (l : Launch) {E : En} {σ μ : Sg} {dg : Int64} {i1 : Nat} {a2 : Int32} {a3 : Int32} (hi1 : i1 < 9) {r : Int32} {σ' : Sg} (hf : fX1_bestStart i1 a2 a3 σ = some (r, σ')) : Met l yX1_bestStart [.code yX1_bestStart cX1_bestStart 8 (some .int)] (Rm 4 92) (va_Pc [.ref (eA E 8), .ref (eA E (10 + 8 * i1)), .int a2, .int a3] (Wd E σ μ dg)) (Qi E σ' μ dg r) 0 0 (eP E) := by
  refine ss_of (by decide) (Nat.le_of_ble_eq_true rfl) (fun p e s m below meth c hx hb hr hlk hml hown hK hW ls hl => ?_)
  have hown : s.vm.findClass RX1 = some m.cls := hown
  have hl : lv_has ls 8 [(0, .ref (eA E 8)), (1, .ref (eA E (10 + 8 * i1))), (2, .int a2), (3, .int a3)] := hl
  unfold fX1_bestStart at hf
  have h16 : ∀ (n16 : Nat) (x4 : Int32) (x5 : Int32) (x6 : Int32) (σ : Sg) (H : Heap) (locs : List Loc) (ls : Array Slot), Wk E σ μ dg s H locs → lv_has ls 8 [(0, .ref (eA E 8)), (1, .ref (eA E (10 + 8 * i1))), (2, .int a2), (3, .int a3), (4, .int x4), (5, .int x5), (6, .int x6)] → fX1_bestStart_L16 i1 a2 a3 n16 x4 x5 x6 σ = some (r, σ') → W p l e (Rm 4 92) s m [.ref (eA E 8), .ref (eA E (10 + 8 * i1)), .int a2, .int a3].toArray below meth c H locs 0 0 (MQ below (Qi E σ' μ dg r) [.ref (eA E 8), .ref (eA E (10 + 8 * i1)), .int a2, .int a3].toArray s 0 0 (eP E)) (F0 m 16 ls []) := by
    intro n16
    induction n16 with
    | zero =>
      intro x4 x5 x6 σ  H locs ls hW hl hf
      exact absurd hf (by simp [fX1_bestStart_L16])
    | succ n16 ih16 =>
      intro x4 x5 x6 σ  H locs ls hW hl hf
      rw [fX1_bestStart_L16] at hf
      refine lv_iload hx hb dX1_bestStart_16 (lv_at hl 6 rfl) ?_
      refine lv_bipush (v := 48) hx hb dX1_bestStart_18 (by decide) ?_
      refine lv_icmp_gt (tgt := 55) hx hb dX1_bestStart_20 (by decide) (fun c1 => ?_) (fun c1 => ?_)
      · have hf := br_p c1 hf
        refine lv_iload hx hb dX1_bestStart_55 (lv_at hl 4 rfl) ?_
        cases hf
        exact ss_iret hx hb hr hlk hW rfl dX1_bestStart_57
      · have hf := br_n c1 hf
        refine lv_aload_n hx hb dX1_bestStart_23 rfl (lv_at hl 0 rfl) ?_
        refine lv_aload_n hx hb dX1_bestStart_24 rfl (lv_at hl 1 rfl) ?_
        refine lv_iload_n hx hb dX1_bestStart_25 rfl (lv_at hl 2 rfl) ?_
        refine lv_iload_n hx hb dX1_bestStart_26 rfl (lv_at hl 3 rfl) ?_
        refine lv_iload hx hb dX1_bestStart_27 (lv_at hl 6 rfl) ?_
        obtain ⟨r3, s4, q2, hf⟩ := bd2_inv hf
        refine ss_callVi (As := [.ref (eA E (10 + 8 * i1)), .int a2, .int a3, .int x6]) hx hb hml hown hK hW kb_X1_errorAsBlock kM_RX1_85 rfl (okq_lt (by decide)) (c_fx (by decide)) (mX1_errorAsBlock l (i1 := i1) (a2 := a2) (a3 := a3) (a4 := x6) (by omega) q2) rfl dX1_bestStart_29 rfl hl.1 (Nat.le_of_ble_eq_true rfl) ⟨Nat.le_of_ble_eq_true rfl, Nat.le_of_ble_eq_true rfl⟩ ⟨Nat.zero_le _, Nat.zero_le _⟩ (fun H locs hW => ?_)
        refine lv_istore (lv' := [(7, .int r3), (0, .ref (eA E 8)), (1, .ref (eA E (10 + 8 * i1))), (2, .int a2), (3, .int a3), (4, .int x4), (5, .int x5), (6, .int x6)]) hx hb dX1_bestStart_32 hl (by decide) rfl (fun ls hl => ?_)
        refine lv_iload hx hb dX1_bestStart_34 (lv_at hl 0 rfl) ?_
        refine lv_iload hx hb dX1_bestStart_36 (lv_at hl 6 rfl) ?_
        refine lv_icmp_ge (tgt := 49) hx hb dX1_bestStart_38 (by decide) (fun c5 => ?_) (fun c5 => ?_)
        · have hf := br_p c5 hf
          obtain ⟨x6_6, ex6_6⟩ : ∃ y : Int32, y = (x6 + 1) := ⟨_, rfl⟩
          have hf := nm_use ex6_6 hf
          refine lv_iinc (v := x6_6) (lv' := [(6, .int x6_6), (7, .int r3), (0, .ref (eA E 8)), (1, .ref (eA E (10 + 8 * i1))), (2, .int a2), (3, .int a3), (4, .int x4), (5, .int x5)]) hx hb dX1_bestStart_49 hl (k := 7) rfl (by rw [ex6_6]; rfl) (by decide) rfl (fun ls hl => ?_)
          refine lv_goto (tgt := 16) hx hb dX1_bestStart_52 (by decide) ?_
          exact ih16 x4 x5 x6_6 s4 _ _ _ hW (lv_sub hl [2, 3, 4, 5, 6, 7, 0] rfl) hf
        · have hf := br_n c5 hf
          refine lv_iload hx hb dX1_bestStart_41 (lv_at hl 0 rfl) ?_
          refine lv_istore (lv' := [(5, .int r3), (7, .int r3), (0, .ref (eA E 8)), (1, .ref (eA E (10 + 8 * i1))), (2, .int a2), (3, .int a3), (4, .int x4), (6, .int x6)]) hx hb dX1_bestStart_43 hl (by decide) rfl (fun ls hl => ?_)
          refine lv_iload hx hb dX1_bestStart_45 (lv_at hl 7 rfl) ?_
          refine lv_istore (lv' := [(4, .int x6), (5, .int r3), (7, .int r3), (0, .ref (eA E 8)), (1, .ref (eA E (10 + 8 * i1))), (2, .int a2), (3, .int a3), (6, .int x6)]) hx hb dX1_bestStart_47 hl (by decide) rfl (fun ls hl => ?_)
          obtain ⟨x6_7, ex6_7⟩ : ∃ y : Int32, y = (x6 + 1) := ⟨_, rfl⟩
          have hf := nm_use ex6_7 hf
          refine lv_iinc (v := x6_7) (lv' := [(6, .int x6_7), (4, .int x6), (5, .int r3), (7, .int r3), (0, .ref (eA E 8)), (1, .ref (eA E (10 + 8 * i1))), (2, .int a2), (3, .int a3)]) hx hb dX1_bestStart_49 hl (k := 7) rfl (by rw [ex6_7]; rfl) (by decide) rfl (fun ls hl => ?_)
          refine lv_goto (tgt := 16) hx hb dX1_bestStart_52 (by decide) ?_
          exact ih16 x6 r3 x6_7 s4 _ _ _ hW (lv_sub hl [4, 5, 6, 7, 1, 2, 0] rfl) hf
  refine lv_iconst (v := 0) hx hb dX1_bestStart_0 (by decide) ?_
  refine lv_istore (lv' := [(4, .int 0), (0, .ref (eA E 8)), (1, .ref (eA E (10 + 8 * i1))), (2, .int a2), (3, .int a3)]) hx hb dX1_bestStart_1 hl (by decide) rfl (fun ls hl => ?_)
  refine lv_aload_n hx hb dX1_bestStart_3 rfl (lv_at hl 1 rfl) ?_
  refine lv_aload_n hx hb dX1_bestStart_4 rfl (lv_at hl 2 rfl) ?_
  refine lv_iload_n hx hb dX1_bestStart_5 rfl (lv_at hl 3 rfl) ?_
  refine lv_iload_n hx hb dX1_bestStart_6 rfl (lv_at hl 4 rfl) ?_
  refine lv_iconst (v := 0) hx hb dX1_bestStart_7 (by decide) ?_
  obtain ⟨r9, s10, q8, hf⟩ := bd2_inv hf
  refine ss_callVi (As := [.ref (eA E (10 + 8 * i1)), .int a2, .int a3, .int 0]) hx hb hml hown hK hW kb_X1_errorAsBlock kM_RX1_85 rfl (okq_lt (by decide)) (c_fx (by decide)) (mX1_errorAsBlock l (i1 := i1) (a2 := a2) (a3 := a3) (a4 := 0) (by omega) q8) rfl dX1_bestStart_8 rfl hl.1 (Nat.le_of_ble_eq_true rfl) ⟨Nat.le_of_ble_eq_true rfl, Nat.le_of_ble_eq_true rfl⟩ ⟨Nat.zero_le _, Nat.zero_le _⟩ (fun H locs hW => ?_)
  refine lv_istore (lv' := [(5, .int r9), (4, .int 0), (0, .ref (eA E 8)), (1, .ref (eA E (10 + 8 * i1))), (2, .int a2), (3, .int a3)]) hx hb dX1_bestStart_11 hl (by decide) rfl (fun ls hl => ?_)
  refine lv_iconst (v := 1) hx hb dX1_bestStart_13 (by decide) ?_
  refine lv_istore (lv' := [(6, .int 1), (5, .int r9), (4, .int 0), (0, .ref (eA E 8)), (1, .ref (eA E (10 + 8 * i1))), (2, .int a2), (3, .int a3)]) hx hb dX1_bestStart_14 hl (by decide) rfl (fun ls hl => ?_)
  exact h16 80 0 r9 1 s10 _ _ _ hW (lv_sub hl [3, 4, 5, 6, 2, 1, 0] rfl) hf
def fX1_codeBlock_L71 (i1 : Nat) (a2 : Int32) (n : Nat) (x6 : Int32) (σ : Sg) : Option Sg := match n with
  | 0 => none
  | n + 1 => bd (fX4_endOf i1 a2 σ) fun r2 => if r2 ≤ x6 then (some σ) else (gd (¬ (x6 < 0 ∨ 64 ≤ (x6).toNatClampNeg)) <| bd (fX5_codeTowards 0 (σ (10 + 8 * i1 + 1) (x6).toNatClampNeg) σ) fun r6 => bd (fX5_follow 0 r6 σ) fun s8 => gd (¬ (x6 < 0 ∨ 64 ≤ (x6).toNatClampNeg)) <| nm (up2 s8 (10 + 8 * i1 + 6) ((x6).toNatClampNeg) r6) fun s10 => gd (¬ (x6 < 0 ∨ 64 ≤ (x6).toNatClampNeg)) <| nm (up2 s10 (10 + 8 * i1 + 7) ((x6).toNatClampNeg) (s10 (82 + 0) 0)) fun s12 => nm (x6 + 1) fun x6_13 => (fun x6 σ => fX1_codeBlock_L71 i1 a2 n x6 σ) x6_13 s12)
def fX1_codeBlock (i1 : Nat) (a2 : Int32) (a3 : Int32) (σ : Sg) : Option Sg := bd (fX4_startOf i1 a2 σ) fun r15 => gd (¬ (r15 < 0 ∨ 64 ≤ (r15).toNatClampNeg)) <| nm (σ (10 + 8 * i1 + 1) (r15).toNatClampNeg) fun x5_17 => gd (¬ (a2 < 0 ∨ 32 ≤ (a2).toNatClampNeg)) <| nm (up2 σ (10 + 8 * i1 + 3) ((a2).toNatClampNeg) x5_17) fun s19 => gd (¬ (a2 < 0 ∨ 32 ≤ (a2).toNatClampNeg)) <| nm (up2 s19 (10 + 8 * i1 + 4) ((a2).toNatClampNeg) a3) fun s21 => gd (¬ (a2 < 0 ∨ 32 ≤ (a2).toNatClampNeg)) <| nm (up2 s21 (10 + 8 * i1 + 5) ((a2).toNatClampNeg) 0) fun s23 => gd (¬ (r15 < 0 ∨ 64 ≤ (r15).toNatClampNeg)) <| nm (up2 s23 (10 + 8 * i1 + 6) ((r15).toNatClampNeg) (-1)) fun s25 => gd (¬ (r15 < 0 ∨ 64 ≤ (r15).toNatClampNeg)) <| nm (up2 s25 (10 + 8 * i1 + 7) ((r15).toNatClampNeg) x5_17) fun s27 => bd (fX5_begin 0 x5_17 a3 s27) fun s29 => nm (r15 + 1) fun x6_30 => fX1_codeBlock_L71 i1 a2 80 x6_30 s29
set_option maxHeartbeats 4000000 in
set_option maxRecDepth 100000 in
theorem mX1_codeBlock (l : Launch) {E : En} {σ μ : Sg} {dg : Int64} {i1 : Nat} {a2 : Int32} {a3 : Int32} (hi1 : i1 < 9) {σ' : Sg} (hf : fX1_codeBlock i1 a2 a3 σ = some σ') : Met l yX1_codeBlock [.code yX1_codeBlock cX1_codeBlock 8 none] (Rm 3 65) (va_Pc [.ref (eA E 8), .ref (eA E (10 + 8 * i1)), .int a2, .int a3] (Wd E σ μ dg)) (Qv E σ' μ dg) 0 0 (eP E) := by
  refine ss_of (by decide) (Nat.le_of_ble_eq_true rfl) (fun p e s m below meth c hx hb hr hlk hml hown hK hW ls hl => ?_)
  have hown : s.vm.findClass RX1 = some m.cls := hown
  have hl : lv_has ls 8 [(0, .ref (eA E 8)), (1, .ref (eA E (10 + 8 * i1))), (2, .int a2), (3, .int a3)] := hl
  unfold fX1_codeBlock at hf
  have h71 : ∀ (n71 : Nat) (x6 : Int32) (σ : Sg) (H : Heap) (locs : List Loc) (ls : Array Slot), Wk E σ μ dg s H locs → lv_has ls 8 [(0, .ref (eA E 8)), (1, .ref (eA E (10 + 8 * i1))), (2, .int a2), (6, .int x6)] → fX1_codeBlock_L71 i1 a2 n71 x6 σ = some σ' → W p l e (Rm 3 65) s m [.ref (eA E 8), .ref (eA E (10 + 8 * i1)), .int a2, .int a3].toArray below meth c H locs 0 0 (MQ below (Qv E σ' μ dg) [.ref (eA E 8), .ref (eA E (10 + 8 * i1)), .int a2, .int a3].toArray s 0 0 (eP E)) (F0 m 71 ls []) := by
    intro n71
    induction n71 with
    | zero =>
      intro x6 σ  H locs ls hW hl hf
      exact absurd hf (by simp [fX1_codeBlock_L71])
    | succ n71 ih71 =>
      intro x6 σ  H locs ls hW hl hf
      rw [fX1_codeBlock_L71] at hf
      refine lv_iload hx hb dX1_codeBlock_71 (lv_at hl 3 rfl) ?_
      refine lv_aload_n hx hb dX1_codeBlock_73 rfl (lv_at hl 1 rfl) ?_
      refine lv_iload_n hx hb dX1_codeBlock_74 rfl (lv_at hl 2 rfl) ?_
      obtain ⟨r2, q1, hf⟩ := bd_inv hf
      refine ss_callVi (As := [.int a2]) hx hb hml hown hK hW kb_X4_endOf kM_RX1_32 rfl (okq_lt (by omega)) (c_st (i := i1) (by omega) 0 (by decide)) (mX4_endOf l (i0 := i1) (a1 := a2) (by omega) q1) rfl dX1_codeBlock_75 rfl hl.1 (Nat.le_of_ble_eq_true rfl) ⟨Nat.le_of_ble_eq_true rfl, Nat.le_of_ble_eq_true rfl⟩ ⟨Nat.zero_le _, Nat.zero_le _⟩ (fun H locs hW => ?_)
      refine lv_icmp_ge (tgt := 135) hx hb dX1_codeBlock_78 (by decide) (fun c3 => ?_) (fun c3 => ?_)
      · have hf := br_p c3 hf
        cases hf
        exact ss_vret hx hb hr hlk hW dX1_codeBlock_135
      · have hf := br_n c3 hf
        refine lv_aload_n hx hb dX1_codeBlock_81 rfl (lv_at hl 0 rfl) ?_
        refine g_Coder_walk hx hb hown hK hW kF_RX1_12 dX1_codeBlock_82 ?_
        refine lv_aload_n hx hb dX1_codeBlock_85 rfl (lv_at hl 1 rfl) ?_
        refine g_State_values (i := i1) hx hb hown hK hW (by omega) kF_RX1_52 dX1_codeBlock_86 ?_
        refine lv_iload hx hb dX1_codeBlock_89 (lv_at hl 3 rfl) ?_
        obtain ⟨hk4, hf⟩ := gd_inv hf
        refine l_St1 (i := i1) hx hb hK hW (by omega) rfl hk4 dX1_codeBlock_91 ?_
        obtain ⟨r6, q5, hf⟩ := bd_inv hf
        refine ss_callVi (As := [.int (σ (10 + 8 * i1 + 1) (x6).toNatClampNeg)]) hx hb hml hown hK hW kb_X5_codeTowards kM_RX1_75 rfl (okq_lt (by omega)) (c_wk (w := 0) (by omega)) (mX5_codeTowards l (i0 := 0) (a1 := (σ (10 + 8 * i1 + 1) (x6).toNatClampNeg)) (by omega) q5) rfl dX1_codeBlock_92 rfl hl.1 (Nat.le_of_ble_eq_true rfl) ⟨Nat.le_of_ble_eq_true rfl, Nat.le_of_ble_eq_true rfl⟩ ⟨Nat.zero_le _, Nat.zero_le _⟩ (fun H locs hW => ?_)
        refine lv_istore (lv' := [(7, .int r6), (0, .ref (eA E 8)), (1, .ref (eA E (10 + 8 * i1))), (2, .int a2), (6, .int x6)]) hx hb dX1_codeBlock_95 hl (by decide) rfl (fun ls hl => ?_)
        refine lv_aload_n hx hb dX1_codeBlock_97 rfl (lv_at hl 1 rfl) ?_
        refine g_Coder_walk hx hb hown hK hW kF_RX1_12 dX1_codeBlock_98 ?_
        refine lv_iload hx hb dX1_codeBlock_101 (lv_at hl 0 rfl) ?_
        obtain ⟨s8, q7, hf⟩ := bd_inv hf
        refine ss_callVv (As := [.int r6]) hx hb hml hown hK hW kb_X5_follow kM_RX1_78 rfl (okq_lt (by omega)) (c_wk (w := 0) (by omega)) (mX5_follow l (i0 := 0) (a1 := r6) (by omega) q7) rfl dX1_codeBlock_103 rfl hl.1 (Nat.le_of_ble_eq_true rfl) ⟨Nat.le_of_ble_eq_true rfl, Nat.le_of_ble_eq_true rfl⟩ ⟨Nat.zero_le _, Nat.zero_le _⟩ (fun H locs hW => ?_)
        refine lv_aload_n hx hb dX1_codeBlock_106 rfl (lv_at hl 2 rfl) ?_
        refine g_State_codes (i := i1) hx hb hown hK hW (by omega) kF_RX1_65 dX1_codeBlock_107 ?_
        refine lv_iload hx hb dX1_codeBlock_110 (lv_at hl 4 rfl) ?_
        refine lv_iload hx hb dX1_codeBlock_112 (lv_at hl 0 rfl) ?_
        obtain ⟨hk9, hf⟩ := gd_inv hf
        refine s_St6 (i := i1) hx hb hK hW (by omega) rfl hk9 dX1_codeBlock_114 (fun H locs hW => ?_)
        obtain ⟨s10, es10⟩ : ∃ y : Sg, y = (up2 s8 (10 + 8 * i1 + 6) ((x6).toNatClampNeg) r6) := ⟨_, rfl⟩
        have hf := nm_use es10 hf
        rw [← es10] at hW
        refine lv_aload_n hx hb dX1_codeBlock_115 rfl (lv_at hl 2 rfl) ?_
        refine g_State_guesses (i := i1) hx hb hown hK hW (by omega) kF_RX1_68 dX1_codeBlock_116 ?_
        refine lv_iload hx hb dX1_codeBlock_119 (lv_at hl 4 rfl) ?_
        refine lv_aload_n hx hb dX1_codeBlock_121 rfl (lv_at hl 1 rfl) ?_
        refine g_Coder_walk hx hb hown hK hW kF_RX1_12 dX1_codeBlock_122 ?_
        refine g_Walk_guess (i := 0) hx hb hown hK hW (by omega) kF_RX1_82 dX1_codeBlock_125 ?_
        obtain ⟨hk11, hf⟩ := gd_inv hf
        refine s_St7 (i := i1) hx hb hK hW (by omega) rfl hk11 dX1_codeBlock_128 (fun H locs hW => ?_)
        obtain ⟨s12, es12⟩ : ∃ y : Sg, y = (up2 s10 (10 + 8 * i1 + 7) ((x6).toNatClampNeg) (s10 (82 + 0) 0)) := ⟨_, rfl⟩
        have hf := nm_use es12 hf
        rw [← es12] at hW
        obtain ⟨x6_13, ex6_13⟩ : ∃ y : Int32, y = (x6 + 1) := ⟨_, rfl⟩
        have hf := nm_use ex6_13 hf
        refine lv_iinc (v := x6_13) (lv' := [(6, .int x6_13), (7, .int r6), (0, .ref (eA E 8)), (1, .ref (eA E (10 + 8 * i1))), (2, .int a2)]) hx hb dX1_codeBlock_129 hl (k := 4) rfl (by rw [ex6_13]; rfl) (by decide) rfl (fun ls hl => ?_)
        refine lv_goto (tgt := 71) hx hb dX1_codeBlock_132 (by decide) ?_
        exact ih71 x6_13 s12 _ _ _ hW (lv_sub hl [2, 3, 4, 0] rfl) hf
  refine lv_aload_n hx hb dX1_codeBlock_0 rfl (lv_at hl 1 rfl) ?_
  refine lv_iload_n hx hb dX1_codeBlock_1 rfl (lv_at hl 2 rfl) ?_
  obtain ⟨r15, q14, hf⟩ := bd_inv hf
  refine ss_callVi (As := [.int a2]) hx hb hml hown hK hW kb_X4_startOf kM_RX1_18 rfl (okq_lt (by omega)) (c_st (i := i1) (by omega) 0 (by decide)) (mX4_startOf l (i0 := i1) (a1 := a2) (by omega) q14) rfl dX1_codeBlock_2 rfl hl.1 (Nat.le_of_ble_eq_true rfl) ⟨Nat.le_of_ble_eq_true rfl, Nat.le_of_ble_eq_true rfl⟩ ⟨Nat.zero_le _, Nat.zero_le _⟩ (fun H locs hW => ?_)
  refine lv_istore (lv' := [(4, .int r15), (0, .ref (eA E 8)), (1, .ref (eA E (10 + 8 * i1))), (2, .int a2), (3, .int a3)]) hx hb dX1_codeBlock_5 hl (by decide) rfl (fun ls hl => ?_)
  refine lv_aload_n hx hb dX1_codeBlock_7 rfl (lv_at hl 2 rfl) ?_
  refine g_State_values (i := i1) hx hb hown hK hW (by omega) kF_RX1_52 dX1_codeBlock_8 ?_
  refine lv_iload hx hb dX1_codeBlock_11 (lv_at hl 0 rfl) ?_
  obtain ⟨hk16, hf⟩ := gd_inv hf
  refine l_St1 (i := i1) hx hb hK hW (by omega) rfl hk16 dX1_codeBlock_13 ?_
  refine lv_topi (fun x5_17 ex5_17 => ?_)
  have hf := nm_use ex5_17 hf
  refine lv_istore (lv' := [(5, .int x5_17), (4, .int r15), (0, .ref (eA E 8)), (1, .ref (eA E (10 + 8 * i1))), (2, .int a2), (3, .int a3)]) hx hb dX1_codeBlock_14 hl (by decide) rfl (fun ls hl => ?_)
  refine lv_aload_n hx hb dX1_codeBlock_16 rfl (lv_at hl 3 rfl) ?_
  refine g_State_firsts (i := i1) hx hb hown hK hW (by omega) kF_RX1_55 dX1_codeBlock_17 ?_
  refine lv_iload_n hx hb dX1_codeBlock_20 rfl (lv_at hl 4 rfl) ?_
  refine lv_iload hx hb dX1_codeBlock_21 (lv_at hl 0 rfl) ?_
  obtain ⟨hk18, hf⟩ := gd_inv hf
  refine s_St3 (i := i1) hx hb hK hW (by omega) rfl hk18 dX1_codeBlock_23 (fun H locs hW => ?_)
  obtain ⟨s19, es19⟩ : ∃ y : Sg, y = (up2 σ (10 + 8 * i1 + 3) ((a2).toNatClampNeg) x5_17) := ⟨_, rfl⟩
  have hf := nm_use es19 hf
  rw [← es19] at hW
  refine lv_aload_n hx hb dX1_codeBlock_24 rfl (lv_at hl 3 rfl) ?_
  refine g_State_starts (i := i1) hx hb hown hK hW (by omega) kF_RX1_58 dX1_codeBlock_25 ?_
  refine lv_iload_n hx hb dX1_codeBlock_28 rfl (lv_at hl 4 rfl) ?_
  refine lv_iload_n hx hb dX1_codeBlock_29 rfl (lv_at hl 5 rfl) ?_
  obtain ⟨hk20, hf⟩ := gd_inv hf
  refine s_St4 (i := i1) hx hb hK hW (by omega) rfl hk20 dX1_codeBlock_30 (fun H locs hW => ?_)
  obtain ⟨s21, es21⟩ : ∃ y : Sg, y = (up2 s19 (10 + 8 * i1 + 4) ((a2).toNatClampNeg) a3) := ⟨_, rfl⟩
  have hf := nm_use es21 hf
  rw [← es21] at hW
  refine lv_aload_n hx hb dX1_codeBlock_31 rfl (lv_at hl 3 rfl) ?_
  refine g_State_lost (i := i1) hx hb hown hK hW (by omega) kF_RX1_61 dX1_codeBlock_32 ?_
  refine lv_iload_n hx hb dX1_codeBlock_35 rfl (lv_at hl 4 rfl) ?_
  refine lv_iconst (v := 0) hx hb dX1_codeBlock_36 (by decide) ?_
  obtain ⟨hk22, hf⟩ := gd_inv hf
  refine s_St5 (i := i1) hx hb hK hW (by omega) rfl hk22 (by decide) dX1_codeBlock_37 (fun H locs hW => ?_)
  obtain ⟨s23, es23⟩ : ∃ y : Sg, y = (up2 s21 (10 + 8 * i1 + 5) ((a2).toNatClampNeg) 0) := ⟨_, rfl⟩
  have hf := nm_use es23 hf
  rw [← es23] at hW
  refine lv_aload_n hx hb dX1_codeBlock_38 rfl (lv_at hl 3 rfl) ?_
  refine g_State_codes (i := i1) hx hb hown hK hW (by omega) kF_RX1_65 dX1_codeBlock_39 ?_
  refine lv_iload hx hb dX1_codeBlock_42 (lv_at hl 1 rfl) ?_
  refine lv_iconst (v := (-1)) hx hb dX1_codeBlock_44 (by decide) ?_
  obtain ⟨hk24, hf⟩ := gd_inv hf
  refine s_St6 (i := i1) hx hb hK hW (by omega) rfl hk24 dX1_codeBlock_45 (fun H locs hW => ?_)
  obtain ⟨s25, es25⟩ : ∃ y : Sg, y = (up2 s23 (10 + 8 * i1 + 6) ((r15).toNatClampNeg) (-1)) := ⟨_, rfl⟩
  have hf := nm_use es25 hf
  rw [← es25] at hW
  refine lv_aload_n hx hb dX1_codeBlock_46 rfl (lv_at hl 3 rfl) ?_
  refine g_State_guesses (i := i1) hx hb hown hK hW (by omega) kF_RX1_68 dX1_codeBlock_47 ?_
  refine lv_iload hx hb dX1_codeBlock_50 (lv_at hl 1 rfl) ?_
  refine lv_iload hx hb dX1_codeBlock_52 (lv_at hl 0 rfl) ?_
  obtain ⟨hk26, hf⟩ := gd_inv hf
  refine s_St7 (i := i1) hx hb hK hW (by omega) rfl hk26 dX1_codeBlock_54 (fun H locs hW => ?_)
  obtain ⟨s27, es27⟩ : ∃ y : Sg, y = (up2 s25 (10 + 8 * i1 + 7) ((r15).toNatClampNeg) x5_17) := ⟨_, rfl⟩
  have hf := nm_use es27 hf
  rw [← es27] at hW
  refine lv_aload_n hx hb dX1_codeBlock_55 rfl (lv_at hl 2 rfl) ?_
  refine g_Coder_walk hx hb hown hK hW kF_RX1_12 dX1_codeBlock_56 ?_
  refine lv_iload hx hb dX1_codeBlock_59 (lv_at hl 0 rfl) ?_
  refine lv_iload_n hx hb dX1_codeBlock_61 rfl (lv_at hl 5 rfl) ?_
  obtain ⟨s29, q28, hf⟩ := bd_inv hf
  refine ss_callVv (As := [.int x5_17, .int a3]) hx hb hml hown hK hW kb_X5_begin kM_RX1_71 rfl (okq_lt (by omega)) (c_wk (w := 0) (by omega)) (mX5_begin l (i0 := 0) (a1 := x5_17) (a2 := a3) (by omega) q28) rfl dX1_codeBlock_62 rfl hl.1 (Nat.le_of_ble_eq_true rfl) ⟨Nat.le_of_ble_eq_true rfl, Nat.le_of_ble_eq_true rfl⟩ ⟨Nat.zero_le _, Nat.zero_le _⟩ (fun H locs hW => ?_)
  refine lv_iload hx hb dX1_codeBlock_65 (lv_at hl 1 rfl) ?_
  refine lv_iconst (v := 1) hx hb dX1_codeBlock_67 (by decide) ?_
  refine lv_iadd hx hb dX1_codeBlock_68 ?_
  refine lv_topi (fun x6_30 ex6_30 => ?_)
  have hf := nm_use ex6_30 hf
  refine lv_istore (lv' := [(6, .int x6_30), (5, .int x5_17), (4, .int r15), (0, .ref (eA E 8)), (1, .ref (eA E (10 + 8 * i1))), (2, .int a2), (3, .int a3)]) hx hb dX1_codeBlock_69 hl (by decide) rfl (fun ls hl => ?_)
  exact h71 80 x6_30 s29 _ _ _ hW (lv_sub hl [3, 4, 5, 0] rfl) hf
def fX1_codeWave_b69 (i1 : Nat) (x3 : Int32) (σ : Sg) : Option Sg := nm (up2 σ (10 + 8 * i1) 3 x3) fun s1 => nm (up2 s1 (10 + 8 * i1) 9 ((s1 (10 + 8 * i1) 9) + 1)) fun s2 => some s2
def fX1_codeWave_b48 (i1 : Nat) (k4 : Int32 → Int32 → Sg → Option Sg) (x2 : Int32) (x3 : Int32) (σ : Sg) : Option Sg := bd (fX1_codeBlock i1 x3 x2 σ) fun s4 => nm (s4 (82 + 0) 1) fun x2_5 => nm (x3 + 1) fun x3_6 => k4 x2_5 x3_6 s4
def fX1_codeWave_L4 (i1 : Nat) (n : Nat) (x2 : Int32) (x3 : Int32) (σ : Sg) : Option Sg := match n with
  | 0 => none
  | n + 1 => if 32 ≤ x3 then (fX1_codeWave_b69 i1 x3 σ) else (bd (fX4_startOf i1 x3 σ) fun r9 => if (σ (10 + 8 * i1) 0) ≤ r9 then (fX1_codeWave_b69 i1 x3 σ) else (if (σ (10 + 8 * i1 + 2) 1) = 1 then (bd (fX4_startOf i1 x3 σ) fun r13 => bd (fX4_endOf i1 x3 σ) fun r15 => bd2 (fX1_bestStart i1 r13 r15 σ) fun r17 s18 => fX1_codeWave_b48 i1 (fun x2 x3 σ => fX1_codeWave_L4 i1 n x2 x3 σ) r17 x3 s18) else (fX1_codeWave_b48 i1 (fun x2 x3 σ => fX1_codeWave_L4 i1 n x2 x3 σ) x2 x3 σ)))
def fX1_codeWave (i1 : Nat) (σ : Sg) : Option Sg := fX1_codeWave_L4 i1 80 0 0 σ
set_option maxHeartbeats 4000000 in
set_option maxRecDepth 100000 in
theorem mX1_codeWave (l : Launch) {E : En} {σ μ : Sg} {dg : Int64} {i1 : Nat} (hi1 : i1 < 9) {σ' : Sg} (hf : fX1_codeWave i1 σ = some σ') : Met l yX1_codeWave [.code yX1_codeWave cX1_codeWave 4 none] (Rm 5 119) (va_Pc [.ref (eA E 8), .ref (eA E (10 + 8 * i1))] (Wd E σ μ dg)) (Qv E σ' μ dg) 0 0 (eP E) := by
  refine ss_of (by decide) (Nat.le_of_ble_eq_true rfl) (fun p e s m below meth c hx hb hr hlk hml hown hK hW ls hl => ?_)
  have hown : s.vm.findClass RX1 = some m.cls := hown
  have hl : lv_has ls 4 [(0, .ref (eA E 8)), (1, .ref (eA E (10 + 8 * i1)))] := hl
  unfold fX1_codeWave at hf
  have h69 : ∀ (x3 : Int32) (σ : Sg) (H : Heap) (locs : List Loc) (ls : Array Slot), Wk E σ μ dg s H locs → lv_has ls 4 [(1, .ref (eA E (10 + 8 * i1))), (3, .int x3)] → fX1_codeWave_b69 i1 x3 σ = some σ' → W p l e (Rm 5 119) s m [.ref (eA E 8), .ref (eA E (10 + 8 * i1))].toArray below meth c H locs 0 0 (MQ below (Qv E σ' μ dg) [.ref (eA E 8), .ref (eA E (10 + 8 * i1))].toArray s 0 0 (eP E)) (F0 m 69 ls []) := by
    intro x3 σ  H locs ls hW hl hf
    unfold fX1_codeWave_b69 at hf
    refine lv_aload_n hx hb dX1_codeWave_69 rfl (lv_at hl 0 rfl) ?_
    refine lv_iload_n hx hb dX1_codeWave_70 rfl (lv_at hl 1 rfl) ?_
    refine p_State_blocks (i := i1) hx hb hown hK hW (by omega) kF_RX1_46 dX1_codeWave_71 (fun H locs hW => ?_)
    obtain ⟨s1, es1⟩ : ∃ y : Sg, y = (up2 σ (10 + 8 * i1) 3 x3) := ⟨_, rfl⟩
    have hf := nm_use es1 hf
    rw [← es1] at hW
    refine lv_aload_n hx hb dX1_codeWave_74 rfl (lv_at hl 0 rfl) ?_
    refine lv_dup hx hb dX1_codeWave_75 rfl ?_
    refine g_State_codings (i := i1) hx hb hown hK hW (by omega) kF_RX1_49 dX1_codeWave_76 ?_
    refine lv_iconst (v := 1) hx hb dX1_codeWave_79 (by decide) ?_
    refine lv_iadd hx hb dX1_codeWave_80 ?_
    refine p_State_codings (i := i1) hx hb hown hK hW (by omega) kF_RX1_49 dX1_codeWave_81 (fun H locs hW => ?_)
    obtain ⟨s2, es2⟩ : ∃ y : Sg, y = (up2 s1 (10 + 8 * i1) 9 ((s1 (10 + 8 * i1) 9) + 1)) := ⟨_, rfl⟩
    have hf := nm_use es2 hf
    rw [← es2] at hW
    cases hf
    exact ss_vret hx hb hr hlk hW dX1_codeWave_84
  have h4 : ∀ (n4 : Nat) (x2 : Int32) (x3 : Int32) (σ : Sg) (H : Heap) (locs : List Loc) (ls : Array Slot), Wk E σ μ dg s H locs → lv_has ls 4 [(0, .ref (eA E 8)), (1, .ref (eA E (10 + 8 * i1))), (2, .int x2), (3, .int x3)] → fX1_codeWave_L4 i1 n4 x2 x3 σ = some σ' → W p l e (Rm 5 119) s m [.ref (eA E 8), .ref (eA E (10 + 8 * i1))].toArray below meth c H locs 0 0 (MQ below (Qv E σ' μ dg) [.ref (eA E 8), .ref (eA E (10 + 8 * i1))].toArray s 0 0 (eP E)) (F0 m 4 ls []) := by
    intro n4
    induction n4 with
    | zero =>
      intro x2 x3 σ  H locs ls hW hl hf
      exact absurd hf (by simp [fX1_codeWave_L4])
    | succ n4 ih4 =>
      have h48 : ∀ (x2 : Int32) (x3 : Int32) (σ : Sg) (H : Heap) (locs : List Loc) (ls : Array Slot), Wk E σ μ dg s H locs → lv_has ls 4 [(0, .ref (eA E 8)), (1, .ref (eA E (10 + 8 * i1))), (2, .int x2), (3, .int x3)] → fX1_codeWave_b48 i1 (fun x2 x3 σ => fX1_codeWave_L4 i1 n4 x2 x3 σ) x2 x3 σ = some σ' → W p l e (Rm 5 119) s m [.ref (eA E 8), .ref (eA E (10 + 8 * i1))].toArray below meth c H locs 0 0 (MQ below (Qv E σ' μ dg) [.ref (eA E 8), .ref (eA E (10 + 8 * i1))].toArray s 0 0 (eP E)) (F0 m 48 ls []) := by
        intro x2 x3 σ  H locs ls hW hl hf
        unfold fX1_codeWave_b48 at hf
        refine lv_aload_n hx hb dX1_codeWave_48 rfl (lv_at hl 0 rfl) ?_
        refine lv_aload_n hx hb dX1_codeWave_49 rfl (lv_at hl 1 rfl) ?_
        refine lv_iload_n hx hb dX1_codeWave_50 rfl (lv_at hl 3 rfl) ?_
        refine lv_iload_n hx hb dX1_codeWave_51 rfl (lv_at hl 2 rfl) ?_
        obtain ⟨s4, q3, hf⟩ := bd_inv hf
        refine ss_callVv (As := [.ref (eA E (10 + 8 * i1)), .int x3, .int x2]) hx hb hml hown hK hW kb_X1_codeBlock kM_RX1_39 rfl (okq_lt (by decide)) (c_fx (by decide)) (mX1_codeBlock l (i1 := i1) (a2 := x3) (a3 := x2) (by omega) q3) rfl dX1_codeWave_52 rfl hl.1 (Nat.le_of_ble_eq_true rfl) ⟨Nat.le_of_ble_eq_true rfl, Nat.le_of_ble_eq_true rfl⟩ ⟨Nat.zero_le _, Nat.zero_le _⟩ (fun H locs hW => ?_)
        refine lv_aload_n hx hb dX1_codeWave_55 rfl (lv_at hl 0 rfl) ?_
        refine g_Coder_walk hx hb hown hK hW kF_RX1_12 dX1_codeWave_56 ?_
        refine g_Walk_number (i := 0) hx hb hown hK hW (by omega) kF_RX1_43 dX1_codeWave_59 ?_
        refine lv_topi (fun x2_5 ex2_5 => ?_)
        have hf := nm_use ex2_5 hf
        refine lv_istore_n (lv' := [(2, .int x2_5), (0, .ref (eA E 8)), (1, .ref (eA E (10 + 8 * i1))), (3, .int x3)]) hx hb dX1_codeWave_62 rfl hl (by decide) rfl (fun ls hl => ?_)
        obtain ⟨x3_6, ex3_6⟩ : ∃ y : Int32, y = (x3 + 1) := ⟨_, rfl⟩
        have hf := nm_use ex3_6 hf
        refine lv_iinc (v := x3_6) (lv' := [(3, .int x3_6), (2, .int x2_5), (0, .ref (eA E 8)), (1, .ref (eA E (10 + 8 * i1)))]) hx hb dX1_codeWave_63 hl (k := 3) rfl (by rw [ex3_6]; rfl) (by decide) rfl (fun ls hl => ?_)
        refine lv_goto (tgt := 4) hx hb dX1_codeWave_66 (by decide) ?_
        exact ih4 x2_5 x3_6 s4 _ _ _ hW (lv_sub hl [2, 3, 1, 0] rfl) hf
      intro x2 x3 σ  H locs ls hW hl hf
      rw [fX1_codeWave_L4] at hf
      refine lv_iload_n hx hb dX1_codeWave_4 rfl (lv_at hl 3 rfl) ?_
      refine lv_bipush (v := 32) hx hb dX1_codeWave_5 (by decide) ?_
      refine lv_icmp_ge (tgt := 69) hx hb dX1_codeWave_7 (by decide) (fun c7 => ?_) (fun c7 => ?_)
      · have hf := br_p c7 hf
        exact h69 x3 σ _ _ _ hW (lv_sub hl [1, 3] rfl) hf
      · have hf := br_n c7 hf
        refine lv_aload_n hx hb dX1_codeWave_10 rfl (lv_at hl 1 rfl) ?_
        refine lv_iload_n hx hb dX1_codeWave_11 rfl (lv_at hl 3 rfl) ?_
        obtain ⟨r9, q8, hf⟩ := bd_inv hf
        refine ss_callVi (As := [.int x3]) hx hb hml hown hK hW kb_X4_startOf kM_RX1_18 rfl (okq_lt (by omega)) (c_st (i := i1) (by omega) 0 (by decide)) (mX4_startOf l (i0 := i1) (a1 := x3) (by omega) q8) rfl dX1_codeWave_12 rfl hl.1 (Nat.le_of_ble_eq_true rfl) ⟨Nat.le_of_ble_eq_true rfl, Nat.le_of_ble_eq_true rfl⟩ ⟨Nat.zero_le _, Nat.zero_le _⟩ (fun H locs hW => ?_)
        refine lv_aload_n hx hb dX1_codeWave_15 rfl (lv_at hl 1 rfl) ?_
        refine g_State_many (i := i1) hx hb hown hK hW (by omega) kF_RX1_24 dX1_codeWave_16 ?_
        refine lv_icmp_ge (tgt := 69) hx hb dX1_codeWave_19 (by decide) (fun c10 => ?_) (fun c10 => ?_)
        · have hf := br_p c10 hf
          exact h69 x3 σ _ _ _ hW (lv_sub hl [1, 3] rfl) hf
        · have hf := br_n c10 hf
          refine lv_aload_n hx hb dX1_codeWave_22 rfl (lv_at hl 1 rfl) ?_
          refine g_State_settings (i := i1) hx hb hown hK hW (by omega) kF_RX1_28 dX1_codeWave_23 ?_
          refine lv_iconst (v := 1) hx hb dX1_codeWave_26 (by decide) ?_
          refine l_St2 (i := i1) (k0 := 1) hx hb hK hW (by omega) (by decide) (show ¬ ((1 : Int32) < 0 ∨ 3 ≤ (1 : Int32).toNatClampNeg) by decide) dX1_codeWave_27 ?_
          refine lv_iconst (v := 1) hx hb dX1_codeWave_28 (by decide) ?_
          refine lv_icmp_ne (tgt := 48) hx hb dX1_codeWave_29 (by decide) (fun c11 => ?_) (fun c11 => ?_)
          · have hf := br_n c11 hf
            exact h48 x2 x3 σ _ _ _ hW (lv_sub hl [0, 1, 2, 3] rfl) hf
          · have hf := br_p c11 hf
            refine lv_aload_n hx hb dX1_codeWave_32 rfl (lv_at hl 0 rfl) ?_
            refine lv_aload_n hx hb dX1_codeWave_33 rfl (lv_at hl 1 rfl) ?_
            refine lv_aload_n hx hb dX1_codeWave_34 rfl (lv_at hl 1 rfl) ?_
            refine lv_iload_n hx hb dX1_codeWave_35 rfl (lv_at hl 3 rfl) ?_
            obtain ⟨r13, q12, hf⟩ := bd_inv hf
            refine ss_callVi (As := [.int x3]) hx hb hml hown hK hW kb_X4_startOf kM_RX1_18 rfl (okq_lt (by omega)) (c_st (i := i1) (by omega) 0 (by decide)) (mX4_startOf l (i0 := i1) (a1 := x3) (by omega) q12) rfl dX1_codeWave_36 rfl hl.1 (Nat.le_of_ble_eq_true rfl) ⟨Nat.le_of_ble_eq_true rfl, Nat.le_of_ble_eq_true rfl⟩ ⟨Nat.zero_le _, Nat.zero_le _⟩ (fun H locs hW => ?_)
            refine lv_aload_n hx hb dX1_codeWave_39 rfl (lv_at hl 1 rfl) ?_
            refine lv_iload_n hx hb dX1_codeWave_40 rfl (lv_at hl 3 rfl) ?_
            obtain ⟨r15, q14, hf⟩ := bd_inv hf
            refine ss_callVi (As := [.int x3]) hx hb hml hown hK hW kb_X4_endOf kM_RX1_32 rfl (okq_lt (by omega)) (c_st (i := i1) (by omega) 0 (by decide)) (mX4_endOf l (i0 := i1) (a1 := x3) (by omega) q14) rfl dX1_codeWave_41 rfl hl.1 (Nat.le_of_ble_eq_true rfl) ⟨Nat.le_of_ble_eq_true rfl, Nat.le_of_ble_eq_true rfl⟩ ⟨Nat.zero_le _, Nat.zero_le _⟩ (fun H locs hW => ?_)
            obtain ⟨r17, s18, q16, hf⟩ := bd2_inv hf
            refine ss_callVi (As := [.ref (eA E (10 + 8 * i1)), .int r13, .int r15]) hx hb hml hown hK hW kb_X1_bestStart kM_RX1_35 rfl (okq_lt (by decide)) (c_fx (by decide)) (mX1_bestStart l (i1 := i1) (a2 := r13) (a3 := r15) (by omega) q16) rfl dX1_codeWave_44 rfl hl.1 (Nat.le_of_ble_eq_true rfl) ⟨Nat.le_of_ble_eq_true rfl, Nat.le_of_ble_eq_true rfl⟩ ⟨Nat.zero_le _, Nat.zero_le _⟩ (fun H locs hW => ?_)
            refine lv_istore_n (lv' := [(2, .int r17), (0, .ref (eA E 8)), (1, .ref (eA E (10 + 8 * i1))), (3, .int x3)]) hx hb dX1_codeWave_47 rfl hl (by decide) rfl (fun ls hl => ?_)
            exact h48 r17 x3 s18 _ _ _ hW (lv_sub hl [1, 2, 0, 3] rfl) hf
  refine lv_iconst (v := 0) hx hb dX1_codeWave_0 (by decide) ?_
  refine lv_istore_n (lv' := [(2, .int 0), (0, .ref (eA E 8)), (1, .ref (eA E (10 + 8 * i1)))]) hx hb dX1_codeWave_1 rfl hl (by decide) rfl (fun ls hl => ?_)
  refine lv_iconst (v := 0) hx hb dX1_codeWave_2 (by decide) ?_
  refine lv_istore_n (lv' := [(3, .int 0), (2, .int 0), (0, .ref (eA E 8)), (1, .ref (eA E (10 + 8 * i1)))]) hx hb dX1_codeWave_3 rfl hl (by decide) rfl (fun ls hl => ?_)
  exact h4 80 0 0 σ _ _ _ hW (lv_sub hl [2, 3, 1, 0] rfl) hf
def fX6_code (σ : Sg) : Option (Int32 × Sg) := bd (fX6_beginChange σ) fun s2 => bd (fX1_codeWave 0 s2) fun s4 => some ((s4 (10 + 8 * 0) 3), s4)
set_option maxHeartbeats 4000000 in
set_option maxRecDepth 100000 in
theorem mX6_code (l : Launch) {E : En} {σ μ : Sg} {dg : Int64}   {r : Int32} {σ' : Sg} (hf : fX6_code σ = some (r, σ')) : Met l yX6_code [.code yX6_code cX6_code 1 (some .int)] (Rm 6 144) (va_Pc [.ref (eA E 0)] (Wd E σ μ dg)) (Qi E σ' μ dg r) 0 0 (eP E) := by
  refine ss_of (by decide) (Nat.le_of_ble_eq_true rfl) (fun p e s m below meth c hx hb hr hlk hml hown hK hW ls hl => ?_)
  have hown : s.vm.findClass RX6 = some m.cls := hown
  have hl : lv_has ls 1 [(0, .ref (eA E 0))] := hl
  unfold fX6_code at hf
  refine lv_aload_n hx hb dX6_code_0 rfl (lv_at hl 0 rfl) ?_
  obtain ⟨s2, q1, hf⟩ := bd_inv hf
  refine ss_callVv (As := []) hx hb hml hown hK hW kb_X6_beginChange kM_RX6_69 rfl (okq_lt (by decide)) (c_fx (by decide)) (mX6_beginChange l  q1) rfl dX6_code_1 rfl hl.1 (Nat.le_of_ble_eq_true rfl) ⟨Nat.le_of_ble_eq_true rfl, Nat.le_of_ble_eq_true rfl⟩ ⟨Nat.zero_le _, Nat.zero_le _⟩ (fun H locs hW => ?_)
  refine lv_aload_n hx hb dX6_code_4 rfl (lv_at hl 0 rfl) ?_
  refine g_X_coder hx hb hown hK hW kF_RX6_41 dX6_code_5 ?_
  refine lv_aload_n hx hb dX6_code_8 rfl (lv_at hl 0 rfl) ?_
  refine g_X_now hx hb hown hK hW kF_RX6_12 dX6_code_9 ?_
  obtain ⟨s4, q3, hf⟩ := bd_inv hf
  refine ss_callVv (As := [.ref (eA E (10 + 8 * 0))]) hx hb hml hown hK hW kb_X1_codeWave kM_RX6_155 rfl (okq_lt (by decide)) (c_fx (by decide)) (mX1_codeWave l (i1 := 0) (by omega) q3) rfl dX6_code_12 rfl hl.1 (Nat.le_of_ble_eq_true rfl) ⟨Nat.le_of_ble_eq_true rfl, Nat.le_of_ble_eq_true rfl⟩ ⟨Nat.zero_le _, Nat.zero_le _⟩ (fun H locs hW => ?_)
  refine lv_aload_n hx hb dX6_code_15 rfl (lv_at hl 0 rfl) ?_
  refine g_X_now hx hb hown hK hW kF_RX6_12 dX6_code_16 ?_
  refine g_State_blocks (i := 0) hx hb hown hK hW (by omega) kF_RX6_158 dX6_code_19 ?_
  cases hf
  exact ss_iret hx hb hr hlk hW rfl dX6_code_22
def fX6_isNumber (a0 : Int32) : Option Int32 := if a0 < 0 then (some 0) else (if 48 < a0 then (some 0) else (some 1))
set_option maxHeartbeats 4000000 in
set_option maxRecDepth 100000 in
theorem mX6_isNumber (l : Launch) {E : En} {σ μ : Sg} {dg : Int64} {a0 : Int32}  {r : Int32} (hf : fX6_isNumber a0 = some r) : Met l yX6_isNumber [.code yX6_isNumber cX6_isNumber 1 (some .boolean)] (Rm 0 0) (va_Pc [.int a0] (Wd E σ μ dg)) (Qi E σ μ dg r) 0 0 (eP E) := by
  refine ss_of (by decide) (Nat.le_of_ble_eq_true rfl) (fun p e s m below meth c hx hb hr hlk hml hown hK hW ls hl => ?_)
  have hown : s.vm.findClass RX6 = some m.cls := hown
  have hl : lv_has ls 1 [(0, .int a0)] := hl
  unfold fX6_isNumber at hf
  refine lv_iload_n hx hb dX6_isNumber_0 rfl (lv_at hl 0 rfl) ?_
  refine lv_if_lt (tgt := 14) hx hb dX6_isNumber_1 (by decide) (fun c1 => ?_) (fun c1 => ?_)
  · have hf := br_p c1 hf
    refine lv_iconst (v := 0) hx hb dX6_isNumber_14 (by decide) ?_
    exact ss_zret hx hb hr hlk hW (Option.some.inj hf) rfl dX6_isNumber_15
  · have hf := br_n c1 hf
    refine lv_iload_n hx hb dX6_isNumber_4 rfl (lv_at hl 0 rfl) ?_
    refine lv_bipush (v := 48) hx hb dX6_isNumber_5 (by decide) ?_
    refine lv_icmp_gt (tgt := 14) hx hb dX6_isNumber_7 (by decide) (fun c2 => ?_) (fun c2 => ?_)
    · have hf := br_p c2 hf
      refine lv_iconst (v := 0) hx hb dX6_isNumber_14 (by decide) ?_
      exact ss_zret hx hb hr hlk hW (Option.some.inj hf) rfl dX6_isNumber_15
    · have hf := br_n c2 hf
      refine lv_iconst (v := 1) hx hb dX6_isNumber_10 (by decide) ?_
      refine lv_goto (tgt := 15) hx hb dX6_isNumber_11 (by decide) ?_
      exact ss_zret hx hb hr hlk hW (Option.some.inj hf) rfl dX6_isNumber_15
def fX6_wholeError (σ : Sg) : Option (Int32 × Sg) := bd (fX2_decode 0 0 σ) fun s2 => bd (fX2_errorOf 0 0 0 (s2 (10 + 8 * 0) 0) s2) fun r4 => some (r4, s2)
set_option maxHeartbeats 4000000 in
set_option maxRecDepth 100000 in
theorem mX6_wholeError (l : Launch) {E : En} {σ μ : Sg} {dg : Int64}   {r : Int32} {σ' : Sg} (hf : fX6_wholeError σ = some (r, σ')) : Met l yX6_wholeError [.code yX6_wholeError cX6_wholeError 1 (some .int)] (Rm 5 111) (va_Pc [.ref (eA E 0)] (Wd E σ μ dg)) (Qi E σ' μ dg r) 0 0 (eP E) := by
  refine ss_of (by decide) (Nat.le_of_ble_eq_true rfl) (fun p e s m below meth c hx hb hr hlk hml hown hK hW ls hl => ?_)
  have hown : s.vm.findClass RX6 = some m.cls := hown
  have hl : lv_has ls 1 [(0, .ref (eA E 0))] := hl
  unfold fX6_wholeError at hf
  refine lv_aload_n hx hb dX6_wholeError_0 rfl (lv_at hl 0 rfl) ?_
  refine g_X_decoder hx hb hown hK hW kF_RX6_48 dX6_wholeError_1 ?_
  refine lv_aload_n hx hb dX6_wholeError_4 rfl (lv_at hl 0 rfl) ?_
  refine g_X_now hx hb hown hK hW kF_RX6_12 dX6_wholeError_5 ?_
  obtain ⟨s2, q1, hf⟩ := bd_inv hf
  refine ss_callVv (As := [.ref (eA E (10 + 8 * 0))]) hx hb hml hown hK hW kb_X2_decode kM_RX6_124 rfl (okq_lt (by omega)) (c_dc (d := 0) (by omega) 0 (by decide)) (mX2_decode l (i0 := 0) (i1 := 0) (by omega) (by omega) q1) rfl dX6_wholeError_8 rfl hl.1 (Nat.le_of_ble_eq_true rfl) ⟨Nat.le_of_ble_eq_true rfl, Nat.le_of_ble_eq_true rfl⟩ ⟨Nat.zero_le _, Nat.zero_le _⟩ (fun H locs hW => ?_)
  refine lv_aload_n hx hb dX6_wholeError_11 rfl (lv_at hl 0 rfl) ?_
  refine g_X_decoder hx hb hown hK hW kF_RX6_48 dX6_wholeError_12 ?_
  refine lv_aload_n hx hb dX6_wholeError_15 rfl (lv_at hl 0 rfl) ?_
  refine g_X_now hx hb hown hK hW kF_RX6_12 dX6_wholeError_16 ?_
  refine lv_iconst (v := 0) hx hb dX6_wholeError_19 (by decide) ?_
  refine lv_aload_n hx hb dX6_wholeError_20 rfl (lv_at hl 0 rfl) ?_
  refine g_X_now hx hb hown hK hW kF_RX6_12 dX6_wholeError_21 ?_
  refine g_State_many (i := 0) hx hb hown hK hW (by omega) kF_RX6_72 dX6_wholeError_24 ?_
  obtain ⟨r4, q3, hf⟩ := bd_inv hf
  refine ss_callVi (As := [.ref (eA E (10 + 8 * 0)), .int 0, .int (s2 (10 + 8 * 0) 0)]) hx hb hml hown hK hW kb_X2_errorOf kM_RX6_269 rfl (okq_lt (by omega)) (c_dc (d := 0) (by omega) 0 (by decide)) (mX2_errorOf l (i0 := 0) (i1 := 0) (a2 := 0) (a3 := (s2 (10 + 8 * 0) 0)) (by omega) (by omega) q3) rfl dX6_wholeError_27 rfl hl.1 (Nat.le_of_ble_eq_true rfl) ⟨Nat.le_of_ble_eq_true rfl, Nat.le_of_ble_eq_true rfl⟩ ⟨Nat.zero_le _, Nat.zero_le _⟩ (fun H locs hW => ?_)
  cases hf
  exact ss_iret hx hb hr hlk hW rfl dX6_wholeError_30
def fX6_meanSquare (σ : Sg) : Option (UInt64 × Sg) := bd (fX4_isCoded 0 σ) fun r2 => if r2 = 0 then (some (FP.dconst0, σ)) else (bd2 (fX6_wholeError σ) fun r5 s6 => gd ((FP.ddiv (FP.i2d r5) (FP.i2d (s6 (10 + 8 * 0) 0))) &&& 0x7fffffffffffffff ≤ 0x7ff0000000000000) <| some ((FP.ddiv (FP.i2d r5) (FP.i2d (s6 (10 + 8 * 0) 0))), s6))
set_option maxHeartbeats 4000000 in
set_option maxRecDepth 100000 in
theorem mX6_meanSquare (l : Launch) {E : En} {σ μ : Sg} {dg : Int64}   {r : UInt64} {σ' : Sg} (hf : fX6_meanSquare σ = some (r, σ')) : Met l yX6_meanSquare [.code yX6_meanSquare cX6_meanSquare 1 (some .double)] (Rm 6 131) (va_Pc [.ref (eA E 0)] (Wd E σ μ dg)) (Qd E σ' μ dg r) 0 0 (eP E) := by
  refine ss_of (by decide) (Nat.le_of_ble_eq_true rfl) (fun p e s m below meth c hx hb hr hlk hml hown hK hW ls hl => ?_)
  have hown : s.vm.findClass RX6 = some m.cls := hown
  have hl : lv_has ls 1 [(0, .ref (eA E 0))] := hl
  unfold fX6_meanSquare at hf
  refine lv_aload_n hx hb dX6_meanSquare_0 rfl (lv_at hl 0 rfl) ?_
  refine g_X_now hx hb hown hK hW kF_RX6_12 dX6_meanSquare_1 ?_
  obtain ⟨r2, q1, hf⟩ := bd_inv hf
  refine ss_callVi (As := []) hx hb hml hown hK hW kb_X4_isCoded kM_RX6_115 rfl (okq_lt (by omega)) (c_st (i := 0) (by omega) 0 (by decide)) (mX4_isCoded l (i0 := 0) (by omega) q1) rfl dX6_meanSquare_4 rfl hl.1 (Nat.le_of_ble_eq_true rfl) ⟨Nat.le_of_ble_eq_true rfl, Nat.le_of_ble_eq_true rfl⟩ ⟨Nat.zero_le _, Nat.zero_le _⟩ (fun H locs hW => ?_)
  refine lv_if_ne (tgt := 12) hx hb dX6_meanSquare_7 (by decide) (fun c3 => ?_) (fun c3 => ?_)
  · have hf := br_n c3 hf
    refine lv_aload_n hx hb dX6_meanSquare_12 rfl (lv_at hl 0 rfl) ?_
    obtain ⟨r5, s6, q4, hf⟩ := bd2_inv hf
    refine ss_callVi (As := []) hx hb hml hown hK hW kb_X6_wholeError kM_RX6_315 rfl (okq_lt (by decide)) (c_fx (by decide)) (mX6_wholeError l  q4) rfl dX6_meanSquare_13 rfl hl.1 (Nat.le_of_ble_eq_true rfl) ⟨Nat.le_of_ble_eq_true rfl, Nat.le_of_ble_eq_true rfl⟩ ⟨Nat.zero_le _, Nat.zero_le _⟩ (fun H locs hW => ?_)
    refine lv_i2d hx hb dX6_meanSquare_16 ?_
    refine lv_aload_n hx hb dX6_meanSquare_17 rfl (lv_at hl 0 rfl) ?_
    refine g_X_now hx hb hown hK hW kF_RX6_12 dX6_meanSquare_18 ?_
    refine g_State_many (i := 0) hx hb hown hK hW (by omega) kF_RX6_72 dX6_meanSquare_21 ?_
    refine lv_i2d hx hb dX6_meanSquare_24 ?_
    obtain ⟨hn7, hf⟩ := gd_inv hf
    refine lv_ddiv hx hb dX6_meanSquare_25 hn7 ?_
    cases hf
    exact ss_dret hx hb hr hlk hW rfl dX6_meanSquare_26
  · have hf := br_p c3 hf
    refine lv_dconst0 hx hb dX6_meanSquare_10 ?_
    cases hf
    exact ss_dret hx hb hr hlk hW rfl dX6_meanSquare_11
def fX6_loudness_L29  (n : Nat) (x1 : Int32) (x2 : Int32) (x3 : Int32) (σ : Sg) : Option (UInt32 × Sg) := match n with
  | 0 => none
  | n + 1 => if (σ (10 + 8 * 0) 0) ≤ x3 then (gd ((FP.fdiv (FP.i2f x2) (FP.i2f x1)) &&& 0x7fffffff ≤ 0x7f800000) <| some ((FP.fdiv (FP.i2f x2) (FP.i2f x1)), σ)) else (gd (¬ (x3 < 0 ∨ 64 ≤ (x3).toNatClampNeg)) <| gd (¬ (x3 < 0 ∨ 64 ≤ (x3).toNatClampNeg)) <| nm (x2 + ((σ (10 + 8 * 0 + 1) (x3).toNatClampNeg) * (σ (10 + 8 * 0 + 1) (x3).toNatClampNeg))) fun x2_5 => nm (x3 + 1) fun x3_6 => (fun x1 x2 x3 σ => fX6_loudness_L29 n x1 x2 x3 σ) x1 x2_5 x3_6 σ)
def fX6_loudness (σ : Sg) : Option (UInt32 × Sg) := bd (fX4_isCoded 0 σ) fun r8 => if r8 = 0 then (some (FP.fconst0, σ)) else (bd2 (fX6_wholeError σ) fun r11 s12 => if r11 = 0 then (some (3212836864, s12)) else (fX6_loudness_L29 80 r11 0 0 s12))
set_option maxHeartbeats 4000000 in
set_option maxRecDepth 100000 in
theorem mX6_loudness (l : Launch) {E : En} {σ μ : Sg} {dg : Int64}   {r : UInt32} {σ' : Sg} (hf : fX6_loudness σ = some (r, σ')) : Met l yX6_loudness [.code yX6_loudness cX6_loudness 4 (some .float)] (Rm 6 131) (va_Pc [.ref (eA E 0)] (Wd E σ μ dg)) (Qf E σ' μ dg r) 0 0 (eP E) := by
  refine ss_of (by decide) (Nat.le_of_ble_eq_true rfl) (fun p e s m below meth c hx hb hr hlk hml hown hK hW ls hl => ?_)
  have hown : s.vm.findClass RX6 = some m.cls := hown
  have hl : lv_has ls 4 [(0, .ref (eA E 0))] := hl
  unfold fX6_loudness at hf
  have h29 : ∀ (n29 : Nat) (x1 : Int32) (x2 : Int32) (x3 : Int32) (σ : Sg) (H : Heap) (locs : List Loc) (ls : Array Slot), Wk E σ μ dg s H locs → lv_has ls 4 [(0, .ref (eA E 0)), (1, .int x1), (2, .int x2), (3, .int x3)] → fX6_loudness_L29 n29 x1 x2 x3 σ = some (r, σ') → W p l e (Rm 6 131) s m [.ref (eA E 0)].toArray below meth c H locs 0 0 (MQ below (Qf E σ' μ dg r) [.ref (eA E 0)].toArray s 0 0 (eP E)) (F0 m 29 ls []) := by
    intro n29
    induction n29 with
    | zero =>
      intro x1 x2 x3 σ  H locs ls hW hl hf
      exact absurd hf (by simp [fX6_loudness_L29])
    | succ n29 ih29 =>
      intro x1 x2 x3 σ  H locs ls hW hl hf
      rw [fX6_loudness_L29] at hf
      refine lv_iload_n hx hb dX6_loudness_29 rfl (lv_at hl 3 rfl) ?_
      refine lv_aload_n hx hb dX6_loudness_30 rfl (lv_at hl 0 rfl) ?_
      refine g_X_now hx hb hown hK hW kF_RX6_12 dX6_loudness_31 ?_
      refine g_State_many (i := 0) hx hb hown hK hW (by omega) kF_RX6_72 dX6_loudness_34 ?_
      refine lv_icmp_ge (tgt := 68) hx hb dX6_loudness_37 (by decide) (fun c1 => ?_) (fun c1 => ?_)
      · have hf := br_p c1 hf
        refine lv_iload_n hx hb dX6_loudness_68 rfl (lv_at hl 2 rfl) ?_
        refine lv_i2f hx hb dX6_loudness_69 ?_
        refine lv_iload_n hx hb dX6_loudness_70 rfl (lv_at hl 1 rfl) ?_
        refine lv_i2f hx hb dX6_loudness_71 ?_
        obtain ⟨hn2, hf⟩ := gd_inv hf
        refine lv_fdiv hx hb dX6_loudness_72 hn2 ?_
        cases hf
        exact ss_fret hx hb hr hlk hW rfl dX6_loudness_73
      · have hf := br_n c1 hf
        refine lv_iload_n hx hb dX6_loudness_40 rfl (lv_at hl 2 rfl) ?_
        refine lv_aload_n hx hb dX6_loudness_41 rfl (lv_at hl 0 rfl) ?_
        refine g_X_now hx hb hown hK hW kF_RX6_12 dX6_loudness_42 ?_
        refine g_State_values (i := 0) hx hb hown hK hW (by omega) kF_RX6_94 dX6_loudness_45 ?_
        refine lv_iload_n hx hb dX6_loudness_48 rfl (lv_at hl 3 rfl) ?_
        obtain ⟨hk3, hf⟩ := gd_inv hf
        refine l_St1 (i := 0) hx hb hK hW (by omega) rfl hk3 dX6_loudness_49 ?_
        refine lv_aload_n hx hb dX6_loudness_50 rfl (lv_at hl 0 rfl) ?_
        refine g_X_now hx hb hown hK hW kF_RX6_12 dX6_loudness_51 ?_
        refine g_State_values (i := 0) hx hb hown hK hW (by omega) kF_RX6_94 dX6_loudness_54 ?_
        refine lv_iload_n hx hb dX6_loudness_57 rfl (lv_at hl 3 rfl) ?_
        obtain ⟨hk4, hf⟩ := gd_inv hf
        refine l_St1 (i := 0) hx hb hK hW (by omega) rfl hk4 dX6_loudness_58 ?_
        refine lv_imul hx hb dX6_loudness_59 ?_
        refine lv_iadd hx hb dX6_loudness_60 ?_
        refine lv_topi (fun x2_5 ex2_5 => ?_)
        have hf := nm_use ex2_5 hf
        refine lv_istore_n (lv' := [(2, .int x2_5), (0, .ref (eA E 0)), (1, .int x1), (3, .int x3)]) hx hb dX6_loudness_61 rfl hl (by decide) rfl (fun ls hl => ?_)
        obtain ⟨x3_6, ex3_6⟩ : ∃ y : Int32, y = (x3 + 1) := ⟨_, rfl⟩
        have hf := nm_use ex3_6 hf
        refine lv_iinc (v := x3_6) (lv' := [(3, .int x3_6), (2, .int x2_5), (0, .ref (eA E 0)), (1, .int x1)]) hx hb dX6_loudness_62 hl (k := 3) rfl (by rw [ex3_6]; rfl) (by decide) rfl (fun ls hl => ?_)
        refine lv_goto (tgt := 29) hx hb dX6_loudness_65 (by decide) ?_
        exact ih29 x1 x2_5 x3_6 σ _ _ _ hW (lv_sub hl [2, 3, 1, 0] rfl) hf
  refine lv_aload_n hx hb dX6_loudness_0 rfl (lv_at hl 0 rfl) ?_
  refine g_X_now hx hb hown hK hW kF_RX6_12 dX6_loudness_1 ?_
  obtain ⟨r8, q7, hf⟩ := bd_inv hf
  refine ss_callVi (As := []) hx hb hml hown hK hW kb_X4_isCoded kM_RX6_115 rfl (okq_lt (by omega)) (c_st (i := 0) (by omega) 0 (by decide)) (mX4_isCoded l (i0 := 0) (by omega) q7) rfl dX6_loudness_4 rfl hl.1 (Nat.le_of_ble_eq_true rfl) ⟨Nat.le_of_ble_eq_true rfl, Nat.le_of_ble_eq_true rfl⟩ ⟨Nat.zero_le _, Nat.zero_le _⟩ (fun H locs hW => ?_)
  refine lv_if_ne (tgt := 12) hx hb dX6_loudness_7 (by decide) (fun c9 => ?_) (fun c9 => ?_)
  · have hf := br_n c9 hf
    refine lv_aload_n hx hb dX6_loudness_12 rfl (lv_at hl 0 rfl) ?_
    obtain ⟨r11, s12, q10, hf⟩ := bd2_inv hf
    refine ss_callVi (As := []) hx hb hml hown hK hW kb_X6_wholeError kM_RX6_315 rfl (okq_lt (by decide)) (c_fx (by decide)) (mX6_wholeError l  q10) rfl dX6_loudness_13 rfl hl.1 (Nat.le_of_ble_eq_true rfl) ⟨Nat.le_of_ble_eq_true rfl, Nat.le_of_ble_eq_true rfl⟩ ⟨Nat.zero_le _, Nat.zero_le _⟩ (fun H locs hW => ?_)
    refine lv_istore_n (lv' := [(1, .int r11), (0, .ref (eA E 0))]) hx hb dX6_loudness_16 rfl hl (by decide) rfl (fun ls hl => ?_)
    refine lv_iload_n hx hb dX6_loudness_17 rfl (lv_at hl 0 rfl) ?_
    refine lv_if_ne (tgt := 25) hx hb dX6_loudness_18 (by decide) (fun c13 => ?_) (fun c13 => ?_)
    · have hf := br_n c13 hf
      refine lv_iconst (v := 0) hx hb dX6_loudness_25 (by decide) ?_
      refine lv_istore_n (lv' := [(2, .int 0), (1, .int r11), (0, .ref (eA E 0))]) hx hb dX6_loudness_26 rfl hl (by decide) rfl (fun ls hl => ?_)
      refine lv_iconst (v := 0) hx hb dX6_loudness_27 (by decide) ?_
      refine lv_istore_n (lv' := [(3, .int 0), (2, .int 0), (1, .int r11), (0, .ref (eA E 0))]) hx hb dX6_loudness_28 rfl hl (by decide) rfl (fun ls hl => ?_)
      exact h29 80 r11 0 0 s12 _ _ _ hW (lv_sub hl [3, 2, 1, 0] rfl) hf
    · have hf := br_p c13 hf
      refine lv_ldcfw (own := RX6) hx hb hown (hK.2.1.at kC_RX6_318 _) dX6_loudness_21 ?_
      cases hf
      exact ss_fret hx hb hr hlk hW rfl dX6_loudness_24
  · have hf := br_p c9 hf
    refine lv_fconst0 hx hb dX6_loudness_10 ?_
    cases hf
    exact ss_fret hx hb hr hlk hW rfl dX6_loudness_11
def fX3_restore (i1 : Nat) (σ : Sg) : Option Sg := nm (up2 σ 1 1 ((σ 1 1) - 1)) fun s1 => gd (¬ ((s1 1 1) < 0 ∨ 6 ≤ ((s1 1 1)).toNatClampNeg)) <| nm ((s1 2 (((s1 1 1)).toNatClampNeg)).toNatClampNeg) fun j3 => gd (j3 < 9) <| bd (fX4_copyFrom i1 j3 s1) fun s5 => some s5
set_option maxHeartbeats 4000000 in
set_option maxRecDepth 100000 in
theorem mX3_restore (l : Launch) {E : En} {σ μ : Sg} {dg : Int64} {i1 : Nat} (hi1 : i1 < 9) {σ' : Sg} (hf : fX3_restore i1 σ = some σ') : Met l yX3_restore [.code yX3_restore cX3_restore 2 none] (Rm 3 103) (va_Pc [.ref (eA E 1), .ref (eA E (10 + 8 * i1))] (Wd E σ μ dg)) (Qv E σ' μ dg) 0 0 (eP E) := by
  refine ss_of (by decide) (Nat.le_of_ble_eq_true rfl) (fun p e s m below meth c hx hb hr hlk hml hown hK hW ls hl => ?_)
  have hown : s.vm.findClass RX3 = some m.cls := hown
  have hl : lv_has ls 2 [(0, .ref (eA E 1)), (1, .ref (eA E (10 + 8 * i1)))] := hl
  unfold fX3_restore at hf
  refine lv_aload_n hx hb dX3_restore_0 rfl (lv_at hl 0 rfl) ?_
  refine lv_dup hx hb dX3_restore_1 rfl ?_
  refine g_Hist_many hx hb hown hK hW kF_RX3_18 dX3_restore_2 ?_
  refine lv_iconst (v := 1) hx hb dX3_restore_5 (by decide) ?_
  refine lv_isub hx hb dX3_restore_6 ?_
  refine p_Hist_many hx hb hown hK hW kF_RX3_18 dX3_restore_7 (fun H locs hW => ?_)
  obtain ⟨s1, es1⟩ : ∃ y : Sg, y = (up2 σ 1 1 ((σ 1 1) - 1)) := ⟨_, rfl⟩
  have hf := nm_use es1 hf
  rw [← es1] at hW
  refine lv_aload_n hx hb dX3_restore_10 rfl (lv_at hl 1 rfl) ?_
  refine lv_aload_n hx hb dX3_restore_11 rfl (lv_at hl 0 rfl) ?_
  refine g_Hist_saved hx hb hown hK hW kF_RX3_12 dX3_restore_12 ?_
  refine lv_aload_n hx hb dX3_restore_15 rfl (lv_at hl 0 rfl) ?_
  refine g_Hist_many hx hb hown hK hW kF_RX3_18 dX3_restore_16 ?_
  obtain ⟨hk2, hf⟩ := gd_inv hf
  refine ss_aald hx hb hK hW (q := 2) (b := eA _ (10 + 8 * ((s1 2 (((s1 1 1)).toNatClampNeg)).toNatClampNeg))) (okq_lt (by decide)) (c_fx (by decide)) hk2 rfl dX3_restore_19 ?_
  obtain ⟨j3, ej3⟩ : ∃ y : Nat, y = ((s1 2 (((s1 1 1)).toNatClampNeg)).toNatClampNeg) := ⟨_, rfl⟩
  have hf := nm_use ej3 hf
  rw [← ej3]
  obtain ⟨hj3, hf⟩ := gd_inv hf
  obtain ⟨s5, q4, hf⟩ := bd_inv hf
  refine ss_callVv (As := [.ref (eA E (10 + 8 * j3))]) hx hb hml hown hK hW kb_X4_copyFrom kM_RX3_25 rfl (okq_lt (by omega)) (c_st (i := i1) (by omega) 0 (by decide)) (mX4_copyFrom l (i0 := i1) (i1 := j3) (by omega) (by omega) q4) rfl dX3_restore_20 rfl hl.1 (Nat.le_of_ble_eq_true rfl) ⟨Nat.le_of_ble_eq_true rfl, Nat.le_of_ble_eq_true rfl⟩ ⟨Nat.zero_le _, Nat.zero_le _⟩ (fun H locs hW => ?_)
  cases hf
  exact ss_vret hx hb hr hlk hW dX3_restore_23
