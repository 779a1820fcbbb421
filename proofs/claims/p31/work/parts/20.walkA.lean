def fX4_isCoded (i0 : Nat) (σ : Sg) : Option Int32 := if (σ (10 + 8 * i0) 3) ≤ 0 then (some 0) else (some 1)
set_option maxHeartbeats 4000000 in
set_option maxRecDepth 100000 in
theorem mX4_isCoded (l : Launch) {E : En} {σ μ : Sg} {dg : Int64} {i0 : Nat} (hi0 : i0 < 9) {r : Int32} (hf : fX4_isCoded i0 σ = some r) : Met l yX4_isCoded [.code yX4_isCoded cX4_isCoded 1 (some .boolean)] (Rm 0 0) (va_Pc [.ref (eA E (10 + 8 * i0))] (Wd E σ μ dg)) (Qi E σ μ dg r) 0 0 (eP E) := by
  refine ss_of (by decide) (Nat.le_of_ble_eq_true rfl) (fun p e s m below meth c hx hb hr hlk hml hown hK hW ls hl => ?_)
  have hown : s.vm.findClass RX4 = some m.cls := hown
  have hl : lv_has ls 1 [(0, .ref (eA E (10 + 8 * i0)))] := hl
  unfold fX4_isCoded at hf
  refine lv_aload_n hx hb dX4_isCoded_0 rfl (lv_at hl 0 rfl) ?_
  refine g_State_blocks (i := i0) hx hb hown hK hW (by omega) kF_RX4_38 dX4_isCoded_1 ?_
  refine lv_if_le (tgt := 11) hx hb dX4_isCoded_4 (by decide) (fun c1 => ?_) (fun c1 => ?_)
  · have hf := br_p c1 hf
    refine lv_iconst (v := 0) hx hb dX4_isCoded_11 (by decide) ?_
    exact ss_zret hx hb hr hlk hW (Option.some.inj hf) rfl dX4_isCoded_12
  · have hf := br_n c1 hf
    refine lv_iconst (v := 1) hx hb dX4_isCoded_7 (by decide) ?_
    refine lv_goto (tgt := 12) hx hb dX4_isCoded_8 (by decide) ?_
    exact ss_zret hx hb hr hlk hW (Option.some.inj hf) rfl dX4_isCoded_12
def fX4_lostBlocks_L4 (i0 : Nat) (n : Nat) (x1 : Int32) (x2 : Int32) (σ : Sg) : Option Int32 := match n with
  | 0 => none
  | n + 1 => if (σ (10 + 8 * i0) 3) ≤ x2 then (some x1) else (gd (¬ (x2 < 0 ∨ 32 ≤ (x2).toNatClampNeg)) <| if (σ (10 + 8 * i0 + 5) (x2).toNatClampNeg) = 0 then (nm (x2 + 1) fun x2_4 => (fun x1 x2 σ => fX4_lostBlocks_L4 i0 n x1 x2 σ) x1 x2_4 σ) else (nm (x1 + 1) fun x1_5 => nm (x2 + 1) fun x2_6 => (fun x1 x2 σ => fX4_lostBlocks_L4 i0 n x1 x2 σ) x1_5 x2_6 σ))
def fX4_lostBlocks (i0 : Nat) (σ : Sg) : Option Int32 := fX4_lostBlocks_L4 i0 80 0 0 σ
set_option maxHeartbeats 4000000 in
set_option maxRecDepth 100000 in
theorem mX4_lostBlocks (l : Launch) {E : En} {σ μ : Sg} {dg : Int64} {i0 : Nat} (hi0 : i0 < 9) {r : Int32} (hf : fX4_lostBlocks i0 σ = some r) : Met l yX4_lostBlocks [.code yX4_lostBlocks cX4_lostBlocks 3 (some .int)] (Rm 0 0) (va_Pc [.ref (eA E (10 + 8 * i0))] (Wd E σ μ dg)) (Qi E σ μ dg r) 0 0 (eP E) := by
  refine ss_of (by decide) (Nat.le_of_ble_eq_true rfl) (fun p e s m below meth c hx hb hr hlk hml hown hK hW ls hl => ?_)
  have hown : s.vm.findClass RX4 = some m.cls := hown
  have hl : lv_has ls 3 [(0, .ref (eA E (10 + 8 * i0)))] := hl
  unfold fX4_lostBlocks at hf
  have h4 : ∀ (n4 : Nat) (x1 : Int32) (x2 : Int32) (σ : Sg) (H : Heap) (locs : List Loc) (ls : Array Slot), Wk E σ μ dg s H locs → lv_has ls 3 [(0, .ref (eA E (10 + 8 * i0))), (1, .int x1), (2, .int x2)] → fX4_lostBlocks_L4 i0 n4 x1 x2 σ = some r → W p l e (Rm 0 0) s m [.ref (eA E (10 + 8 * i0))].toArray below meth c H locs 0 0 (MQ below (Qi E σ μ dg r) [.ref (eA E (10 + 8 * i0))].toArray s 0 0 (eP E)) (F0 m 4 ls []) := by
    intro n4
    induction n4 with
    | zero =>
      intro x1 x2 σ  H locs ls hW hl hf
      exact absurd hf (by simp [fX4_lostBlocks_L4])
    | succ n4 ih4 =>
      intro x1 x2 σ  H locs ls hW hl hf
      rw [fX4_lostBlocks_L4] at hf
      refine lv_iload_n hx hb dX4_lostBlocks_4 rfl (lv_at hl 2 rfl) ?_
      refine lv_aload_n hx hb dX4_lostBlocks_5 rfl (lv_at hl 0 rfl) ?_
      refine g_State_blocks (i := i0) hx hb hown hK hW (by omega) kF_RX4_38 dX4_lostBlocks_6 ?_
      refine lv_icmp_ge (tgt := 30) hx hb dX4_lostBlocks_9 (by decide) (fun c1 => ?_) (fun c1 => ?_)
      · have hf := br_p c1 hf
        refine lv_iload_n hx hb dX4_lostBlocks_30 rfl (lv_at hl 1 rfl) ?_
        exact ss_iret hx hb hr hlk hW (Option.some.inj hf) dX4_lostBlocks_31
      · have hf := br_n c1 hf
        refine lv_aload_n hx hb dX4_lostBlocks_12 rfl (lv_at hl 0 rfl) ?_
        refine g_State_lost (i := i0) hx hb hown hK hW (by omega) kF_RX4_28 dX4_lostBlocks_13 ?_
        refine lv_iload_n hx hb dX4_lostBlocks_16 rfl (lv_at hl 2 rfl) ?_
        obtain ⟨hk2, hf⟩ := gd_inv hf
        refine l_St5 (i := i0) hx hb hK hW (by omega) rfl hk2 dX4_lostBlocks_17 ?_
        refine lv_if_eq (tgt := 24) hx hb dX4_lostBlocks_18 (by decide) (fun c3 => ?_) (fun c3 => ?_)
        · have hf := br_p c3 hf
          obtain ⟨x2_4, ex2_4⟩ : ∃ y : Int32, y = (x2 + 1) := ⟨_, rfl⟩
          have hf := nm_use ex2_4 hf
          refine lv_iinc (v := x2_4) (lv' := [(2, .int x2_4), (0, .ref (eA E (10 + 8 * i0))), (1, .int x1)]) hx hb dX4_lostBlocks_24 hl (k := 2) rfl (by rw [ex2_4]; rfl) (by decide) rfl (fun ls hl => ?_)
          refine lv_goto (tgt := 4) hx hb dX4_lostBlocks_27 (by decide) ?_
          exact ih4 x1 x2_4 σ _ _ _ hW (lv_sub hl [1, 2, 0] rfl) hf
        · have hf := br_n c3 hf
          obtain ⟨x1_5, ex1_5⟩ : ∃ y : Int32, y = (x1 + 1) := ⟨_, rfl⟩
          have hf := nm_use ex1_5 hf
          refine lv_iinc (v := x1_5) (lv' := [(1, .int x1_5), (0, .ref (eA E (10 + 8 * i0))), (2, .int x2)]) hx hb dX4_lostBlocks_21 hl (k := 1) rfl (by rw [ex1_5]; rfl) (by decide) rfl (fun ls hl => ?_)
          obtain ⟨x2_6, ex2_6⟩ : ∃ y : Int32, y = (x2 + 1) := ⟨_, rfl⟩
          have hf := nm_use ex2_6 hf
          refine lv_iinc (v := x2_6) (lv' := [(2, .int x2_6), (1, .int x1_5), (0, .ref (eA E (10 + 8 * i0)))]) hx hb dX4_lostBlocks_24 hl (k := 2) rfl (by rw [ex2_6]; rfl) (by decide) rfl (fun ls hl => ?_)
          refine lv_goto (tgt := 4) hx hb dX4_lostBlocks_27 (by decide) ?_
          exact ih4 x1_5 x2_6 σ _ _ _ hW (lv_sub hl [2, 1, 0] rfl) hf
  refine lv_iconst (v := 0) hx hb dX4_lostBlocks_0 (by decide) ?_
  refine lv_istore_n (lv' := [(1, .int 0), (0, .ref (eA E (10 + 8 * i0)))]) hx hb dX4_lostBlocks_1 rfl hl (by decide) rfl (fun ls hl => ?_)
  refine lv_iconst (v := 0) hx hb dX4_lostBlocks_2 (by decide) ?_
  refine lv_istore_n (lv' := [(2, .int 0), (1, .int 0), (0, .ref (eA E (10 + 8 * i0)))]) hx hb dX4_lostBlocks_3 rfl hl (by decide) rfl (fun ls hl => ?_)
  exact h4 80 0 0 σ _ _ _ hW (lv_sub hl [2, 1, 0] rfl) hf
def fX4_startOf (i0 : Nat) (a1 : Int32) (σ : Sg) : Option Int32 := some (a1 * (σ (10 + 8 * i0 + 2) 0))
set_option maxHeartbeats 4000000 in
set_option maxRecDepth 100000 in
theorem mX4_startOf (l : Launch) {E : En} {σ μ : Sg} {dg : Int64} {i0 : Nat} {a1 : Int32} (hi0 : i0 < 9) {r : Int32} (hf : fX4_startOf i0 a1 σ = some r) : Met l yX4_startOf [.code yX4_startOf cX4_startOf 2 (some .int)] (Rm 0 0) (va_Pc [.ref (eA E (10 + 8 * i0)), .int a1] (Wd E σ μ dg)) (Qi E σ μ dg r) 0 0 (eP E) := by
  refine ss_of (by decide) (Nat.le_of_ble_eq_true rfl) (fun p e s m below meth c hx hb hr hlk hml hown hK hW ls hl => ?_)
  have hown : s.vm.findClass RX4 = some m.cls := hown
  have hl : lv_has ls 2 [(0, .ref (eA E (10 + 8 * i0))), (1, .int a1)] := hl
  unfold fX4_startOf at hf
  refine lv_iload_n hx hb dX4_startOf_0 rfl (lv_at hl 1 rfl) ?_
  refine lv_aload_n hx hb dX4_startOf_1 rfl (lv_at hl 0 rfl) ?_
  refine g_State_settings (i := i0) hx hb hown hK hW (by omega) kF_RX4_19 dX4_startOf_2 ?_
  refine lv_iconst (v := 0) hx hb dX4_startOf_5 (by decide) ?_
  refine l_St2 (i := i0) (k0 := 0) hx hb hK hW (by omega) (by decide) (show ¬ ((0 : Int32) < 0 ∨ 3 ≤ (0 : Int32).toNatClampNeg) by decide) dX4_startOf_6 ?_
  refine lv_imul hx hb dX4_startOf_7 ?_
  exact ss_iret hx hb hr hlk hW (Option.some.inj hf) dX4_startOf_8
def fX4_endOf (i0 : Nat) (a1 : Int32) (σ : Sg) : Option Int32 := bd (fX4_startOf i0 a1 σ) fun r2 => some (mnI (σ (10 + 8 * i0) 0) (r2 + (σ (10 + 8 * i0 + 2) 0)))
set_option maxHeartbeats 4000000 in
set_option maxRecDepth 100000 in
theorem mX4_endOf (l : Launch) {E : En} {σ μ : Sg} {dg : Int64} {i0 : Nat} {a1 : Int32} (hi0 : i0 < 9) {r : Int32} (hf : fX4_endOf i0 a1 σ = some r) : Met l yX4_endOf [.code yX4_endOf cX4_endOf 2 (some .int)] (Rm 1 21) (va_Pc [.ref (eA E (10 + 8 * i0)), .int a1] (Wd E σ μ dg)) (Qi E σ μ dg r) 0 0 (eP E) := by
  refine ss_of (by decide) (Nat.le_of_ble_eq_true rfl) (fun p e s m below meth c hx hb hr hlk hml hown hK hW ls hl => ?_)
  have hown : s.vm.findClass RX4 = some m.cls := hown
  have hl : lv_has ls 2 [(0, .ref (eA E (10 + 8 * i0))), (1, .int a1)] := hl
  unfold fX4_endOf at hf
  refine lv_aload_n hx hb dX4_endOf_0 rfl (lv_at hl 0 rfl) ?_
  refine g_State_many (i := i0) hx hb hown hK hW (by omega) kF_RX4_9 dX4_endOf_1 ?_
  refine lv_aload_n hx hb dX4_endOf_4 rfl (lv_at hl 0 rfl) ?_
  refine lv_iload_n hx hb dX4_endOf_5 rfl (lv_at hl 1 rfl) ?_
  obtain ⟨r2, q1, hf⟩ := bd_inv hf
  refine ss_callVi (As := [.int a1]) hx hb hml hown hK hW kb_X4_startOf kM_RX4_62 rfl (okq_lt (by omega)) (c_st (i := i0) (by omega) 0 (by decide)) (mX4_startOf l (i0 := i0) (a1 := a1) (by omega) q1) rfl dX4_endOf_6 rfl hl.1 (Nat.le_of_ble_eq_true rfl) ⟨Nat.le_of_ble_eq_true rfl, Nat.le_of_ble_eq_true rfl⟩ ⟨Nat.zero_le _, Nat.zero_le _⟩ (fun H locs hW => ?_)
  refine lv_aload_n hx hb dX4_endOf_9 rfl (lv_at hl 0 rfl) ?_
  refine g_State_settings (i := i0) hx hb hown hK hW (by omega) kF_RX4_19 dX4_endOf_10 ?_
  refine lv_iconst (v := 0) hx hb dX4_endOf_13 (by decide) ?_
  refine l_St2 (i := i0) (k0 := 0) hx hb hK hW (by omega) (by decide) (show ¬ ((0 : Int32) < 0 ∨ 3 ≤ (0 : Int32).toNatClampNeg) by decide) dX4_endOf_14 ?_
  refine lv_iadd hx hb dX4_endOf_15 ?_
  refine ss_min hx hb hml hl.1 hown hK kM_RX4_66 kMs_min kMi kMc_min ⟨Nat.le_of_ble_eq_true rfl, Nat.le_of_ble_eq_true rfl⟩ ⟨Nat.zero_le _, Nat.zero_le _⟩ dX4_endOf_16 ?_
  show W p l e _ s m _ below meth c _ _ 0 0 _ (F0 m 19 ls ([.int (mnI (σ (10 + 8 * i0) 0) (r2 + (σ (10 + 8 * i0 + 2) 0)))]))
  exact ss_iret hx hb hr hlk hW (Option.some.inj hf) dX4_endOf_19
def fX2_fillingOf (i0 : Nat) (i1 : Nat) (a2 : Int32) (a3 : Int32) (σ : Sg) : Option Int32 := nm (σ (10 + 8 * i1 + 2) 2) fun x4_1 => if a2 = 0 then (some 0) else (if x4_1 = 1 then (some 0) else (if x4_1 = 0 then (bd (fX4_startOf i1 a2 σ) fun r7 => gd (¬ ((r7 - 1) < 0 ∨ 64 ≤ ((r7 - 1)).toNatClampNeg)) <| some (σ (86 + 3 * i0 + 1) ((r7 - 1)).toNatClampNeg)) else (gd (¬ ((a3 - (σ (10 + 8 * i1 + 2) 0)) < 0 ∨ 64 ≤ ((a3 - (σ (10 + 8 * i1 + 2) 0))).toNatClampNeg)) <| some (σ (86 + 3 * i0 + 1) ((a3 - (σ (10 + 8 * i1 + 2) 0))).toNatClampNeg))))
set_option maxHeartbeats 4000000 in
set_option maxRecDepth 100000 in
theorem mX2_fillingOf (l : Launch) {E : En} {σ μ : Sg} {dg : Int64} {i0 : Nat} {i1 : Nat} {a2 : Int32} {a3 : Int32} (hi0 : i0 < 2) (hi1 : i1 < 9) {r : Int32} (hf : fX2_fillingOf i0 i1 a2 a3 σ = some r) : Met l yX2_fillingOf [.code yX2_fillingOf cX2_fillingOf 5 (some .int)] (Rm 1 21) (va_Pc [.ref (eA E (86 + 3 * i0)), .ref (eA E (10 + 8 * i1)), .int a2, .int a3] (Wd E σ μ dg)) (Qi E σ μ dg r) 0 0 (eP E) := by
  refine ss_of (by decide) (Nat.le_of_ble_eq_true rfl) (fun p e s m below meth c hx hb hr hlk hml hown hK hW ls hl => ?_)
  have hown : s.vm.findClass RX2 = some m.cls := hown
  have hl : lv_has ls 5 [(0, .ref (eA E (86 + 3 * i0))), (1, .ref (eA E (10 + 8 * i1))), (2, .int a2), (3, .int a3)] := hl
  unfold fX2_fillingOf at hf
  refine lv_aload_n hx hb dX2_fillingOf_0 rfl (lv_at hl 1 rfl) ?_
  refine g_State_settings (i := i1) hx hb hown hK hW (by omega) kF_RX2_80 dX2_fillingOf_1 ?_
  refine lv_iconst (v := 2) hx hb dX2_fillingOf_4 (by decide) ?_
  refine l_St2 (i := i1) (k0 := 2) hx hb hK hW (by omega) (by decide) (show ¬ ((2 : Int32) < 0 ∨ 3 ≤ (2 : Int32).toNatClampNeg) by decide) dX2_fillingOf_5 ?_
  refine lv_topi (fun x4_1 ex4_1 => ?_)
  have hf := nm_use ex4_1 hf
  refine lv_istore (lv' := [(4, .int x4_1), (0, .ref (eA E (86 + 3 * i0))), (1, .ref (eA E (10 + 8 * i1))), (2, .int a2), (3, .int a3)]) hx hb dX2_fillingOf_6 hl (by decide) rfl (fun ls hl => ?_)
  refine lv_iload_n hx hb dX2_fillingOf_8 rfl (lv_at hl 3 rfl) ?_
  refine lv_if_eq (tgt := 18) hx hb dX2_fillingOf_9 (by decide) (fun c2 => ?_) (fun c2 => ?_)
  · have hf := br_p c2 hf
    refine lv_iconst (v := 0) hx hb dX2_fillingOf_18 (by decide) ?_
    exact ss_iret hx hb hr hlk hW (Option.some.inj hf) dX2_fillingOf_19
  · have hf := br_n c2 hf
    refine lv_iload hx hb dX2_fillingOf_12 (lv_at hl 0 rfl) ?_
    refine lv_iconst (v := 1) hx hb dX2_fillingOf_14 (by decide) ?_
    refine lv_icmp_ne (tgt := 20) hx hb dX2_fillingOf_15 (by decide) (fun c3 => ?_) (fun c3 => ?_)
    · have hf := br_n c3 hf
      refine lv_iload hx hb dX2_fillingOf_20 (lv_at hl 0 rfl) ?_
      refine lv_if_ne (tgt := 38) hx hb dX2_fillingOf_22 (by decide) (fun c4 => ?_) (fun c4 => ?_)
      · have hf := br_n c4 hf
        refine lv_aload_n hx hb dX2_fillingOf_38 rfl (lv_at hl 1 rfl) ?_
        refine g_Dec_made (i := i0) hx hb hown hK hW (by omega) kF_RX2_9 dX2_fillingOf_39 ?_
        refine lv_iload_n hx hb dX2_fillingOf_42 rfl (lv_at hl 4 rfl) ?_
        refine lv_aload_n hx hb dX2_fillingOf_43 rfl (lv_at hl 2 rfl) ?_
        refine g_State_settings (i := i1) hx hb hown hK hW (by omega) kF_RX2_80 dX2_fillingOf_44 ?_
        refine lv_iconst (v := 0) hx hb dX2_fillingOf_47 (by decide) ?_
        refine l_St2 (i := i1) (k0 := 0) hx hb hK hW (by omega) (by decide) (show ¬ ((0 : Int32) < 0 ∨ 3 ≤ (0 : Int32).toNatClampNeg) by decide) dX2_fillingOf_48 ?_
        refine lv_isub hx hb dX2_fillingOf_49 ?_
        obtain ⟨hk5, hf⟩ := gd_inv hf
        refine l_De1 (i := i0) hx hb hK hW (by omega) rfl hk5 dX2_fillingOf_50 ?_
        exact ss_iret hx hb hr hlk hW (Option.some.inj hf) dX2_fillingOf_51
      · have hf := br_p c4 hf
        refine lv_aload_n hx hb dX2_fillingOf_25 rfl (lv_at hl 1 rfl) ?_
        refine g_Dec_made (i := i0) hx hb hown hK hW (by omega) kF_RX2_9 dX2_fillingOf_26 ?_
        refine lv_aload_n hx hb dX2_fillingOf_29 rfl (lv_at hl 2 rfl) ?_
        refine lv_iload_n hx hb dX2_fillingOf_30 rfl (lv_at hl 3 rfl) ?_
        obtain ⟨r7, q6, hf⟩ := bd_inv hf
        refine ss_callVi (As := [.int a2]) hx hb hml hown hK hW kb_X4_startOf kM_RX2_46 rfl (okq_lt (by omega)) (c_st (i := i1) (by omega) 0 (by decide)) (mX4_startOf l (i0 := i1) (a1 := a2) (by omega) q6) rfl dX2_fillingOf_31 rfl hl.1 (Nat.le_of_ble_eq_true rfl) ⟨Nat.le_of_ble_eq_true rfl, Nat.le_of_ble_eq_true rfl⟩ ⟨Nat.zero_le _, Nat.zero_le _⟩ (fun H locs hW => ?_)
        refine lv_iconst (v := 1) hx hb dX2_fillingOf_34 (by decide) ?_
        refine lv_isub hx hb dX2_fillingOf_35 ?_
        obtain ⟨hk8, hf⟩ := gd_inv hf
        refine l_De1 (i := i0) hx hb hK hW (by omega) rfl hk8 dX2_fillingOf_36 ?_
        exact ss_iret hx hb hr hlk hW (Option.some.inj hf) dX2_fillingOf_37
    · have hf := br_p c3 hf
      refine lv_iconst (v := 0) hx hb dX2_fillingOf_18 (by decide) ?_
      exact ss_iret hx hb hr hlk hW (Option.some.inj hf) dX2_fillingOf_19
def fX2_fillBlock_L6 (i0 : Nat) (i1 : Nat) (a2 : Int32) (n : Nat) (x3 : Int32) (σ : Sg) : Option Sg := match n with
  | 0 => none
  | n + 1 => bd (fX4_endOf i1 a2 σ) fun r2 => if r2 ≤ x3 then (some σ) else (bd (fX2_fillingOf i0 i1 a2 x3 σ) fun r5 => gd (¬ (x3 < 0 ∨ 64 ≤ (x3).toNatClampNeg)) <| nm (up2 σ (86 + 3 * i0 + 1) ((x3).toNatClampNeg) r5) fun s7 => gd (¬ (x3 < 0 ∨ 64 ≤ (x3).toNatClampNeg)) <| nm (up2 s7 (86 + 3 * i0 + 2) ((x3).toNatClampNeg) (-1)) fun s9 => nm (x3 + 1) fun x3_10 => (fun x3 σ => fX2_fillBlock_L6 i0 i1 a2 n x3 σ) x3_10 s9)
def fX2_fillBlock (i0 : Nat) (i1 : Nat) (a2 : Int32) (σ : Sg) : Option Sg := bd (fX4_startOf i1 a2 σ) fun r12 => fX2_fillBlock_L6 i0 i1 a2 80 r12 σ
set_option maxHeartbeats 4000000 in
set_option maxRecDepth 100000 in
theorem mX2_fillBlock (l : Launch) {E : En} {σ μ : Sg} {dg : Int64} {i0 : Nat} {i1 : Nat} {a2 : Int32} (hi0 : i0 < 2) (hi1 : i1 < 9) {σ' : Sg} (hf : fX2_fillBlock i0 i1 a2 σ = some σ') : Met l yX2_fillBlock [.code yX2_fillBlock cX2_fillBlock 4 none] (Rm 2 45) (va_Pc [.ref (eA E (86 + 3 * i0)), .ref (eA E (10 + 8 * i1)), .int a2] (Wd E σ μ dg)) (Qv E σ' μ dg) 0 0 (eP E) := by
  refine ss_of (by decide) (Nat.le_of_ble_eq_true rfl) (fun p e s m below meth c hx hb hr hlk hml hown hK hW ls hl => ?_)
  have hown : s.vm.findClass RX2 = some m.cls := hown
  have hl : lv_has ls 4 [(0, .ref (eA E (86 + 3 * i0))), (1, .ref (eA E (10 + 8 * i1))), (2, .int a2)] := hl
  unfold fX2_fillBlock at hf
  have h6 : ∀ (n6 : Nat) (x3 : Int32) (σ : Sg) (H : Heap) (locs : List Loc) (ls : Array Slot), Wk E σ μ dg s H locs → lv_has ls 4 [(0, .ref (eA E (86 + 3 * i0))), (1, .ref (eA E (10 + 8 * i1))), (2, .int a2), (3, .int x3)] → fX2_fillBlock_L6 i0 i1 a2 n6 x3 σ = some σ' → W p l e (Rm 2 45) s m [.ref (eA E (86 + 3 * i0)), .ref (eA E (10 + 8 * i1)), .int a2].toArray below meth c H locs 0 0 (MQ below (Qv E σ' μ dg) [.ref (eA E (86 + 3 * i0)), .ref (eA E (10 + 8 * i1)), .int a2].toArray s 0 0 (eP E)) (F0 m 6 ls []) := by
    intro n6
    induction n6 with
    | zero =>
      intro x3 σ  H locs ls hW hl hf
      exact absurd hf (by simp [fX2_fillBlock_L6])
    | succ n6 ih6 =>
      intro x3 σ  H locs ls hW hl hf
      rw [fX2_fillBlock_L6] at hf
      refine lv_iload_n hx hb dX2_fillBlock_6 rfl (lv_at hl 3 rfl) ?_
      refine lv_aload_n hx hb dX2_fillBlock_7 rfl (lv_at hl 1 rfl) ?_
      refine lv_iload_n hx hb dX2_fillBlock_8 rfl (lv_at hl 2 rfl) ?_
      obtain ⟨r2, q1, hf⟩ := bd_inv hf
      refine ss_callVi (As := [.int a2]) hx hb hml hown hK hW kb_X4_endOf kM_RX2_60 rfl (okq_lt (by omega)) (c_st (i := i1) (by omega) 0 (by decide)) (mX4_endOf l (i0 := i1) (a1 := a2) (by omega) q1) rfl dX2_fillBlock_9 rfl hl.1 (Nat.le_of_ble_eq_true rfl) ⟨Nat.le_of_ble_eq_true rfl, Nat.le_of_ble_eq_true rfl⟩ ⟨Nat.zero_le _, Nat.zero_le _⟩ (fun H locs hW => ?_)
      refine lv_icmp_ge (tgt := 41) hx hb dX2_fillBlock_12 (by decide) (fun c3 => ?_) (fun c3 => ?_)
      · have hf := br_p c3 hf
        cases hf
        exact ss_vret hx hb hr hlk hW dX2_fillBlock_41
      · have hf := br_n c3 hf
        refine lv_aload_n hx hb dX2_fillBlock_15 rfl (lv_at hl 0 rfl) ?_
        refine g_Dec_made (i := i0) hx hb hown hK hW (by omega) kF_RX2_9 dX2_fillBlock_16 ?_
        refine lv_iload_n hx hb dX2_fillBlock_19 rfl (lv_at hl 3 rfl) ?_
        refine lv_aload_n hx hb dX2_fillBlock_20 rfl (lv_at hl 0 rfl) ?_
        refine lv_aload_n hx hb dX2_fillBlock_21 rfl (lv_at hl 1 rfl) ?_
        refine lv_iload_n hx hb dX2_fillBlock_22 rfl (lv_at hl 2 rfl) ?_
        refine lv_iload_n hx hb dX2_fillBlock_23 rfl (lv_at hl 3 rfl) ?_
        obtain ⟨r5, q4, hf⟩ := bd_inv hf
        refine ss_callVi (As := [.ref (eA E (10 + 8 * i1)), .int a2, .int x3]) hx hb hml hown hK hW kb_X2_fillingOf kM_RX2_76 rfl (okq_lt (by omega)) (c_dc (d := i0) (by omega) 0 (by decide)) (mX2_fillingOf l (i0 := i0) (i1 := i1) (a2 := a2) (a3 := x3) (by omega) (by omega) q4) rfl dX2_fillBlock_24 rfl hl.1 (Nat.le_of_ble_eq_true rfl) ⟨Nat.le_of_ble_eq_true rfl, Nat.le_of_ble_eq_true rfl⟩ ⟨Nat.zero_le _, Nat.zero_le _⟩ (fun H locs hW => ?_)
        obtain ⟨hk6, hf⟩ := gd_inv hf
        refine s_De1 (i := i0) hx hb hK hW (by omega) rfl hk6 dX2_fillBlock_27 (fun H locs hW => ?_)
        obtain ⟨s7, es7⟩ : ∃ y : Sg, y = (up2 σ (86 + 3 * i0 + 1) ((x3).toNatClampNeg) r5) := ⟨_, rfl⟩
        have hf := nm_use es7 hf
        rw [← es7] at hW
        refine lv_aload_n hx hb dX2_fillBlock_28 rfl (lv_at hl 0 rfl) ?_
        refine g_Dec_numbers (i := i0) hx hb hown hK hW (by omega) kF_RX2_15 dX2_fillBlock_29 ?_
        refine lv_iload_n hx hb dX2_fillBlock_32 rfl (lv_at hl 3 rfl) ?_
        refine lv_iconst (v := (-1)) hx hb dX2_fillBlock_33 (by decide) ?_
        obtain ⟨hk8, hf⟩ := gd_inv hf
        refine s_De2 (i := i0) hx hb hK hW (by omega) rfl hk8 dX2_fillBlock_34 (fun H locs hW => ?_)
        obtain ⟨s9, es9⟩ : ∃ y : Sg, y = (up2 s7 (86 + 3 * i0 + 2) ((x3).toNatClampNeg) (-1)) := ⟨_, rfl⟩
        have hf := nm_use es9 hf
        rw [← es9] at hW
        obtain ⟨x3_10, ex3_10⟩ : ∃ y : Int32, y = (x3 + 1) := ⟨_, rfl⟩
        have hf := nm_use ex3_10 hf
        refine lv_iinc (v := x3_10) (lv' := [(3, .int x3_10), (0, .ref (eA E (86 + 3 * i0))), (1, .ref (eA E (10 + 8 * i1))), (2, .int a2)]) hx hb dX2_fillBlock_35 hl (k := 3) rfl (by rw [ex3_10]; rfl) (by decide) rfl (fun ls hl => ?_)
        refine lv_goto (tgt := 6) hx hb dX2_fillBlock_38 (by decide) ?_
        exact ih6 x3_10 s9 _ _ _ hW (lv_sub hl [1, 2, 3, 0] rfl) hf
  refine lv_aload_n hx hb dX2_fillBlock_0 rfl (lv_at hl 1 rfl) ?_
  refine lv_iload_n hx hb dX2_fillBlock_1 rfl (lv_at hl 2 rfl) ?_
  obtain ⟨r12, q11, hf⟩ := bd_inv hf
  refine ss_callVi (As := [.int a2]) hx hb hml hown hK hW kb_X4_startOf kM_RX2_46 rfl (okq_lt (by omega)) (c_st (i := i1) (by omega) 0 (by decide)) (mX4_startOf l (i0 := i1) (a1 := a2) (by omega) q11) rfl dX2_fillBlock_2 rfl hl.1 (Nat.le_of_ble_eq_true rfl) ⟨Nat.le_of_ble_eq_true rfl, Nat.le_of_ble_eq_true rfl⟩ ⟨Nat.zero_le _, Nat.zero_le _⟩ (fun H locs hW => ?_)
  refine lv_istore_n (lv' := [(3, .int r12), (0, .ref (eA E (86 + 3 * i0))), (1, .ref (eA E (10 + 8 * i1))), (2, .int a2)]) hx hb dX2_fillBlock_5 rfl hl (by decide) rfl (fun ls hl => ?_)
  exact h6 80 r12 σ _ _ _ hW (lv_sub hl [1, 2, 3, 0] rfl) hf
def fX5_begin (i0 : Nat) (a1 : Int32) (a2 : Int32) (σ : Sg) : Option Sg := nm (up2 σ (82 + i0) 0 a1) fun s1 => nm (up2 s1 (82 + i0) 1 a2) fun s2 => some s2
set_option maxHeartbeats 4000000 in
set_option maxRecDepth 100000 in
theorem mX5_begin (l : Launch) {E : En} {σ μ : Sg} {dg : Int64} {i0 : Nat} {a1 : Int32} {a2 : Int32} (hi0 : i0 < 4) {σ' : Sg} (hf : fX5_begin i0 a1 a2 σ = some σ') : Met l yX5_begin [.code yX5_begin cX5_begin 3 none] (Rm 0 0) (va_Pc [.ref (eA E (82 + i0)), .int a1, .int a2] (Wd E σ μ dg)) (Qv E σ' μ dg) 0 0 (eP E) := by
  refine ss_of (by decide) (Nat.le_of_ble_eq_true rfl) (fun p e s m below meth c hx hb hr hlk hml hown hK hW ls hl => ?_)
  have hown : s.vm.findClass RX5 = some m.cls := hown
  have hl : lv_has ls 3 [(0, .ref (eA E (82 + i0))), (1, .int a1), (2, .int a2)] := hl
  unfold fX5_begin at hf
  refine lv_aload_n hx hb dX5_begin_0 rfl (lv_at hl 0 rfl) ?_
  refine lv_iload_n hx hb dX5_begin_1 rfl (lv_at hl 1 rfl) ?_
  refine p_Walk_guess (i := i0) hx hb hown hK hW (by omega) kF_RX5_15 dX5_begin_2 (fun H locs hW => ?_)
  obtain ⟨s1, es1⟩ : ∃ y : Sg, y = (up2 σ (82 + i0) 0 a1) := ⟨_, rfl⟩
  have hf := nm_use es1 hf
  rw [← es1] at hW
  refine lv_aload_n hx hb dX5_begin_5 rfl (lv_at hl 0 rfl) ?_
  refine lv_iload_n hx hb dX5_begin_6 rfl (lv_at hl 2 rfl) ?_
  refine p_Walk_number (i := i0) hx hb hown hK hW (by omega) kF_RX5_19 dX5_begin_7 (fun H locs hW => ?_)
  obtain ⟨s2, es2⟩ : ∃ y : Sg, y = (up2 s1 (82 + i0) 1 a2) := ⟨_, rfl⟩
  have hf := nm_use es2 hf
  rw [← es2] at hW
  cases hf
  exact ss_vret hx hb hr hlk hW dX5_begin_10
def fX5_stepOf (a0 : Int32) : Option Int32 := if a0 < 0 then (some 0) else (if 49 ≤ a0 then (some 0) else (gd (¬ (a0 < 0 ∨ 49 ≤ (a0).toNatClampNeg)) <| some (stepsL.getD (a0).toNatClampNeg 0)))
set_option maxHeartbeats 4000000 in
set_option maxRecDepth 100000 in
theorem mX5_stepOf (l : Launch) {E : En} {σ μ : Sg} {dg : Int64} {a0 : Int32}  {r : Int32} (hf : fX5_stepOf a0 = some r) : Met l yX5_stepOf [.code yX5_stepOf cX5_stepOf 1 (some .int)] (Rm 0 0) (va_Pc [.int a0] (Wd E σ μ dg)) (Qi E σ μ dg r) 0 0 (eP E) := by
  refine ss_of (by decide) (Nat.le_of_ble_eq_true rfl) (fun p e s m below meth c hx hb hr hlk hml hown hK hW ls hl => ?_)
  have hown : s.vm.findClass RX5 = some m.cls := hown
  have hl : lv_has ls 1 [(0, .int a0)] := hl
  unfold fX5_stepOf at hf
  refine lv_iload_n hx hb dX5_stepOf_0 rfl (lv_at hl 0 rfl) ?_
  refine lv_if_lt (tgt := 20) hx hb dX5_stepOf_1 (by decide) (fun c1 => ?_) (fun c1 => ?_)
  · have hf := br_p c1 hf
    refine lv_iconst (v := 0) hx hb dX5_stepOf_20 (by decide) ?_
    exact ss_iret hx hb hr hlk hW (Option.some.inj hf) dX5_stepOf_21
  · have hf := br_n c1 hf
    refine lv_iload_n hx hb dX5_stepOf_4 rfl (lv_at hl 0 rfl) ?_
    refine ss_gets hx hb hown hK hW kF_RX5_9 dX5_stepOf_5 ?_
    refine ss_tlen hx hb hK hW dX5_stepOf_8 ?_
    refine lv_icmp_ge (tgt := 20) hx hb dX5_stepOf_9 (by decide) (fun c2 => ?_) (fun c2 => ?_)
    · have hf := br_p c2 hf
      refine lv_iconst (v := 0) hx hb dX5_stepOf_20 (by decide) ?_
      exact ss_iret hx hb hr hlk hW (Option.some.inj hf) dX5_stepOf_21
    · have hf := br_n c2 hf
      refine ss_gets hx hb hown hK hW kF_RX5_9 dX5_stepOf_12 ?_
      refine lv_iload_n hx hb dX5_stepOf_15 rfl (lv_at hl 0 rfl) ?_
      obtain ⟨hk3, hf⟩ := gd_inv hf
      refine ss_ti hx hb hK hW hk3 dX5_stepOf_16 ?_
      refine lv_goto (tgt := 21) hx hb dX5_stepOf_17 (by decide) ?_
      exact ss_iret hx hb hr hlk hW (Option.some.inj hf) dX5_stepOf_21
def fX5_changeBy_b27 (a0 : Int32) (a1 : Int32) (x2 : Int32) : Option Int32 := if (a1 &&& 1) = 0 then (some x2) else (nm (x2 + (a0 / 4)) fun x2_2 => some x2_2)
def fX5_changeBy_b15 (a0 : Int32) (a1 : Int32) (x2 : Int32) : Option Int32 := if (a1 &&& 2) = 0 then (fX5_changeBy_b27 a0 a1 x2) else (nm (x2 + (a0 / 2)) fun x2_4 => fX5_changeBy_b27 a0 a1 x2_4)
def fX5_changeBy (a0 : Int32) (a1 : Int32) : Option Int32 := nm (a0 / 8) fun x2_5 => if (a1 &&& 4) = 0 then (fX5_changeBy_b15 a0 a1 x2_5) else (nm (x2_5 + a0) fun x2_7 => fX5_changeBy_b15 a0 a1 x2_7)
set_option maxHeartbeats 4000000 in
set_option maxRecDepth 100000 in
theorem mX5_changeBy (l : Launch) {E : En} {σ μ : Sg} {dg : Int64} {a0 : Int32} {a1 : Int32}  {r : Int32} (hf : fX5_changeBy a0 a1 = some r) : Met l yX5_changeBy [.code yX5_changeBy cX5_changeBy 3 (some .int)] (Rm 0 0) (va_Pc [.int a0, .int a1] (Wd E σ μ dg)) (Qi E σ μ dg r) 0 0 (eP E) := by
  refine ss_of (by decide) (Nat.le_of_ble_eq_true rfl) (fun p e s m below meth c hx hb hr hlk hml hown hK hW ls hl => ?_)
  have hown : s.vm.findClass RX5 = some m.cls := hown
  have hl : lv_has ls 3 [(0, .int a0), (1, .int a1)] := hl
  unfold fX5_changeBy at hf
  have h27 : ∀ (x2 : Int32) (H : Heap) (locs : List Loc) (ls : Array Slot), Wk E σ μ dg s H locs → lv_has ls 3 [(0, .int a0), (1, .int a1), (2, .int x2)] → fX5_changeBy_b27 a0 a1 x2 = some r → W p l e (Rm 0 0) s m [.int a0, .int a1].toArray below meth c H locs 0 0 (MQ below (Qi E σ μ dg r) [.int a0, .int a1].toArray s 0 0 (eP E)) (F0 m 27 ls []) := by
    intro x2  H locs ls hW hl hf
    unfold fX5_changeBy_b27 at hf
    refine lv_iload_n hx hb dX5_changeBy_27 rfl (lv_at hl 1 rfl) ?_
    refine lv_iconst (v := 1) hx hb dX5_changeBy_28 (by decide) ?_
    refine lv_iand hx hb dX5_changeBy_29 ?_
    refine lv_if_eq (tgt := 39) hx hb dX5_changeBy_30 (by decide) (fun c1 => ?_) (fun c1 => ?_)
    · have hf := br_p c1 hf
      refine lv_iload_n hx hb dX5_changeBy_39 rfl (lv_at hl 2 rfl) ?_
      exact ss_iret hx hb hr hlk hW (Option.some.inj hf) dX5_changeBy_40
    · have hf := br_n c1 hf
      refine lv_iload_n hx hb dX5_changeBy_33 rfl (lv_at hl 2 rfl) ?_
      refine lv_iload_n hx hb dX5_changeBy_34 rfl (lv_at hl 0 rfl) ?_
      refine lv_iconst (v := 4) hx hb dX5_changeBy_35 (by decide) ?_
      refine lv_idiv hx hb dX5_changeBy_36 (by decide) ?_
      refine lv_iadd hx hb dX5_changeBy_37 ?_
      refine lv_topi (fun x2_2 ex2_2 => ?_)
      have hf := nm_use ex2_2 hf
      refine lv_istore_n (lv' := [(2, .int x2_2), (0, .int a0), (1, .int a1)]) hx hb dX5_changeBy_38 rfl hl (by decide) rfl (fun ls hl => ?_)
      refine lv_iload_n hx hb dX5_changeBy_39 rfl (lv_at hl 0 rfl) ?_
      exact ss_iret hx hb hr hlk hW (Option.some.inj hf) dX5_changeBy_40
  have h15 : ∀ (x2 : Int32) (H : Heap) (locs : List Loc) (ls : Array Slot), Wk E σ μ dg s H locs → lv_has ls 3 [(0, .int a0), (1, .int a1), (2, .int x2)] → fX5_changeBy_b15 a0 a1 x2 = some r → W p l e (Rm 0 0) s m [.int a0, .int a1].toArray below meth c H locs 0 0 (MQ below (Qi E σ μ dg r) [.int a0, .int a1].toArray s 0 0 (eP E)) (F0 m 15 ls []) := by
    intro x2  H locs ls hW hl hf
    unfold fX5_changeBy_b15 at hf
    refine lv_iload_n hx hb dX5_changeBy_15 rfl (lv_at hl 1 rfl) ?_
    refine lv_iconst (v := 2) hx hb dX5_changeBy_16 (by decide) ?_
    refine lv_iand hx hb dX5_changeBy_17 ?_
    refine lv_if_eq (tgt := 27) hx hb dX5_changeBy_18 (by decide) (fun c3 => ?_) (fun c3 => ?_)
    · have hf := br_p c3 hf
      exact h27 x2 _ _ _ hW (lv_sub hl [0, 1, 2] rfl) hf
    · have hf := br_n c3 hf
      refine lv_iload_n hx hb dX5_changeBy_21 rfl (lv_at hl 2 rfl) ?_
      refine lv_iload_n hx hb dX5_changeBy_22 rfl (lv_at hl 0 rfl) ?_
      refine lv_iconst (v := 2) hx hb dX5_changeBy_23 (by decide) ?_
      refine lv_idiv hx hb dX5_changeBy_24 (by decide) ?_
      refine lv_iadd hx hb dX5_changeBy_25 ?_
      refine lv_topi (fun x2_4 ex2_4 => ?_)
      have hf := nm_use ex2_4 hf
      refine lv_istore_n (lv' := [(2, .int x2_4), (0, .int a0), (1, .int a1)]) hx hb dX5_changeBy_26 rfl hl (by decide) rfl (fun ls hl => ?_)
      exact h27 x2_4 _ _ _ hW (lv_sub hl [1, 2, 0] rfl) hf
  refine lv_iload_n hx hb dX5_changeBy_0 rfl (lv_at hl 0 rfl) ?_
  refine lv_bipush (v := 8) hx hb dX5_changeBy_1 (by decide) ?_
  refine lv_idiv hx hb dX5_changeBy_3 (by decide) ?_
  refine lv_topi (fun x2_5 ex2_5 => ?_)
  have hf := nm_use ex2_5 hf
  refine lv_istore_n (lv' := [(2, .int x2_5), (0, .int a0), (1, .int a1)]) hx hb dX5_changeBy_4 rfl hl (by decide) rfl (fun ls hl => ?_)
  refine lv_iload_n hx hb dX5_changeBy_5 rfl (lv_at hl 2 rfl) ?_
  refine lv_iconst (v := 4) hx hb dX5_changeBy_6 (by decide) ?_
  refine lv_iand hx hb dX5_changeBy_7 ?_
  refine lv_if_eq (tgt := 15) hx hb dX5_changeBy_8 (by decide) (fun c6 => ?_) (fun c6 => ?_)
  · have hf := br_p c6 hf
    exact h15 x2_5 _ _ _ hW (lv_sub hl [1, 2, 0] rfl) hf
  · have hf := br_n c6 hf
    refine lv_iload_n hx hb dX5_changeBy_11 rfl (lv_at hl 0 rfl) ?_
    refine lv_iload_n hx hb dX5_changeBy_12 rfl (lv_at hl 1 rfl) ?_
    refine lv_iadd hx hb dX5_changeBy_13 ?_
    refine lv_topi (fun x2_7 ex2_7 => ?_)
    have hf := nm_use ex2_7 hf
    refine lv_istore_n (lv' := [(2, .int x2_7), (0, .int a0), (1, .int a1)]) hx hb dX5_changeBy_14 rfl hl (by decide) rfl (fun ls hl => ?_)
    exact h15 x2_7 _ _ _ hW (lv_sub hl [1, 2, 0] rfl) hf
def fX6_clip (a0 : Int32) : Option Int32 := some (mxI (-2048) (mnI 2047 a0))
set_option maxHeartbeats 4000000 in
set_option maxRecDepth 100000 in
theorem mX6_clip (l : Launch) {E : En} {σ μ : Sg} {dg : Int64} {a0 : Int32}  {r : Int32} (hf : fX6_clip a0 = some r) : Met l yX6_clip [.code yX6_clip cX6_clip 1 (some .int)] (Rm 1 21) (va_Pc [.int a0] (Wd E σ μ dg)) (Qi E σ μ dg r) 0 0 (eP E) := by
  refine ss_of (by decide) (Nat.le_of_ble_eq_true rfl) (fun p e s m below meth c hx hb hr hlk hml hown hK hW ls hl => ?_)
  have hown : s.vm.findClass RX6 = some m.cls := hown
  have hl : lv_has ls 1 [(0, .int a0)] := hl
  unfold fX6_clip at hf
  refine lv_sipush (v := (-2048)) hx hb dX6_clip_0 (by decide) ?_
  refine lv_sipush (v := 2047) hx hb dX6_clip_3 (by decide) ?_
  refine lv_iload_n hx hb dX6_clip_6 rfl (lv_at hl 0 rfl) ?_
  refine ss_min hx hb hml hl.1 hown hK kM_RX6_373 kMs_min kMi kMc_min ⟨Nat.le_of_ble_eq_true rfl, Nat.le_of_ble_eq_true rfl⟩ ⟨Nat.zero_le _, Nat.zero_le _⟩ dX6_clip_7 ?_
  show W p l e _ s m _ below meth c _ _ 0 0 _ (F0 m 10 ls ([.int (mnI 2047 a0), .int (-2048)]))
  refine ss_max hx hb hml hl.1 hown hK kM_RX6_379 kMs_max kMi kMc_max ⟨Nat.le_of_ble_eq_true rfl, Nat.le_of_ble_eq_true rfl⟩ ⟨Nat.zero_le _, Nat.zero_le _⟩ dX6_clip_10 ?_
  show W p l e _ s m _ below meth c _ _ 0 0 _ (F0 m 13 ls ([.int (mxI (-2048) (mnI 2047 a0))]))
  exact ss_iret hx hb hr hlk hW (Option.some.inj hf) dX6_clip_13
def fX5_follow_b72 (i0 : Nat) (k0 : Int32) (σ : Sg) : Option Sg := nm (up2 σ (82 + i0) 1 (mxI 0 (mnI 48 k0))) fun s1 => some s1
def fX5_follow_b35 (i0 : Nat) (a1 : Int32) (k0 : Int32) (σ : Sg) : Option Sg := bd (fX6_clip k0) fun r3 => nm (up2 σ (82 + i0) 0 r3) fun s4 => nm (a1 &&& 7) fun x3_5 => if 4 ≤ x3_5 then (fX5_follow_b72 i0 ((s4 (82 + i0) 1) + (2 * ((x3_5 - 4) + 1))) s4) else (fX5_follow_b72 i0 ((s4 (82 + i0) 1) - 1) s4)
def fX5_follow (i0 : Nat) (a1 : Int32) (σ : Sg) : Option Sg := bd (fX5_stepOf (σ (82 + i0) 1)) fun r8 => bd (fX5_changeBy r8 a1) fun r10 => if (a1 &&& 8) = 0 then (fX5_follow_b35 i0 a1 ((σ (82 + i0) 0) + r10) σ) else (fX5_follow_b35 i0 a1 ((σ (82 + i0) 0) - r10) σ)
set_option maxHeartbeats 4000000 in
set_option maxRecDepth 100000 in
theorem mX5_follow (l : Launch) {E : En} {σ μ : Sg} {dg : Int64} {i0 : Nat} {a1 : Int32} (hi0 : i0 < 4) {σ' : Sg} (hf : fX5_follow i0 a1 σ = some σ') : Met l yX5_follow [.code yX5_follow cX5_follow 5 none] (Rm 2 41) (va_Pc [.ref (eA E (82 + i0)), .int a1] (Wd E σ μ dg)) (Qv E σ' μ dg) 0 0 (eP E) := by
  refine ss_of (by decide) (Nat.le_of_ble_eq_true rfl) (fun p e s m below meth c hx hb hr hlk hml hown hK hW ls hl => ?_)
  have hown : s.vm.findClass RX5 = some m.cls := hown
  have hl : lv_has ls 5 [(0, .ref (eA E (82 + i0))), (1, .int a1)] := hl
  unfold fX5_follow at hf
  have h72 : ∀ (k0 : Int32) (σ : Sg) (H : Heap) (locs : List Loc) (ls : Array Slot), Wk E σ μ dg s H locs → lv_has ls 5 [(0, .ref (eA E (82 + i0)))] → fX5_follow_b72 i0 k0 σ = some σ' → W p l e (Rm 2 41) s m [.ref (eA E (82 + i0)), .int a1].toArray below meth c H locs 0 0 (MQ below (Qv E σ' μ dg) [.ref (eA E (82 + i0)), .int a1].toArray s 0 0 (eP E)) (F0 m 72 ls [.int k0]) := by
    intro k0 σ  H locs ls hW hl hf
    unfold fX5_follow_b72 at hf
    refine lv_istore (lv' := [(4, .int k0), (0, .ref (eA E (82 + i0)))]) hx hb dX5_follow_72 hl (by decide) rfl (fun ls hl => ?_)
    refine lv_aload_n hx hb dX5_follow_74 rfl (lv_at hl 1 rfl) ?_
    refine lv_iconst (v := 0) hx hb dX5_follow_75 (by decide) ?_
    refine lv_bipush (v := 48) hx hb dX5_follow_76 (by decide) ?_
    refine lv_iload hx hb dX5_follow_78 (lv_at hl 0 rfl) ?_
    refine ss_min hx hb hml hl.1 hown hK kM_RX5_38 kMs_min kMi kMc_min ⟨Nat.le_of_ble_eq_true rfl, Nat.le_of_ble_eq_true rfl⟩ ⟨Nat.zero_le _, Nat.zero_le _⟩ dX5_follow_80 ?_
    show W p l e _ s m _ below meth c _ _ 0 0 _ (F0 m 83 ls ([.int (mnI 48 k0), .int 0, .ref (eA E (82 + i0))]))
    refine ss_max hx hb hml hl.1 hown hK kM_RX5_41 kMs_max kMi kMc_max ⟨Nat.le_of_ble_eq_true rfl, Nat.le_of_ble_eq_true rfl⟩ ⟨Nat.zero_le _, Nat.zero_le _⟩ dX5_follow_83 ?_
    show W p l e _ s m _ below meth c _ _ 0 0 _ (F0 m 86 ls ([.int (mxI 0 (mnI 48 k0)), .ref (eA E (82 + i0))]))
    refine p_Walk_number (i := i0) hx hb hown hK hW (by omega) kF_RX5_19 dX5_follow_86 (fun H locs hW => ?_)
    obtain ⟨s1, es1⟩ : ∃ y : Sg, y = (up2 σ (82 + i0) 1 (mxI 0 (mnI 48 k0))) := ⟨_, rfl⟩
    have hf := nm_use es1 hf
    rw [← es1] at hW
    cases hf
    exact ss_vret hx hb hr hlk hW dX5_follow_89
  have h35 : ∀ (k0 : Int32) (σ : Sg) (H : Heap) (locs : List Loc) (ls : Array Slot), Wk E σ μ dg s H locs → lv_has ls 5 [(0, .ref (eA E (82 + i0))), (1, .int a1)] → fX5_follow_b35 i0 a1 k0 σ = some σ' → W p l e (Rm 2 41) s m [.ref (eA E (82 + i0)), .int a1].toArray below meth c H locs 0 0 (MQ below (Qv E σ' μ dg) [.ref (eA E (82 + i0)), .int a1].toArray s 0 0 (eP E)) (F0 m 35 ls [.int k0, .ref (eA E (82 + i0))]) := by
    intro k0 σ  H locs ls hW hl hf
    unfold fX5_follow_b35 at hf
    obtain ⟨r3, q2, hf⟩ := bd_inv hf
    refine ss_callNi (host := RX6) (As := [.int k0]) hx hb hml hown hK hW kb_X6_clip (hK.2.2.2.2.2.1.1 _ (by simp [nwL])) (mX6_clip l (a0 := k0) q2) rfl dX5_follow_35 rfl hl.1 (Nat.le_of_ble_eq_true rfl) ⟨Nat.le_of_ble_eq_true rfl, Nat.le_of_ble_eq_true rfl⟩ ⟨Nat.zero_le _, Nat.zero_le _⟩ (fun H locs hW => ?_)
    refine p_Walk_guess (i := i0) hx hb hown hK hW (by omega) kF_RX5_15 dX5_follow_38 (fun H locs hW => ?_)
    obtain ⟨s4, es4⟩ : ∃ y : Sg, y = (up2 σ (82 + i0) 0 r3) := ⟨_, rfl⟩
    have hf := nm_use es4 hf
    rw [← es4] at hW
    refine lv_iload_n hx hb dX5_follow_41 rfl (lv_at hl 1 rfl) ?_
    refine lv_bipush (v := 7) hx hb dX5_follow_42 (by decide) ?_
    refine lv_iand hx hb dX5_follow_44 ?_
    refine lv_topi (fun x3_5 ex3_5 => ?_)
    have hf := nm_use ex3_5 hf
    refine lv_istore_n (lv' := [(3, .int x3_5), (0, .ref (eA E (82 + i0))), (1, .int a1)]) hx hb dX5_follow_45 rfl hl (by decide) rfl (fun ls hl => ?_)
    refine lv_iload_n hx hb dX5_follow_46 rfl (lv_at hl 0 rfl) ?_
    refine lv_iconst (v := 4) hx hb dX5_follow_47 (by decide) ?_
    refine lv_icmp_ge (tgt := 60) hx hb dX5_follow_48 (by decide) (fun c6 => ?_) (fun c6 => ?_)
    · have hf := br_p c6 hf
      refine lv_aload_n hx hb dX5_follow_60 rfl (lv_at hl 1 rfl) ?_
      refine g_Walk_number (i := i0) hx hb hown hK hW (by omega) kF_RX5_19 dX5_follow_61 ?_
      refine lv_iconst (v := 2) hx hb dX5_follow_64 (by decide) ?_
      refine lv_iload_n hx hb dX5_follow_65 rfl (lv_at hl 0 rfl) ?_
      refine lv_iconst (v := 4) hx hb dX5_follow_66 (by decide) ?_
      refine lv_isub hx hb dX5_follow_67 ?_
      refine lv_iconst (v := 1) hx hb dX5_follow_68 (by decide) ?_
      refine lv_iadd hx hb dX5_follow_69 ?_
      refine lv_imul hx hb dX5_follow_70 ?_
      refine lv_iadd hx hb dX5_follow_71 ?_
      exact h72 ((s4 (82 + i0) 1) + (2 * ((x3_5 - 4) + 1))) s4 _ _ _ hW (lv_sub hl [1] rfl) hf
    · have hf := br_n c6 hf
      refine lv_aload_n hx hb dX5_follow_51 rfl (lv_at hl 1 rfl) ?_
      refine g_Walk_number (i := i0) hx hb hown hK hW (by omega) kF_RX5_19 dX5_follow_52 ?_
      refine lv_iconst (v := 1) hx hb dX5_follow_55 (by decide) ?_
      refine lv_isub hx hb dX5_follow_56 ?_
      refine lv_goto (tgt := 72) hx hb dX5_follow_57 (by decide) ?_
      exact h72 ((s4 (82 + i0) 1) - 1) s4 _ _ _ hW (lv_sub hl [1] rfl) hf
  refine lv_aload_n hx hb dX5_follow_0 rfl (lv_at hl 0 rfl) ?_
  refine g_Walk_number (i := i0) hx hb hown hK hW (by omega) kF_RX5_19 dX5_follow_1 ?_
  obtain ⟨r8, q7, hf⟩ := bd_inv hf
  refine ss_callSi (As := [.int (σ (82 + i0) 1)]) hx hb hml hown hK hW kb_X5_stepOf kM_RX5_22 (mX5_stepOf l (a0 := (σ (82 + i0) 1)) q7) rfl dX5_follow_4 rfl hl.1 (Nat.le_of_ble_eq_true rfl) ⟨Nat.le_of_ble_eq_true rfl, Nat.le_of_ble_eq_true rfl⟩ ⟨Nat.zero_le _, Nat.zero_le _⟩ (fun H locs hW => ?_)
  refine lv_iload_n hx hb dX5_follow_7 rfl (lv_at hl 1 rfl) ?_
  obtain ⟨r10, q9, hf⟩ := bd_inv hf
  refine ss_callSi (As := [.int r8, .int a1]) hx hb hml hown hK hW kb_X5_changeBy kM_RX5_31 (mX5_changeBy l (a0 := r8) (a1 := a1) q9) rfl dX5_follow_8 rfl hl.1 (Nat.le_of_ble_eq_true rfl) ⟨Nat.le_of_ble_eq_true rfl, Nat.le_of_ble_eq_true rfl⟩ ⟨Nat.zero_le _, Nat.zero_le _⟩ (fun H locs hW => ?_)
  refine lv_istore_n (lv' := [(2, .int r10), (0, .ref (eA E (82 + i0))), (1, .int a1)]) hx hb dX5_follow_11 rfl hl (by decide) rfl (fun ls hl => ?_)
  refine lv_aload_n hx hb dX5_follow_12 rfl (lv_at hl 1 rfl) ?_
  refine lv_iload_n hx hb dX5_follow_13 rfl (lv_at hl 2 rfl) ?_
  refine lv_bipush (v := 8) hx hb dX5_follow_14 (by decide) ?_
  refine lv_iand hx hb dX5_follow_16 ?_
  refine lv_if_eq (tgt := 29) hx hb dX5_follow_17 (by decide) (fun c11 => ?_) (fun c11 => ?_)
  · have hf := br_p c11 hf
    refine lv_aload_n hx hb dX5_follow_29 rfl (lv_at hl 1 rfl) ?_
    refine g_Walk_guess (i := i0) hx hb hown hK hW (by omega) kF_RX5_15 dX5_follow_30 ?_
    refine lv_iload_n hx hb dX5_follow_33 rfl (lv_at hl 0 rfl) ?_
    refine lv_iadd hx hb dX5_follow_34 ?_
    exact h35 ((σ (82 + i0) 0) + r10) σ _ _ _ hW (lv_sub hl [1, 2] rfl) hf
  · have hf := br_n c11 hf
    refine lv_aload_n hx hb dX5_follow_20 rfl (lv_at hl 1 rfl) ?_
    refine g_Walk_guess (i := i0) hx hb hown hK hW (by omega) kF_RX5_15 dX5_follow_21 ?_
    refine lv_iload_n hx hb dX5_follow_24 rfl (lv_at hl 0 rfl) ?_
    refine lv_isub hx hb dX5_follow_25 ?_
    refine lv_goto (tgt := 35) hx hb dX5_follow_26 (by decide) ?_
    exact h35 ((σ (82 + i0) 0) - r10) σ _ _ _ hW (lv_sub hl [1, 2] rfl) hf
def fX2_decodeBlock_b58 (i0 : Nat) (i1 : Nat) (a2 : Int32) (k28 : Int32 → Int32 → Sg → Option Sg) (x3 : Int32) (x4 : Int32) (σ : Sg) : Option Sg := gd (¬ (x4 < 0 ∨ 64 ≤ (x4).toNatClampNeg)) <| nm (up2 σ (86 + 3 * i0 + 1) ((x4).toNatClampNeg) (σ (82 + (1 + i0)) 0)) fun s2 => gd (¬ (x4 < 0 ∨ 64 ≤ (x4).toNatClampNeg)) <| nm (up2 s2 (86 + 3 * i0 + 2) ((x4).toNatClampNeg) (s2 (82 + (1 + i0)) 1)) fun s4 => nm (x4 + 1) fun x4_5 => k28 x3 x4_5 s4
def fX2_decodeBlock_L28 (i0 : Nat) (i1 : Nat) (a2 : Int32) (n : Nat) (x3 : Int32) (x4 : Int32) (σ : Sg) : Option Sg := match n with
  | 0 => none
  | n + 1 => bd (fX4_endOf i1 a2 σ) fun r7 => if r7 ≤ x4 then (some σ) else (if x4 ≤ x3 then (fX2_decodeBlock_b58 i0 i1 a2 (fun x3 x4 σ => fX2_decodeBlock_L28 i0 i1 a2 n x3 x4 σ) x3 x4 σ) else (gd (¬ (x4 < 0 ∨ 64 ≤ (x4).toNatClampNeg)) <| bd (fX5_follow (1 + i0) (σ (10 + 8 * i1 + 6) (x4).toNatClampNeg) σ) fun s12 => fX2_decodeBlock_b58 i0 i1 a2 (fun x3 x4 σ => fX2_decodeBlock_L28 i0 i1 a2 n x3 x4 σ) x3 x4 s12))
def fX2_decodeBlock (i0 : Nat) (i1 : Nat) (a2 : Int32) (σ : Sg) : Option Sg := bd (fX4_startOf i1 a2 σ) fun r14 => gd (¬ (a2 < 0 ∨ 32 ≤ (a2).toNatClampNeg)) <| gd (¬ (a2 < 0 ∨ 32 ≤ (a2).toNatClampNeg)) <| bd (fX5_begin (1 + i0) (σ (10 + 8 * i1 + 3) (a2).toNatClampNeg) (σ (10 + 8 * i1 + 4) (a2).toNatClampNeg) σ) fun s18 => fX2_decodeBlock_L28 i0 i1 a2 80 r14 r14 s18
set_option maxHeartbeats 4000000 in
set_option maxRecDepth 100000 in
theorem mX2_decodeBlock (l : Launch) {E : En} {σ μ : Sg} {dg : Int64} {i0 : Nat} {i1 : Nat} {a2 : Int32} (hi0 : i0 < 2) (hi1 : i1 < 9) {σ' : Sg} (hf : fX2_decodeBlock i0 i1 a2 σ = some σ') : Met l yX2_decodeBlock [.code yX2_decodeBlock cX2_decodeBlock 5 none] (Rm 3 65) (va_Pc [.ref (eA E (86 + 3 * i0)), .ref (eA E (10 + 8 * i1)), .int a2] (Wd E σ μ dg)) (Qv E σ' μ dg) 0 0 (eP E) := by
  refine ss_of (by decide) (Nat.le_of_ble_eq_true rfl) (fun p e s m below meth c hx hb hr hlk hml hown hK hW ls hl => ?_)
  have hown : s.vm.findClass RX2 = some m.cls := hown
  have hl : lv_has ls 5 [(0, .ref (eA E (86 + 3 * i0))), (1, .ref (eA E (10 + 8 * i1))), (2, .int a2)] := hl
  unfold fX2_decodeBlock at hf
  have h28 : ∀ (n28 : Nat) (x3 : Int32) (x4 : Int32) (σ : Sg) (H : Heap) (locs : List Loc) (ls : Array Slot), Wk E σ μ dg s H locs → lv_has ls 5 [(0, .ref (eA E (86 + 3 * i0))), (1, .ref (eA E (10 + 8 * i1))), (2, .int a2), (3, .int x3), (4, .int x4)] → fX2_decodeBlock_L28 i0 i1 a2 n28 x3 x4 σ = some σ' → W p l e (Rm 3 65) s m [.ref (eA E (86 + 3 * i0)), .ref (eA E (10 + 8 * i1)), .int a2].toArray below meth c H locs 0 0 (MQ below (Qv E σ' μ dg) [.ref (eA E (86 + 3 * i0)), .ref (eA E (10 + 8 * i1)), .int a2].toArray s 0 0 (eP E)) (F0 m 28 ls []) := by
    intro n28
    induction n28 with
    | zero =>
      intro x3 x4 σ  H locs ls hW hl hf
      exact absurd hf (by simp [fX2_decodeBlock_L28])
    | succ n28 ih28 =>
      have h58 : ∀ (x3 : Int32) (x4 : Int32) (σ : Sg) (H : Heap) (locs : List Loc) (ls : Array Slot), Wk E σ μ dg s H locs → lv_has ls 5 [(0, .ref (eA E (86 + 3 * i0))), (1, .ref (eA E (10 + 8 * i1))), (2, .int a2), (3, .int x3), (4, .int x4)] → fX2_decodeBlock_b58 i0 i1 a2 (fun x3 x4 σ => fX2_decodeBlock_L28 i0 i1 a2 n28 x3 x4 σ) x3 x4 σ = some σ' → W p l e (Rm 3 65) s m [.ref (eA E (86 + 3 * i0)), .ref (eA E (10 + 8 * i1)), .int a2].toArray below meth c H locs 0 0 (MQ below (Qv E σ' μ dg) [.ref (eA E (86 + 3 * i0)), .ref (eA E (10 + 8 * i1)), .int a2].toArray s 0 0 (eP E)) (F0 m 58 ls []) := by
        intro x3 x4 σ  H locs ls hW hl hf
        unfold fX2_decodeBlock_b58 at hf
        refine lv_aload_n hx hb dX2_decodeBlock_58 rfl (lv_at hl 0 rfl) ?_
        refine g_Dec_made (i := i0) hx hb hown hK hW (by omega) kF_RX2_9 dX2_decodeBlock_59 ?_
        refine lv_iload hx hb dX2_decodeBlock_62 (lv_at hl 4 rfl) ?_
        refine lv_aload_n hx hb dX2_decodeBlock_64 rfl (lv_at hl 0 rfl) ?_
        refine g_Dec_walk (i := i0) hx hb hown hK hW (by omega) kF_RX2_21 dX2_decodeBlock_65 ?_
        refine g_Walk_guess (i := (1 + i0)) hx hb hown hK hW (by omega) kF_RX2_70 dX2_decodeBlock_68 ?_
        obtain ⟨hk1, hf⟩ := gd_inv hf
        refine s_De1 (i := i0) hx hb hK hW (by omega) rfl hk1 dX2_decodeBlock_71 (fun H locs hW => ?_)
        obtain ⟨s2, es2⟩ : ∃ y : Sg, y = (up2 σ (86 + 3 * i0 + 1) ((x4).toNatClampNeg) (σ (82 + (1 + i0)) 0)) := ⟨_, rfl⟩
        have hf := nm_use es2 hf
        rw [← es2] at hW
        refine lv_aload_n hx hb dX2_decodeBlock_72 rfl (lv_at hl 0 rfl) ?_
        refine g_Dec_numbers (i := i0) hx hb hown hK hW (by omega) kF_RX2_15 dX2_decodeBlock_73 ?_
        refine lv_iload hx hb dX2_decodeBlock_76 (lv_at hl 4 rfl) ?_
        refine lv_aload_n hx hb dX2_decodeBlock_78 rfl (lv_at hl 0 rfl) ?_
        refine g_Dec_walk (i := i0) hx hb hown hK hW (by omega) kF_RX2_21 dX2_decodeBlock_79 ?_
        refine g_Walk_number (i := (1 + i0)) hx hb hown hK hW (by omega) kF_RX2_73 dX2_decodeBlock_82 ?_
        obtain ⟨hk3, hf⟩ := gd_inv hf
        refine s_De2 (i := i0) hx hb hK hW (by omega) rfl hk3 dX2_decodeBlock_85 (fun H locs hW => ?_)
        obtain ⟨s4, es4⟩ : ∃ y : Sg, y = (up2 s2 (86 + 3 * i0 + 2) ((x4).toNatClampNeg) (s2 (82 + (1 + i0)) 1)) := ⟨_, rfl⟩
        have hf := nm_use es4 hf
        rw [← es4] at hW
        obtain ⟨x4_5, ex4_5⟩ : ∃ y : Int32, y = (x4 + 1) := ⟨_, rfl⟩
        have hf := nm_use ex4_5 hf
        refine lv_iinc (v := x4_5) (lv' := [(4, .int x4_5), (0, .ref (eA E (86 + 3 * i0))), (1, .ref (eA E (10 + 8 * i1))), (2, .int a2), (3, .int x3)]) hx hb dX2_decodeBlock_86 hl (k := 4) rfl (by rw [ex4_5]; rfl) (by decide) rfl (fun ls hl => ?_)
        refine lv_goto (tgt := 28) hx hb dX2_decodeBlock_89 (by decide) ?_
        exact ih28 x3 x4_5 s4 _ _ _ hW (lv_sub hl [1, 2, 3, 4, 0] rfl) hf
      intro x3 x4 σ  H locs ls hW hl hf
      rw [fX2_decodeBlock_L28] at hf
      refine lv_iload hx hb dX2_decodeBlock_28 (lv_at hl 4 rfl) ?_
      refine lv_aload_n hx hb dX2_decodeBlock_30 rfl (lv_at hl 1 rfl) ?_
      refine lv_iload_n hx hb dX2_decodeBlock_31 rfl (lv_at hl 2 rfl) ?_
      obtain ⟨r7, q6, hf⟩ := bd_inv hf
      refine ss_callVi (As := [.int a2]) hx hb hml hown hK hW kb_X4_endOf kM_RX2_60 rfl (okq_lt (by omega)) (c_st (i := i1) (by omega) 0 (by decide)) (mX4_endOf l (i0 := i1) (a1 := a2) (by omega) q6) rfl dX2_decodeBlock_32 rfl hl.1 (Nat.le_of_ble_eq_true rfl) ⟨Nat.le_of_ble_eq_true rfl, Nat.le_of_ble_eq_true rfl⟩ ⟨Nat.zero_le _, Nat.zero_le _⟩ (fun H locs hW => ?_)
      refine lv_icmp_ge (tgt := 92) hx hb dX2_decodeBlock_35 (by decide) (fun c8 => ?_) (fun c8 => ?_)
      · have hf := br_p c8 hf
        cases hf
        exact ss_vret hx hb hr hlk hW dX2_decodeBlock_92
      · have hf := br_n c8 hf
        refine lv_iload hx hb dX2_decodeBlock_38 (lv_at hl 4 rfl) ?_
        refine lv_iload_n hx hb dX2_decodeBlock_40 rfl (lv_at hl 3 rfl) ?_
        refine lv_icmp_le (tgt := 58) hx hb dX2_decodeBlock_41 (by decide) (fun c9 => ?_) (fun c9 => ?_)
        · have hf := br_p c9 hf
          exact h58 x3 x4 σ _ _ _ hW (lv_sub hl [0, 1, 2, 3, 4] rfl) hf
        · have hf := br_n c9 hf
          refine lv_aload_n hx hb dX2_decodeBlock_44 rfl (lv_at hl 0 rfl) ?_
          refine g_Dec_walk (i := i0) hx hb hown hK hW (by omega) kF_RX2_21 dX2_decodeBlock_45 ?_
          refine lv_aload_n hx hb dX2_decodeBlock_48 rfl (lv_at hl 1 rfl) ?_
          refine g_State_codes (i := i1) hx hb hown hK hW (by omega) kF_RX2_63 dX2_decodeBlock_49 ?_
          refine lv_iload hx hb dX2_decodeBlock_52 (lv_at hl 4 rfl) ?_
          obtain ⟨hk10, hf⟩ := gd_inv hf
          refine l_St6 (i := i1) hx hb hK hW (by omega) rfl hk10 dX2_decodeBlock_54 ?_
          obtain ⟨s12, q11, hf⟩ := bd_inv hf
          refine ss_callVv (As := [.int (σ (10 + 8 * i1 + 6) (x4).toNatClampNeg)]) hx hb hml hown hK hW kb_X5_follow kM_RX2_66 rfl (okq_lt (by omega)) (c_wk (w := (1 + i0)) (by omega)) (mX5_follow l (i0 := (1 + i0)) (a1 := (σ (10 + 8 * i1 + 6) (x4).toNatClampNeg)) (by omega) q11) rfl dX2_decodeBlock_55 rfl hl.1 (Nat.le_of_ble_eq_true rfl) ⟨Nat.le_of_ble_eq_true rfl, Nat.le_of_ble_eq_true rfl⟩ ⟨Nat.zero_le _, Nat.zero_le _⟩ (fun H locs hW => ?_)
          exact h58 x3 x4 s12 _ _ _ hW (lv_sub hl [0, 1, 2, 3, 4] rfl) hf
  refine lv_aload_n hx hb dX2_decodeBlock_0 rfl (lv_at hl 1 rfl) ?_
  refine lv_iload_n hx hb dX2_decodeBlock_1 rfl (lv_at hl 2 rfl) ?_
  obtain ⟨r14, q13, hf⟩ := bd_inv hf
  refine ss_callVi (As := [.int a2]) hx hb hml hown hK hW kb_X4_startOf kM_RX2_46 rfl (okq_lt (by omega)) (c_st (i := i1) (by omega) 0 (by decide)) (mX4_startOf l (i0 := i1) (a1 := a2) (by omega) q13) rfl dX2_decodeBlock_2 rfl hl.1 (Nat.le_of_ble_eq_true rfl) ⟨Nat.le_of_ble_eq_true rfl, Nat.le_of_ble_eq_true rfl⟩ ⟨Nat.zero_le _, Nat.zero_le _⟩ (fun H locs hW => ?_)
  refine lv_istore_n (lv' := [(3, .int r14), (0, .ref (eA E (86 + 3 * i0))), (1, .ref (eA E (10 + 8 * i1))), (2, .int a2)]) hx hb dX2_decodeBlock_5 rfl hl (by decide) rfl (fun ls hl => ?_)
  refine lv_aload_n hx hb dX2_decodeBlock_6 rfl (lv_at hl 1 rfl) ?_
  refine g_Dec_walk (i := i0) hx hb hown hK hW (by omega) kF_RX2_21 dX2_decodeBlock_7 ?_
  refine lv_aload_n hx hb dX2_decodeBlock_10 rfl (lv_at hl 2 rfl) ?_
  refine g_State_firsts (i := i1) hx hb hown hK hW (by omega) kF_RX2_50 dX2_decodeBlock_11 ?_
  refine lv_iload_n hx hb dX2_decodeBlock_14 rfl (lv_at hl 3 rfl) ?_
  obtain ⟨hk15, hf⟩ := gd_inv hf
  refine l_St3 (i := i1) hx hb hK hW (by omega) rfl hk15 dX2_decodeBlock_15 ?_
  refine lv_aload_n hx hb dX2_decodeBlock_16 rfl (lv_at hl 2 rfl) ?_
  refine g_State_starts (i := i1) hx hb hown hK hW (by omega) kF_RX2_53 dX2_decodeBlock_17 ?_
  refine lv_iload_n hx hb dX2_decodeBlock_20 rfl (lv_at hl 3 rfl) ?_
  obtain ⟨hk16, hf⟩ := gd_inv hf
  refine l_St4 (i := i1) hx hb hK hW (by omega) rfl hk16 dX2_decodeBlock_21 ?_
  obtain ⟨s18, q17, hf⟩ := bd_inv hf
  refine ss_callVv (As := [.int (σ (10 + 8 * i1 + 3) (a2).toNatClampNeg), .int (σ (10 + 8 * i1 + 4) (a2).toNatClampNeg)]) hx hb hml hown hK hW kb_X5_begin kM_RX2_56 rfl (okq_lt (by omega)) (c_wk (w := (1 + i0)) (by omega)) (mX5_begin l (i0 := (1 + i0)) (a1 := (σ (10 + 8 * i1 + 3) (a2).toNatClampNeg)) (a2 := (σ (10 + 8 * i1 + 4) (a2).toNatClampNeg)) (by omega) q17) rfl dX2_decodeBlock_22 rfl hl.1 (Nat.le_of_ble_eq_true rfl) ⟨Nat.le_of_ble_eq_true rfl, Nat.le_of_ble_eq_true rfl⟩ ⟨Nat.zero_le _, Nat.zero_le _⟩ (fun H locs hW => ?_)
  refine lv_iload_n hx hb dX2_decodeBlock_25 rfl (lv_at hl 0 rfl) ?_
  refine lv_istore (lv' := [(4, .int r14), (3, .int r14), (0, .ref (eA E (86 + 3 * i0))), (1, .ref (eA E (10 + 8 * i1))), (2, .int a2)]) hx hb dX2_decodeBlock_26 hl (by decide) rfl (fun ls hl => ?_)
  exact h28 80 r14 r14 s18 _ _ _ hW (lv_sub hl [2, 3, 4, 1, 0] rfl) hf
def fX2_decode_L10 (i0 : Nat) (i1 : Nat) (n : Nat) (x2 : Int32) (σ : Sg) : Option Sg := match n with
  | 0 => none
  | n + 1 => if (σ (10 + 8 * i1) 3) ≤ x2 then (nm (up2 σ (86 + 3 * i0) 3 1) fun s2 => some s2) else (gd (¬ (x2 < 0 ∨ 32 ≤ (x2).toNatClampNeg)) <| if (σ (10 + 8 * i1 + 5) (x2).toNatClampNeg) = 0 then (bd (fX2_decodeBlock i0 i1 x2 σ) fun s6 => nm (x2 + 1) fun x2_7 => (fun x2 σ => fX2_decode_L10 i0 i1 n x2 σ) x2_7 s6) else (bd (fX2_fillBlock i0 i1 x2 σ) fun s9 => nm (x2 + 1) fun x2_10 => (fun x2 σ => fX2_decode_L10 i0 i1 n x2 σ) x2_10 s9))
def fX2_decode (i0 : Nat) (i1 : Nat) (σ : Sg) : Option Sg := if (σ (86 + 3 * i0) 3) = 0 then (fX2_decode_L10 i0 i1 80 0 σ) else (some σ)
set_option maxHeartbeats 4000000 in
set_option maxRecDepth 100000 in
theorem mX2_decode (l : Launch) {E : En} {σ μ : Sg} {dg : Int64} {i0 : Nat} {i1 : Nat} (hi0 : i0 < 2) (hi1 : i1 < 9) {σ' : Sg} (hf : fX2_decode i0 i1 σ = some σ') : Met l yX2_decode [.code yX2_decode cX2_decode 3 none] (Rm 4 89) (va_Pc [.ref (eA E (86 + 3 * i0)), .ref (eA E (10 + 8 * i1))] (Wd E σ μ dg)) (Qv E σ' μ dg) 0 0 (eP E) := by
  refine ss_of (by decide) (Nat.le_of_ble_eq_true rfl) (fun p e s m below meth c hx hb hr hlk hml hown hK hW ls hl => ?_)
  have hown : s.vm.findClass RX2 = some m.cls := hown
  have hl : lv_has ls 3 [(0, .ref (eA E (86 + 3 * i0))), (1, .ref (eA E (10 + 8 * i1)))] := hl
  unfold fX2_decode at hf
  have h10 : ∀ (n10 : Nat) (x2 : Int32) (σ : Sg) (H : Heap) (locs : List Loc) (ls : Array Slot), Wk E σ μ dg s H locs → lv_has ls 3 [(0, .ref (eA E (86 + 3 * i0))), (1, .ref (eA E (10 + 8 * i1))), (2, .int x2)] → fX2_decode_L10 i0 i1 n10 x2 σ = some σ' → W p l e (Rm 4 89) s m [.ref (eA E (86 + 3 * i0)), .ref (eA E (10 + 8 * i1))].toArray below meth c H locs 0 0 (MQ below (Qv E σ' μ dg) [.ref (eA E (86 + 3 * i0)), .ref (eA E (10 + 8 * i1))].toArray s 0 0 (eP E)) (F0 m 10 ls []) := by
    intro n10
    induction n10 with
    | zero =>
      intro x2 σ  H locs ls hW hl hf
      exact absurd hf (by simp [fX2_decode_L10])
    | succ n10 ih10 =>
      intro x2 σ  H locs ls hW hl hf
      rw [fX2_decode_L10] at hf
      refine lv_iload_n hx hb dX2_decode_10 rfl (lv_at hl 2 rfl) ?_
      refine lv_aload_n hx hb dX2_decode_11 rfl (lv_at hl 1 rfl) ?_
      refine g_State_blocks (i := i1) hx hb hown hK hW (by omega) kF_RX2_29 dX2_decode_12 ?_
      refine lv_icmp_ge (tgt := 48) hx hb dX2_decode_15 (by decide) (fun c1 => ?_) (fun c1 => ?_)
      · have hf := br_p c1 hf
        refine lv_aload_n hx hb dX2_decode_48 rfl (lv_at hl 0 rfl) ?_
        refine lv_iconst (v := 1) hx hb dX2_decode_49 (by decide) ?_
        refine p_Dec_upToDate (i := i0) hx hb hown hK hW (by omega) (by decide) kF_RX2_25 dX2_decode_50 (fun H locs hW => ?_)
        obtain ⟨s2, es2⟩ : ∃ y : Sg, y = (up2 σ (86 + 3 * i0) 3 1) := ⟨_, rfl⟩
        have hf := nm_use es2 hf
        rw [← es2] at hW
        cases hf
        exact ss_vret hx hb hr hlk hW dX2_decode_53
      · have hf := br_n c1 hf
        refine lv_aload_n hx hb dX2_decode_18 rfl (lv_at hl 1 rfl) ?_
        refine g_State_lost (i := i1) hx hb hown hK hW (by omega) kF_RX2_35 dX2_decode_19 ?_
        refine lv_iload_n hx hb dX2_decode_22 rfl (lv_at hl 2 rfl) ?_
        obtain ⟨hk3, hf⟩ := gd_inv hf
        refine l_St5 (i := i1) hx hb hK hW (by omega) rfl hk3 dX2_decode_23 ?_
        refine lv_if_eq (tgt := 36) hx hb dX2_decode_24 (by decide) (fun c4 => ?_) (fun c4 => ?_)
        · have hf := br_p c4 hf
          refine lv_aload_n hx hb dX2_decode_36 rfl (lv_at hl 0 rfl) ?_
          refine lv_aload_n hx hb dX2_decode_37 rfl (lv_at hl 1 rfl) ?_
          refine lv_iload_n hx hb dX2_decode_38 rfl (lv_at hl 2 rfl) ?_
          obtain ⟨s6, q5, hf⟩ := bd_inv hf
          refine ss_callVv (As := [.ref (eA E (10 + 8 * i1)), .int x2]) hx hb hml hown hK hW kb_X2_decodeBlock kM_RX2_43 rfl (okq_lt (by omega)) (c_dc (d := i0) (by omega) 0 (by decide)) (mX2_decodeBlock l (i0 := i0) (i1 := i1) (a2 := x2) (by omega) (by omega) q5) rfl dX2_decode_39 rfl hl.1 (Nat.le_of_ble_eq_true rfl) ⟨Nat.le_of_ble_eq_true rfl, Nat.le_of_ble_eq_true rfl⟩ ⟨Nat.zero_le _, Nat.zero_le _⟩ (fun H locs hW => ?_)
          obtain ⟨x2_7, ex2_7⟩ : ∃ y : Int32, y = (x2 + 1) := ⟨_, rfl⟩
          have hf := nm_use ex2_7 hf
          refine lv_iinc (v := x2_7) (lv' := [(2, .int x2_7), (0, .ref (eA E (86 + 3 * i0))), (1, .ref (eA E (10 + 8 * i1)))]) hx hb dX2_decode_42 hl (k := 2) rfl (by rw [ex2_7]; rfl) (by decide) rfl (fun ls hl => ?_)
          refine lv_goto (tgt := 10) hx hb dX2_decode_45 (by decide) ?_
          exact ih10 x2_7 s6 _ _ _ hW (lv_sub hl [1, 2, 0] rfl) hf
        · have hf := br_n c4 hf
          refine lv_aload_n hx hb dX2_decode_27 rfl (lv_at hl 0 rfl) ?_
          refine lv_aload_n hx hb dX2_decode_28 rfl (lv_at hl 1 rfl) ?_
          refine lv_iload_n hx hb dX2_decode_29 rfl (lv_at hl 2 rfl) ?_
          obtain ⟨s9, q8, hf⟩ := bd_inv hf
          refine ss_callVv (As := [.ref (eA E (10 + 8 * i1)), .int x2]) hx hb hml hown hK hW kb_X2_fillBlock kM_RX2_39 rfl (okq_lt (by omega)) (c_dc (d := i0) (by omega) 0 (by decide)) (mX2_fillBlock l (i0 := i0) (i1 := i1) (a2 := x2) (by omega) (by omega) q8) rfl dX2_decode_30 rfl hl.1 (Nat.le_of_ble_eq_true rfl) ⟨Nat.le_of_ble_eq_true rfl, Nat.le_of_ble_eq_true rfl⟩ ⟨Nat.zero_le _, Nat.zero_le _⟩ (fun H locs hW => ?_)
          refine lv_goto (tgt := 42) hx hb dX2_decode_33 (by decide) ?_
          obtain ⟨x2_10, ex2_10⟩ : ∃ y : Int32, y = (x2 + 1) := ⟨_, rfl⟩
          have hf := nm_use ex2_10 hf
          refine lv_iinc (v := x2_10) (lv' := [(2, .int x2_10), (0, .ref (eA E (86 + 3 * i0))), (1, .ref (eA E (10 + 8 * i1)))]) hx hb dX2_decode_42 hl (k := 2) rfl (by rw [ex2_10]; rfl) (by decide) rfl (fun ls hl => ?_)
          refine lv_goto (tgt := 10) hx hb dX2_decode_45 (by decide) ?_
          exact ih10 x2_10 s9 _ _ _ hW (lv_sub hl [1, 2, 0] rfl) hf
  refine lv_aload_n hx hb dX2_decode_0 rfl (lv_at hl 0 rfl) ?_
  refine g_Dec_upToDate (i := i0) hx hb hown hK hW (by omega) kF_RX2_25 dX2_decode_1 ?_
  refine lv_if_eq (tgt := 8) hx hb dX2_decode_4 (by decide) (fun c11 => ?_) (fun c11 => ?_)
  · have hf := br_p c11 hf
    refine lv_iconst (v := 0) hx hb dX2_decode_8 (by decide) ?_
    refine lv_istore_n (lv' := [(2, .int 0), (0, .ref (eA E (86 + 3 * i0))), (1, .ref (eA E (10 + 8 * i1)))]) hx hb dX2_decode_9 rfl hl (by decide) rfl (fun ls hl => ?_)
    exact h10 80 0 σ _ _ _ hW (lv_sub hl [1, 2, 0] rfl) hf
  · have hf := br_n c11 hf
    cases hf
    exact ss_vret hx hb hr hlk hW dX2_decode_7
def fX2_errorOf_L6 (i0 : Nat) (i1 : Nat) (a3 : Int32) (n : Nat) (x4 : Int32) (x5 : Int32) (σ : Sg) : Option Int32 := match n with
  | 0 => none
  | n + 1 => if a3 ≤ x5 then (some x4) else (gd (¬ (x5 < 0 ∨ 64 ≤ (x5).toNatClampNeg)) <| gd (¬ (x5 < 0 ∨ 64 ≤ (x5).toNatClampNeg)) <| nm ((σ (10 + 8 * i1 + 1) (x5).toNatClampNeg) - (σ (86 + 3 * i0 + 1) (x5).toNatClampNeg)) fun x6_4 => nm (x4 + (x6_4 * x6_4)) fun x4_5 => nm (x5 + 1) fun x5_6 => (fun x4 x5 σ => fX2_errorOf_L6 i0 i1 a3 n x4 x5 σ) x4_5 x5_6 σ)
def fX2_errorOf (i0 : Nat) (i1 : Nat) (a2 : Int32) (a3 : Int32) (σ : Sg) : Option Int32 := fX2_errorOf_L6 i0 i1 a3 80 0 a2 σ
set_option maxHeartbeats 4000000 in
set_option maxRecDepth 100000 in
theorem mX2_errorOf (l : Launch) {E : En} {σ μ : Sg} {dg : Int64} {i0 : Nat} {i1 : Nat} {a2 : Int32} {a3 : Int32} (hi0 : i0 < 2) (hi1 : i1 < 9) {r : Int32} (hf : fX2_errorOf i0 i1 a2 a3 σ = some r) : Met l yX2_errorOf [.code yX2_errorOf cX2_errorOf 7 (some .int)] (Rm 0 0) (va_Pc [.ref (eA E (86 + 3 * i0)), .ref (eA E (10 + 8 * i1)), .int a2, .int a3] (Wd E σ μ dg)) (Qi E σ μ dg r) 0 0 (eP E) := by
  refine ss_of (by decide) (Nat.le_of_ble_eq_true rfl) (fun p e s m below meth c hx hb hr hlk hml hown hK hW ls hl => ?_)
  have hown : s.vm.findClass RX2 = some m.cls := hown
  have hl : lv_has ls 7 [(0, .ref (eA E (86 + 3 * i0))), (1, .ref (eA E (10 + 8 * i1))), (2, .int a2), (3, .int a3)] := hl
  unfold fX2_errorOf at hf
  have h6 : ∀ (n6 : Nat) (x4 : Int32) (x5 : Int32) (σ : Sg) (H : Heap) (locs : List Loc) (ls : Array Slot), Wk E σ μ dg s H locs → lv_has ls 7 [(0, .ref (eA E (86 + 3 * i0))), (1, .ref (eA E (10 + 8 * i1))), (3, .int a3), (4, .int x4), (5, .int x5)] → fX2_errorOf_L6 i0 i1 a3 n6 x4 x5 σ = some r → W p l e (Rm 0 0) s m [.ref (eA E (86 + 3 * i0)), .ref (eA E (10 + 8 * i1)), .int a2, .int a3].toArray below meth c H locs 0 0 (MQ below (Qi E σ μ dg r) [.ref (eA E (86 + 3 * i0)), .ref (eA E (10 + 8 * i1)), .int a2, .int a3].toArray s 0 0 (eP E)) (F0 m 6 ls []) := by
    intro n6
    induction n6 with
    | zero =>
      intro x4 x5 σ  H locs ls hW hl hf
      exact absurd hf (by simp [fX2_errorOf_L6])
    | succ n6 ih6 =>
      intro x4 x5 σ  H locs ls hW hl hf
      rw [fX2_errorOf_L6] at hf
      refine lv_iload hx hb dX2_errorOf_6 (lv_at hl 4 rfl) ?_
      refine lv_iload_n hx hb dX2_errorOf_8 rfl (lv_at hl 2 rfl) ?_
      refine lv_icmp_ge (tgt := 45) hx hb dX2_errorOf_9 (by decide) (fun c1 => ?_) (fun c1 => ?_)
      · have hf := br_p c1 hf
        refine lv_iload hx hb dX2_errorOf_45 (lv_at hl 3 rfl) ?_
        exact ss_iret hx hb hr hlk hW (Option.some.inj hf) dX2_errorOf_47
      · have hf := br_n c1 hf
        refine lv_aload_n hx hb dX2_errorOf_12 rfl (lv_at hl 1 rfl) ?_
        refine g_State_values (i := i1) hx hb hown hK hW (by omega) kF_RX2_83 dX2_errorOf_13 ?_
        refine lv_iload hx hb dX2_errorOf_16 (lv_at hl 4 rfl) ?_
        obtain ⟨hk2, hf⟩ := gd_inv hf
        refine l_St1 (i := i1) hx hb hK hW (by omega) rfl hk2 dX2_errorOf_18 ?_
        refine lv_aload_n hx hb dX2_errorOf_19 rfl (lv_at hl 0 rfl) ?_
        refine g_Dec_made (i := i0) hx hb hown hK hW (by omega) kF_RX2_9 dX2_errorOf_20 ?_
        refine lv_iload hx hb dX2_errorOf_23 (lv_at hl 4 rfl) ?_
        obtain ⟨hk3, hf⟩ := gd_inv hf
        refine l_De1 (i := i0) hx hb hK hW (by omega) rfl hk3 dX2_errorOf_25 ?_
        refine lv_isub hx hb dX2_errorOf_26 ?_
        refine lv_topi (fun x6_4 ex6_4 => ?_)
        have hf := nm_use ex6_4 hf
        refine lv_istore (lv' := [(6, .int x6_4), (0, .ref (eA E (86 + 3 * i0))), (1, .ref (eA E (10 + 8 * i1))), (3, .int a3), (4, .int x4), (5, .int x5)]) hx hb dX2_errorOf_27 hl (by decide) rfl (fun ls hl => ?_)
        refine lv_iload hx hb dX2_errorOf_29 (lv_at hl 4 rfl) ?_
        refine lv_iload hx hb dX2_errorOf_31 (lv_at hl 0 rfl) ?_
        refine lv_iload hx hb dX2_errorOf_33 (lv_at hl 0 rfl) ?_
        refine lv_imul hx hb dX2_errorOf_35 ?_
        refine lv_iadd hx hb dX2_errorOf_36 ?_
        refine lv_topi (fun x4_5 ex4_5 => ?_)
        have hf := nm_use ex4_5 hf
        refine lv_istore (lv' := [(4, .int x4_5), (6, .int x6_4), (0, .ref (eA E (86 + 3 * i0))), (1, .ref (eA E (10 + 8 * i1))), (3, .int a3), (5, .int x5)]) hx hb dX2_errorOf_37 hl (by decide) rfl (fun ls hl => ?_)
        obtain ⟨x5_6, ex5_6⟩ : ∃ y : Int32, y = (x5 + 1) := ⟨_, rfl⟩
        have hf := nm_use ex5_6 hf
        refine lv_iinc (v := x5_6) (lv' := [(5, .int x5_6), (4, .int x4_5), (6, .int x6_4), (0, .ref (eA E (86 + 3 * i0))), (1, .ref (eA E (10 + 8 * i1))), (3, .int a3)]) hx hb dX2_errorOf_39 hl (k := 5) rfl (by rw [ex5_6]; rfl) (by decide) rfl (fun ls hl => ?_)
        refine lv_goto (tgt := 6) hx hb dX2_errorOf_42 (by decide) ?_
        exact ih6 x4_5 x5_6 σ _ _ _ hW (lv_sub hl [3, 4, 5, 1, 0] rfl) hf
  refine lv_iconst (v := 0) hx hb dX2_errorOf_0 (by decide) ?_
  refine lv_istore (lv' := [(4, .int 0), (0, .ref (eA E (86 + 3 * i0))), (1, .ref (eA E (10 + 8 * i1))), (2, .int a2), (3, .int a3)]) hx hb dX2_errorOf_1 hl (by decide) rfl (fun ls hl => ?_)
  refine lv_iload_n hx hb dX2_errorOf_3 rfl (lv_at hl 3 rfl) ?_
  refine lv_istore (lv' := [(5, .int a2), (4, .int 0), (0, .ref (eA E (86 + 3 * i0))), (1, .ref (eA E (10 + 8 * i1))), (2, .int a2), (3, .int a3)]) hx hb dX2_errorOf_4 hl (by decide) rfl (fun ls hl => ?_)
  exact h6 80 0 a2 σ _ _ _ hW (lv_sub hl [2, 3, 5, 1, 0] rfl) hf
def fX6_errorByBlocks_L4  (n : Nat) (x1 : Int32) (x2 : Int32) (σ : Sg) : Option Int32 := match n with
  | 0 => none
  | n + 1 => if (σ (10 + 8 * 0) 3) ≤ x2 then (some x1) else (bd (fX4_startOf 0 x2 σ) fun r3 => bd (fX4_endOf 0 x2 σ) fun r5 => bd (fX2_errorOf 0 0 r3 r5 σ) fun r7 => nm (x1 + r7) fun x1_8 => nm (x2 + 1) fun x2_9 => (fun x1 x2 σ => fX6_errorByBlocks_L4 n x1 x2 σ) x1_8 x2_9 σ)
def fX6_errorByBlocks (σ : Sg) : Option Int32 := fX6_errorByBlocks_L4 80 0 0 σ
set_option maxHeartbeats 4000000 in
set_option maxRecDepth 100000 in
theorem mX6_errorByBlocks (l : Launch) {E : En} {σ μ : Sg} {dg : Int64}   {r : Int32} (hf : fX6_errorByBlocks σ = some r) : Met l yX6_errorByBlocks [.code yX6_errorByBlocks cX6_errorByBlocks 3 (some .int)] (Rm 2 42) (va_Pc [.ref (eA E 0)] (Wd E σ μ dg)) (Qi E σ μ dg r) 0 0 (eP E) := by
  refine ss_of (by decide) (Nat.le_of_ble_eq_true rfl) (fun p e s m below meth c hx hb hr hlk hml hown hK hW ls hl => ?_)
  have hown : s.vm.findClass RX6 = some m.cls := hown
  have hl : lv_has ls 3 [(0, .ref (eA E 0))] := hl
  unfold fX6_errorByBlocks at hf
  have h4 : ∀ (n4 : Nat) (x1 : Int32) (x2 : Int32) (σ : Sg) (H : Heap) (locs : List Loc) (ls : Array Slot), Wk E σ μ dg s H locs → lv_has ls 3 [(0, .ref (eA E 0)), (1, .int x1), (2, .int x2)] → fX6_errorByBlocks_L4 n4 x1 x2 σ = some r → W p l e (Rm 2 42) s m [.ref (eA E 0)].toArray below meth c H locs 0 0 (MQ below (Qi E σ μ dg r) [.ref (eA E 0)].toArray s 0 0 (eP E)) (F0 m 4 ls []) := by
    intro n4
    induction n4 with
    | zero =>
      intro x1 x2 σ  H locs ls hW hl hf
      exact absurd hf (by simp [fX6_errorByBlocks_L4])
    | succ n4 ih4 =>
      intro x1 x2 σ  H locs ls hW hl hf
      rw [fX6_errorByBlocks_L4] at hf
      refine lv_iload_n hx hb dX6_errorByBlocks_4 rfl (lv_at hl 2 rfl) ?_
      refine lv_aload_n hx hb dX6_errorByBlocks_5 rfl (lv_at hl 0 rfl) ?_
      refine g_X_now hx hb hown hK hW kF_RX6_12 dX6_errorByBlocks_6 ?_
      refine g_State_blocks (i := 0) hx hb hown hK hW (by omega) kF_RX6_158 dX6_errorByBlocks_9 ?_
      refine lv_icmp_ge (tgt := 51) hx hb dX6_errorByBlocks_12 (by decide) (fun c1 => ?_) (fun c1 => ?_)
      · have hf := br_p c1 hf
        refine lv_iload_n hx hb dX6_errorByBlocks_51 rfl (lv_at hl 1 rfl) ?_
        exact ss_iret hx hb hr hlk hW (Option.some.inj hf) dX6_errorByBlocks_52
      · have hf := br_n c1 hf
        refine lv_iload_n hx hb dX6_errorByBlocks_15 rfl (lv_at hl 1 rfl) ?_
        refine lv_aload_n hx hb dX6_errorByBlocks_16 rfl (lv_at hl 0 rfl) ?_
        refine g_X_decoder hx hb hown hK hW kF_RX6_48 dX6_errorByBlocks_17 ?_
        refine lv_aload_n hx hb dX6_errorByBlocks_20 rfl (lv_at hl 0 rfl) ?_
        refine g_X_now hx hb hown hK hW kF_RX6_12 dX6_errorByBlocks_21 ?_
        refine lv_aload_n hx hb dX6_errorByBlocks_24 rfl (lv_at hl 0 rfl) ?_
        refine g_X_now hx hb hown hK hW kF_RX6_12 dX6_errorByBlocks_25 ?_
        refine lv_iload_n hx hb dX6_errorByBlocks_28 rfl (lv_at hl 2 rfl) ?_
        obtain ⟨r3, q2, hf⟩ := bd_inv hf
        refine ss_callVi (As := [.int x2]) hx hb hml hown hK hW kb_X4_startOf kM_RX6_260 rfl (okq_lt (by omega)) (c_st (i := 0) (by omega) 0 (by decide)) (mX4_startOf l (i0 := 0) (a1 := x2) (by omega) q2) rfl dX6_errorByBlocks_29 rfl hl.1 (Nat.le_of_ble_eq_true rfl) ⟨Nat.le_of_ble_eq_true rfl, Nat.le_of_ble_eq_true rfl⟩ ⟨Nat.zero_le _, Nat.zero_le _⟩ (fun H locs hW => ?_)
        refine lv_aload_n hx hb dX6_errorByBlocks_32 rfl (lv_at hl 0 rfl) ?_
        refine g_X_now hx hb hown hK hW kF_RX6_12 dX6_errorByBlocks_33 ?_
        refine lv_iload_n hx hb dX6_errorByBlocks_36 rfl (lv_at hl 2 rfl) ?_
        obtain ⟨r5, q4, hf⟩ := bd_inv hf
        refine ss_callVi (As := [.int x2]) hx hb hml hown hK hW kb_X4_endOf kM_RX6_257 rfl (okq_lt (by omega)) (c_st (i := 0) (by omega) 0 (by decide)) (mX4_endOf l (i0 := 0) (a1 := x2) (by omega) q4) rfl dX6_errorByBlocks_37 rfl hl.1 (Nat.le_of_ble_eq_true rfl) ⟨Nat.le_of_ble_eq_true rfl, Nat.le_of_ble_eq_true rfl⟩ ⟨Nat.zero_le _, Nat.zero_le _⟩ (fun H locs hW => ?_)
        obtain ⟨r7, q6, hf⟩ := bd_inv hf
        refine ss_callVi (As := [.ref (eA E (10 + 8 * 0)), .int r3, .int r5]) hx hb hml hown hK hW kb_X2_errorOf kM_RX6_269 rfl (okq_lt (by omega)) (c_dc (d := 0) (by omega) 0 (by decide)) (mX2_errorOf l (i0 := 0) (i1 := 0) (a2 := r3) (a3 := r5) (by omega) (by omega) q6) rfl dX6_errorByBlocks_40 rfl hl.1 (Nat.le_of_ble_eq_true rfl) ⟨Nat.le_of_ble_eq_true rfl, Nat.le_of_ble_eq_true rfl⟩ ⟨Nat.zero_le _, Nat.zero_le _⟩ (fun H locs hW => ?_)
        refine lv_iadd hx hb dX6_errorByBlocks_43 ?_
        refine lv_topi (fun x1_8 ex1_8 => ?_)
        have hf := nm_use ex1_8 hf
        refine lv_istore_n (lv' := [(1, .int x1_8), (0, .ref (eA E 0)), (2, .int x2)]) hx hb dX6_errorByBlocks_44 rfl hl (by decide) rfl (fun ls hl => ?_)
        obtain ⟨x2_9, ex2_9⟩ : ∃ y : Int32, y = (x2 + 1) := ⟨_, rfl⟩
        have hf := nm_use ex2_9 hf
        refine lv_iinc (v := x2_9) (lv' := [(2, .int x2_9), (1, .int x1_8), (0, .ref (eA E 0))]) hx hb dX6_errorByBlocks_45 hl (k := 2) rfl (by rw [ex2_9]; rfl) (by decide) rfl (fun ls hl => ?_)
        refine lv_goto (tgt := 4) hx hb dX6_errorByBlocks_48 (by decide) ?_
        exact ih4 x1_8 x2_9 σ _ _ _ hW (lv_sub hl [2, 1, 0] rfl) hf
  refine lv_iconst (v := 0) hx hb dX6_errorByBlocks_0 (by decide) ?_
  refine lv_istore_n (lv' := [(1, .int 0), (0, .ref (eA E 0))]) hx hb dX6_errorByBlocks_1 rfl hl (by decide) rfl (fun ls hl => ?_)
  refine lv_iconst (v := 0) hx hb dX6_errorByBlocks_2 (by decide) ?_
  refine lv_istore_n (lv' := [(2, .int 0), (1, .int 0), (0, .ref (eA E 0))]) hx hb dX6_errorByBlocks_3 rfl hl (by decide) rfl (fun ls hl => ?_)
  exact h4 80 0 0 σ _ _ _ hW (lv_sub hl [2, 1, 0] rfl) hf
def fX2_greatestDifference_L4 (i0 : Nat) (i1 : Nat) (n : Nat) (x2 : Int32) (x3 : Int32) (σ : Sg) : Option Int32 := match n with
  | 0 => none
  | n + 1 => if (σ (10 + 8 * i1) 0) ≤ x3 then (some x2) else (gd (¬ (x3 < 0 ∨ 64 ≤ (x3).toNatClampNeg)) <| gd (¬ (x3 < 0 ∨ 64 ≤ (x3).toNatClampNeg)) <| nm (mxI x2 (abI ((σ (10 + 8 * i1 + 1) (x3).toNatClampNeg) - (σ (86 + 3 * i0 + 1) (x3).toNatClampNeg)))) fun x2_4 => nm (x3 + 1) fun x3_5 => (fun x2 x3 σ => fX2_greatestDifference_L4 i0 i1 n x2 x3 σ) x2_4 x3_5 σ)
def fX2_greatestDifference (i0 : Nat) (i1 : Nat) (σ : Sg) : Option Int32 := fX2_greatestDifference_L4 i0 i1 80 0 0 σ
set_option maxHeartbeats 4000000 in
set_option maxRecDepth 100000 in
theorem mX2_greatestDifference (l : Launch) {E : En} {σ μ : Sg} {dg : Int64} {i0 : Nat} {i1 : Nat} (hi0 : i0 < 2) (hi1 : i1 < 9) {r : Int32} (hf : fX2_greatestDifference i0 i1 σ = some r) : Met l yX2_greatestDifference [.code yX2_greatestDifference cX2_greatestDifference 4 (some .int)] (Rm 1 21) (va_Pc [.ref (eA E (86 + 3 * i0)), .ref (eA E (10 + 8 * i1))] (Wd E σ μ dg)) (Qi E σ μ dg r) 0 0 (eP E) := by
  refine ss_of (by decide) (Nat.le_of_ble_eq_true rfl) (fun p e s m below meth c hx hb hr hlk hml hown hK hW ls hl => ?_)
  have hown : s.vm.findClass RX2 = some m.cls := hown
  have hl : lv_has ls 4 [(0, .ref (eA E (86 + 3 * i0))), (1, .ref (eA E (10 + 8 * i1)))] := hl
  unfold fX2_greatestDifference at hf
  have h4 : ∀ (n4 : Nat) (x2 : Int32) (x3 : Int32) (σ : Sg) (H : Heap) (locs : List Loc) (ls : Array Slot), Wk E σ μ dg s H locs → lv_has ls 4 [(0, .ref (eA E (86 + 3 * i0))), (1, .ref (eA E (10 + 8 * i1))), (2, .int x2), (3, .int x3)] → fX2_greatestDifference_L4 i0 i1 n4 x2 x3 σ = some r → W p l e (Rm 1 21) s m [.ref (eA E (86 + 3 * i0)), .ref (eA E (10 + 8 * i1))].toArray below meth c H locs 0 0 (MQ below (Qi E σ μ dg r) [.ref (eA E (86 + 3 * i0)), .ref (eA E (10 + 8 * i1))].toArray s 0 0 (eP E)) (F0 m 4 ls []) := by
    intro n4
    induction n4 with
    | zero =>
      intro x2 x3 σ  H locs ls hW hl hf
      exact absurd hf (by simp [fX2_greatestDifference_L4])
    | succ n4 ih4 =>
      intro x2 x3 σ  H locs ls hW hl hf
      rw [fX2_greatestDifference_L4] at hf
      refine lv_iload_n hx hb dX2_greatestDifference_4 rfl (lv_at hl 3 rfl) ?_
      refine lv_aload_n hx hb dX2_greatestDifference_5 rfl (lv_at hl 1 rfl) ?_
      refine g_State_many (i := i1) hx hb hown hK hW (by omega) kF_RX2_86 dX2_greatestDifference_6 ?_
      refine lv_icmp_ge (tgt := 39) hx hb dX2_greatestDifference_9 (by decide) (fun c1 => ?_) (fun c1 => ?_)
      · have hf := br_p c1 hf
        refine lv_iload_n hx hb dX2_greatestDifference_39 rfl (lv_at hl 2 rfl) ?_
        exact ss_iret hx hb hr hlk hW (Option.some.inj hf) dX2_greatestDifference_40
      · have hf := br_n c1 hf
        refine lv_iload_n hx hb dX2_greatestDifference_12 rfl (lv_at hl 2 rfl) ?_
        refine lv_aload_n hx hb dX2_greatestDifference_13 rfl (lv_at hl 1 rfl) ?_
        refine g_State_values (i := i1) hx hb hown hK hW (by omega) kF_RX2_83 dX2_greatestDifference_14 ?_
        refine lv_iload_n hx hb dX2_greatestDifference_17 rfl (lv_at hl 3 rfl) ?_
        obtain ⟨hk2, hf⟩ := gd_inv hf
        refine l_St1 (i := i1) hx hb hK hW (by omega) rfl hk2 dX2_greatestDifference_18 ?_
        refine lv_aload_n hx hb dX2_greatestDifference_19 rfl (lv_at hl 0 rfl) ?_
        refine g_Dec_made (i := i0) hx hb hown hK hW (by omega) kF_RX2_9 dX2_greatestDifference_20 ?_
        refine lv_iload_n hx hb dX2_greatestDifference_23 rfl (lv_at hl 3 rfl) ?_
        obtain ⟨hk3, hf⟩ := gd_inv hf
        refine l_De1 (i := i0) hx hb hK hW (by omega) rfl hk3 dX2_greatestDifference_24 ?_
        refine lv_isub hx hb dX2_greatestDifference_25 ?_
        refine ss_abs hx hb hml hl.1 hown hK kM_RX2_89 kMs_abs kMi kMc_abs ⟨Nat.le_of_ble_eq_true rfl, Nat.le_of_ble_eq_true rfl⟩ ⟨Nat.zero_le _, Nat.zero_le _⟩ dX2_greatestDifference_26 ?_
        show W p l e _ s m _ below meth c _ _ 0 0 _ (F0 m 29 ls ([.int (abI ((σ (10 + 8 * i1 + 1) (x3).toNatClampNeg) - (σ (86 + 3 * i0 + 1) (x3).toNatClampNeg))), .int x2]))
        refine ss_max hx hb hml hl.1 hown hK kM_RX2_94 kMs_max kMi kMc_max ⟨Nat.le_of_ble_eq_true rfl, Nat.le_of_ble_eq_true rfl⟩ ⟨Nat.zero_le _, Nat.zero_le _⟩ dX2_greatestDifference_29 ?_
        show W p l e _ s m _ below meth c _ _ 0 0 _ (F0 m 32 ls ([.int (mxI x2 (abI ((σ (10 + 8 * i1 + 1) (x3).toNatClampNeg) - (σ (86 + 3 * i0 + 1) (x3).toNatClampNeg))))]))
        refine lv_topi (fun x2_4 ex2_4 => ?_)
        have hf := nm_use ex2_4 hf
        refine lv_istore_n (lv' := [(2, .int x2_4), (0, .ref (eA E (86 + 3 * i0))), (1, .ref (eA E (10 + 8 * i1))), (3, .int x3)]) hx hb dX2_greatestDifference_32 rfl hl (by decide) rfl (fun ls hl => ?_)
        obtain ⟨x3_5, ex3_5⟩ : ∃ y : Int32, y = (x3 + 1) := ⟨_, rfl⟩
        have hf := nm_use ex3_5 hf
        refine lv_iinc (v := x3_5) (lv' := [(3, .int x3_5), (2, .int x2_4), (0, .ref (eA E (86 + 3 * i0))), (1, .ref (eA E (10 + 8 * i1)))]) hx hb dX2_greatestDifference_33 hl (k := 3) rfl (by rw [ex3_5]; rfl) (by decide) rfl (fun ls hl => ?_)
        refine lv_goto (tgt := 4) hx hb dX2_greatestDifference_36 (by decide) ?_
        exact ih4 x2_4 x3_5 σ _ _ _ hW (lv_sub hl [2, 3, 1, 0] rfl) hf
  refine lv_iconst (v := 0) hx hb dX2_greatestDifference_0 (by decide) ?_
  refine lv_istore_n (lv' := [(2, .int 0), (0, .ref (eA E (86 + 3 * i0))), (1, .ref (eA E (10 + 8 * i1)))]) hx hb dX2_greatestDifference_1 rfl hl (by decide) rfl (fun ls hl => ?_)
  refine lv_iconst (v := 0) hx hb dX2_greatestDifference_2 (by decide) ?_
  refine lv_istore_n (lv' := [(3, .int 0), (2, .int 0), (0, .ref (eA E (86 + 3 * i0))), (1, .ref (eA E (10 + 8 * i1)))]) hx hb dX2_greatestDifference_3 rfl hl (by decide) rfl (fun ls hl => ?_)
  exact h4 80 0 0 σ _ _ _ hW (lv_sub hl [2, 3, 1, 0] rfl) hf
def fX2_justAsTheyAre_L4 (i0 : Nat) (i1 : Nat) (n : Nat) (x2 : Int32) (x3 : Int32) (σ : Sg) : Option Int32 := match n with
  | 0 => none
  | n + 1 => if (σ (10 + 8 * i1) 0) ≤ x3 then (some x2) else (gd (¬ (x3 < 0 ∨ 64 ≤ (x3).toNatClampNeg)) <| gd (¬ (x3 < 0 ∨ 64 ≤ (x3).toNatClampNeg)) <| if (σ (10 + 8 * i1 + 1) (x3).toNatClampNeg) = (σ (86 + 3 * i0 + 1) (x3).toNatClampNeg) then (nm (x2 + 1) fun x2_6 => nm (x3 + 1) fun x3_7 => (fun x2 x3 σ => fX2_justAsTheyAre_L4 i0 i1 n x2 x3 σ) x2_6 x3_7 σ) else (nm (x3 + 1) fun x3_5 => (fun x2 x3 σ => fX2_justAsTheyAre_L4 i0 i1 n x2 x3 σ) x2 x3_5 σ))
def fX2_justAsTheyAre (i0 : Nat) (i1 : Nat) (σ : Sg) : Option Int32 := fX2_justAsTheyAre_L4 i0 i1 80 0 0 σ
set_option maxHeartbeats 4000000 in
set_option maxRecDepth 100000 in
theorem mX2_justAsTheyAre (l : Launch) {E : En} {σ μ : Sg} {dg : Int64} {i0 : Nat} {i1 : Nat} (hi0 : i0 < 2) (hi1 : i1 < 9) {r : Int32} (hf : fX2_justAsTheyAre i0 i1 σ = some r) : Met l yX2_justAsTheyAre [.code yX2_justAsTheyAre cX2_justAsTheyAre 4 (some .int)] (Rm 0 0) (va_Pc [.ref (eA E (86 + 3 * i0)), .ref (eA E (10 + 8 * i1))] (Wd E σ μ dg)) (Qi E σ μ dg r) 0 0 (eP E) := by
  refine ss_of (by decide) (Nat.le_of_ble_eq_true rfl) (fun p e s m below meth c hx hb hr hlk hml hown hK hW ls hl => ?_)
  have hown : s.vm.findClass RX2 = some m.cls := hown
  have hl : lv_has ls 4 [(0, .ref (eA E (86 + 3 * i0))), (1, .ref (eA E (10 + 8 * i1)))] := hl
  unfold fX2_justAsTheyAre at hf
  have h4 : ∀ (n4 : Nat) (x2 : Int32) (x3 : Int32) (σ : Sg) (H : Heap) (locs : List Loc) (ls : Array Slot), Wk E σ μ dg s H locs → lv_has ls 4 [(0, .ref (eA E (86 + 3 * i0))), (1, .ref (eA E (10 + 8 * i1))), (2, .int x2), (3, .int x3)] → fX2_justAsTheyAre_L4 i0 i1 n4 x2 x3 σ = some r → W p l e (Rm 0 0) s m [.ref (eA E (86 + 3 * i0)), .ref (eA E (10 + 8 * i1))].toArray below meth c H locs 0 0 (MQ below (Qi E σ μ dg r) [.ref (eA E (86 + 3 * i0)), .ref (eA E (10 + 8 * i1))].toArray s 0 0 (eP E)) (F0 m 4 ls []) := by
    intro n4
    induction n4 with
    | zero =>
      intro x2 x3 σ  H locs ls hW hl hf
      exact absurd hf (by simp [fX2_justAsTheyAre_L4])
    | succ n4 ih4 =>
      intro x2 x3 σ  H locs ls hW hl hf
      rw [fX2_justAsTheyAre_L4] at hf
      refine lv_iload_n hx hb dX2_justAsTheyAre_4 rfl (lv_at hl 3 rfl) ?_
      refine lv_aload_n hx hb dX2_justAsTheyAre_5 rfl (lv_at hl 1 rfl) ?_
      refine g_State_many (i := i1) hx hb hown hK hW (by omega) kF_RX2_86 dX2_justAsTheyAre_6 ?_
      refine lv_icmp_ge (tgt := 36) hx hb dX2_justAsTheyAre_9 (by decide) (fun c1 => ?_) (fun c1 => ?_)
      · have hf := br_p c1 hf
        refine lv_iload_n hx hb dX2_justAsTheyAre_36 rfl (lv_at hl 2 rfl) ?_
        exact ss_iret hx hb hr hlk hW (Option.some.inj hf) dX2_justAsTheyAre_37
      · have hf := br_n c1 hf
        refine lv_aload_n hx hb dX2_justAsTheyAre_12 rfl (lv_at hl 1 rfl) ?_
        refine g_State_values (i := i1) hx hb hown hK hW (by omega) kF_RX2_83 dX2_justAsTheyAre_13 ?_
        refine lv_iload_n hx hb dX2_justAsTheyAre_16 rfl (lv_at hl 3 rfl) ?_
        obtain ⟨hk2, hf⟩ := gd_inv hf
        refine l_St1 (i := i1) hx hb hK hW (by omega) rfl hk2 dX2_justAsTheyAre_17 ?_
        refine lv_aload_n hx hb dX2_justAsTheyAre_18 rfl (lv_at hl 0 rfl) ?_
        refine g_Dec_made (i := i0) hx hb hown hK hW (by omega) kF_RX2_9 dX2_justAsTheyAre_19 ?_
        refine lv_iload_n hx hb dX2_justAsTheyAre_22 rfl (lv_at hl 3 rfl) ?_
        obtain ⟨hk3, hf⟩ := gd_inv hf
        refine l_De1 (i := i0) hx hb hK hW (by omega) rfl hk3 dX2_justAsTheyAre_23 ?_
        refine lv_icmp_ne (tgt := 30) hx hb dX2_justAsTheyAre_24 (by decide) (fun c4 => ?_) (fun c4 => ?_)
        · have hf := br_n c4 hf
          obtain ⟨x3_5, ex3_5⟩ : ∃ y : Int32, y = (x3 + 1) := ⟨_, rfl⟩
          have hf := nm_use ex3_5 hf
          refine lv_iinc (v := x3_5) (lv' := [(3, .int x3_5), (0, .ref (eA E (86 + 3 * i0))), (1, .ref (eA E (10 + 8 * i1))), (2, .int x2)]) hx hb dX2_justAsTheyAre_30 hl (k := 3) rfl (by rw [ex3_5]; rfl) (by decide) rfl (fun ls hl => ?_)
          refine lv_goto (tgt := 4) hx hb dX2_justAsTheyAre_33 (by decide) ?_
          exact ih4 x2 x3_5 σ _ _ _ hW (lv_sub hl [1, 2, 3, 0] rfl) hf
        · have hf := br_p c4 hf
          obtain ⟨x2_6, ex2_6⟩ : ∃ y : Int32, y = (x2 + 1) := ⟨_, rfl⟩
          have hf := nm_use ex2_6 hf
          refine lv_iinc (v := x2_6) (lv' := [(2, .int x2_6), (0, .ref (eA E (86 + 3 * i0))), (1, .ref (eA E (10 + 8 * i1))), (3, .int x3)]) hx hb dX2_justAsTheyAre_27 hl (k := 2) rfl (by rw [ex2_6]; rfl) (by decide) rfl (fun ls hl => ?_)
          obtain ⟨x3_7, ex3_7⟩ : ∃ y : Int32, y = (x3 + 1) := ⟨_, rfl⟩
          have hf := nm_use ex3_7 hf
          refine lv_iinc (v := x3_7) (lv' := [(3, .int x3_7), (2, .int x2_6), (0, .ref (eA E (86 + 3 * i0))), (1, .ref (eA E (10 + 8 * i1)))]) hx hb dX2_justAsTheyAre_30 hl (k := 3) rfl (by rw [ex3_7]; rfl) (by decide) rfl (fun ls hl => ?_)
          refine lv_goto (tgt := 4) hx hb dX2_justAsTheyAre_33 (by decide) ?_
          exact ih4 x2_6 x3_7 σ _ _ _ hW (lv_sub hl [2, 3, 1, 0] rfl) hf
  refine lv_iconst (v := 0) hx hb dX2_justAsTheyAre_0 (by decide) ?_
  refine lv_istore_n (lv' := [(2, .int 0), (0, .ref (eA E (86 + 3 * i0))), (1, .ref (eA E (10 + 8 * i1)))]) hx hb dX2_justAsTheyAre_1 rfl hl (by decide) rfl (fun ls hl => ?_)
  refine lv_iconst (v := 0) hx hb dX2_justAsTheyAre_2 (by decide) ?_
  refine lv_istore_n (lv' := [(3, .int 0), (2, .int 0), (0, .ref (eA E (86 + 3 * i0))), (1, .ref (eA E (10 + 8 * i1)))]) hx hb dX2_justAsTheyAre_3 rfl hl (by decide) rfl (fun ls hl => ?_)
  exact h4 80 0 0 σ _ _ _ hW (lv_sub hl [2, 3, 1, 0] rfl) hf
def fX6_codedCount (a1 : Int32) (σ : Sg) : Option (Int32 × Sg) := bd (fX2_decode 0 0 σ) fun s2 => if a1 = 4 then (bd (fX2_errorOf 0 0 0 (s2 (10 + 8 * 0) 0) s2) fun r5 => some (r5, s2)) else (if a1 = 5 then (bd (fX6_errorByBlocks s2) fun r8 => some (r8, s2)) else (if a1 = 6 then (bd (fX2_greatestDifference 0 0 s2) fun r11 => some (r11, s2)) else (if a1 = 7 then (bd (fX2_justAsTheyAre 0 0 s2) fun r14 => some (r14, s2)) else (some (((18 * (s2 (10 + 8 * 0) 3)) + (4 * ((s2 (10 + 8 * 0) 0) - (s2 (10 + 8 * 0) 3)))), s2)))))
set_option maxHeartbeats 4000000 in
set_option maxRecDepth 100000 in
theorem mX6_codedCount (l : Launch) {E : En} {σ μ : Sg} {dg : Int64} {a1 : Int32}  {r : Int32} {σ' : Sg} (hf : fX6_codedCount a1 σ = some (r, σ')) : Met l yX6_codedCount [.code yX6_codedCount cX6_codedCount 2 (some .int)] (Rm 5 111) (va_Pc [.ref (eA E 0), .int a1] (Wd E σ μ dg)) (Qi E σ' μ dg r) 0 0 (eP E) := by
  refine ss_of (by decide) (Nat.le_of_ble_eq_true rfl) (fun p e s m below meth c hx hb hr hlk hml hown hK hW ls hl => ?_)
  have hown : s.vm.findClass RX6 = some m.cls := hown
  have hl : lv_has ls 2 [(0, .ref (eA E 0)), (1, .int a1)] := hl
  unfold fX6_codedCount at hf
  refine lv_aload_n hx hb dX6_codedCount_0 rfl (lv_at hl 0 rfl) ?_
  refine g_X_decoder hx hb hown hK hW kF_RX6_48 dX6_codedCount_1 ?_
  refine lv_aload_n hx hb dX6_codedCount_4 rfl (lv_at hl 0 rfl) ?_
  refine g_X_now hx hb hown hK hW kF_RX6_12 dX6_codedCount_5 ?_
  obtain ⟨s2, q1, hf⟩ := bd_inv hf
  refine ss_callVv (As := [.ref (eA E (10 + 8 * 0))]) hx hb hml hown hK hW kb_X2_decode kM_RX6_124 rfl (okq_lt (by omega)) (c_dc (d := 0) (by omega) 0 (by decide)) (mX2_decode l (i0 := 0) (i1 := 0) (by omega) (by omega) q1) rfl dX6_codedCount_8 rfl hl.1 (Nat.le_of_ble_eq_true rfl) ⟨Nat.le_of_ble_eq_true rfl, Nat.le_of_ble_eq_true rfl⟩ ⟨Nat.zero_le _, Nat.zero_le _⟩ (fun H locs hW => ?_)
  refine lv_iload_n hx hb dX6_codedCount_11 rfl (lv_at hl 1 rfl) ?_
  by_cases c3 : a1 = 4
  · have hf := br_p c3 hf
    refine lv_tableIn (tgt := 44) hx hb dX6_codedCount_12 (by rw [c3]; decide) (by rw [c3]; decide) (by rw [c3]; rfl) (by decide) ?_
    refine lv_aload_n hx hb dX6_codedCount_44 rfl (lv_at hl 0 rfl) ?_
    refine g_X_decoder hx hb hown hK hW kF_RX6_48 dX6_codedCount_45 ?_
    refine lv_aload_n hx hb dX6_codedCount_48 rfl (lv_at hl 0 rfl) ?_
    refine g_X_now hx hb hown hK hW kF_RX6_12 dX6_codedCount_49 ?_
    refine lv_iconst (v := 0) hx hb dX6_codedCount_52 (by decide) ?_
    refine lv_aload_n hx hb dX6_codedCount_53 rfl (lv_at hl 0 rfl) ?_
    refine g_X_now hx hb hown hK hW kF_RX6_12 dX6_codedCount_54 ?_
    refine g_State_many (i := 0) hx hb hown hK hW (by omega) kF_RX6_72 dX6_codedCount_57 ?_
    obtain ⟨r5, q4, hf⟩ := bd_inv hf
    refine ss_callVi (As := [.ref (eA E (10 + 8 * 0)), .int 0, .int (s2 (10 + 8 * 0) 0)]) hx hb hml hown hK hW kb_X2_errorOf kM_RX6_269 rfl (okq_lt (by omega)) (c_dc (d := 0) (by omega) 0 (by decide)) (mX2_errorOf l (i0 := 0) (i1 := 0) (a2 := 0) (a3 := (s2 (10 + 8 * 0) 0)) (by omega) (by omega) q4) rfl dX6_codedCount_60 rfl hl.1 (Nat.le_of_ble_eq_true rfl) ⟨Nat.le_of_ble_eq_true rfl, Nat.le_of_ble_eq_true rfl⟩ ⟨Nat.zero_le _, Nat.zero_le _⟩ (fun H locs hW => ?_)
    cases hf
    exact ss_iret hx hb hr hlk hW rfl dX6_codedCount_63
  have hf := br_n c3 hf
  by_cases c6 : a1 = 5
  · have hf := br_p c6 hf
    refine lv_tableIn (tgt := 64) hx hb dX6_codedCount_12 (by rw [c6]; decide) (by rw [c6]; decide) (by rw [c6]; rfl) (by decide) ?_
    refine lv_aload_n hx hb dX6_codedCount_64 rfl (lv_at hl 0 rfl) ?_
    obtain ⟨r8, q7, hf⟩ := bd_inv hf
    refine ss_callVi (As := []) hx hb hml hown hK hW kb_X6_errorByBlocks kM_RX6_391 rfl (okq_lt (by decide)) (c_fx (by decide)) (mX6_errorByBlocks l  q7) rfl dX6_codedCount_65 rfl hl.1 (Nat.le_of_ble_eq_true rfl) ⟨Nat.le_of_ble_eq_true rfl, Nat.le_of_ble_eq_true rfl⟩ ⟨Nat.zero_le _, Nat.zero_le _⟩ (fun H locs hW => ?_)
    cases hf
    exact ss_iret hx hb hr hlk hW rfl dX6_codedCount_68
  have hf := br_n c6 hf
  by_cases c9 : a1 = 6
  · have hf := br_p c9 hf
    refine lv_tableIn (tgt := 69) hx hb dX6_codedCount_12 (by rw [c9]; decide) (by rw [c9]; decide) (by rw [c9]; rfl) (by decide) ?_
    refine lv_aload_n hx hb dX6_codedCount_69 rfl (lv_at hl 0 rfl) ?_
    refine g_X_decoder hx hb hown hK hW kF_RX6_48 dX6_codedCount_70 ?_
    refine lv_aload_n hx hb dX6_codedCount_73 rfl (lv_at hl 0 rfl) ?_
    refine g_X_now hx hb hown hK hW kF_RX6_12 dX6_codedCount_74 ?_
    obtain ⟨r11, q10, hf⟩ := bd_inv hf
    refine ss_callVi (As := [.ref (eA E (10 + 8 * 0))]) hx hb hml hown hK hW kb_X2_greatestDifference kM_RX6_394 rfl (okq_lt (by omega)) (c_dc (d := 0) (by omega) 0 (by decide)) (mX2_greatestDifference l (i0 := 0) (i1 := 0) (by omega) (by omega) q10) rfl dX6_codedCount_77 rfl hl.1 (Nat.le_of_ble_eq_true rfl) ⟨Nat.le_of_ble_eq_true rfl, Nat.le_of_ble_eq_true rfl⟩ ⟨Nat.zero_le _, Nat.zero_le _⟩ (fun H locs hW => ?_)
    cases hf
    exact ss_iret hx hb hr hlk hW rfl dX6_codedCount_80
  have hf := br_n c9 hf
  by_cases c12 : a1 = 7
  · have hf := br_p c12 hf
    refine lv_tableIn (tgt := 81) hx hb dX6_codedCount_12 (by rw [c12]; decide) (by rw [c12]; decide) (by rw [c12]; rfl) (by decide) ?_
    refine lv_aload_n hx hb dX6_codedCount_81 rfl (lv_at hl 0 rfl) ?_
    refine g_X_decoder hx hb hown hK hW kF_RX6_48 dX6_codedCount_82 ?_
    refine lv_aload_n hx hb dX6_codedCount_85 rfl (lv_at hl 0 rfl) ?_
    refine g_X_now hx hb hown hK hW kF_RX6_12 dX6_codedCount_86 ?_
    obtain ⟨r14, q13, hf⟩ := bd_inv hf
    refine ss_callVi (As := [.ref (eA E (10 + 8 * 0))]) hx hb hml hown hK hW kb_X2_justAsTheyAre kM_RX6_128 rfl (okq_lt (by omega)) (c_dc (d := 0) (by omega) 0 (by decide)) (mX2_justAsTheyAre l (i0 := 0) (i1 := 0) (by omega) (by omega) q13) rfl dX6_codedCount_89 rfl hl.1 (Nat.le_of_ble_eq_true rfl) ⟨Nat.le_of_ble_eq_true rfl, Nat.le_of_ble_eq_true rfl⟩ ⟨Nat.zero_le _, Nat.zero_le _⟩ (fun H locs hW => ?_)
    cases hf
    exact ss_iret hx hb hr hlk hW rfl dX6_codedCount_92
  have hf := br_n c12 hf
  have zc3 := sw_ne (n := 4) c3 (by decide)
  have zc6 := sw_ne (n := 5) c6 (by decide)
  have zc9 := sw_ne (n := 6) c9 (by decide)
  have zc12 := sw_ne (n := 7) c12 (by decide)
  refine lv_tableOut (tgt := 93) hx hb dX6_codedCount_12 (by omega) (by decide) ?_
  refine lv_bipush (v := 18) hx hb dX6_codedCount_93 (by decide) ?_
  refine lv_aload_n hx hb dX6_codedCount_95 rfl (lv_at hl 0 rfl) ?_
  refine g_X_now hx hb hown hK hW kF_RX6_12 dX6_codedCount_96 ?_
  refine g_State_blocks (i := 0) hx hb hown hK hW (by omega) kF_RX6_158 dX6_codedCount_99 ?_
  refine lv_imul hx hb dX6_codedCount_102 ?_
  refine lv_iconst (v := 4) hx hb dX6_codedCount_103 (by decide) ?_
  refine lv_aload_n hx hb dX6_codedCount_104 rfl (lv_at hl 0 rfl) ?_
  refine g_X_now hx hb hown hK hW kF_RX6_12 dX6_codedCount_105 ?_
  refine g_State_many (i := 0) hx hb hown hK hW (by omega) kF_RX6_72 dX6_codedCount_108 ?_
  refine lv_aload_n hx hb dX6_codedCount_111 rfl (lv_at hl 0 rfl) ?_
  refine g_X_now hx hb hown hK hW kF_RX6_12 dX6_codedCount_112 ?_
  refine g_State_blocks (i := 0) hx hb hown hK hW (by omega) kF_RX6_158 dX6_codedCount_115 ?_
  refine lv_isub hx hb dX6_codedCount_118 ?_
  refine lv_imul hx hb dX6_codedCount_119 ?_
  refine lv_iadd hx hb dX6_codedCount_120 ?_
  cases hf
  exact ss_iret hx hb hr hlk hW rfl dX6_codedCount_121
def fX3_dropOldest_L9  (n : Nat) (j1 : Nat) (x2 : Int32) (σ : Sg) : Option Sg := match n with
  | 0 => none
  | n + 1 => if 6 ≤ x2 then (nm (up2 σ 2 ((5 : Int32).toNatClampNeg) (nI j1)) fun s2 => nm (up2 s2 1 1 ((s2 1 1) - 1)) fun s3 => some s3) else (gd (¬ (x2 < 0 ∨ 6 ≤ (x2).toNatClampNeg)) <| nm ((σ 2 ((x2).toNatClampNeg)).toNatClampNeg) fun j5 => gd (j5 < 9) <| gd (¬ ((x2 - 1) < 0 ∨ 6 ≤ ((x2 - 1)).toNatClampNeg)) <| nm (up2 σ 2 (((x2 - 1)).toNatClampNeg) (nI j5)) fun s7 => nm (x2 + 1) fun x2_8 => (fun j1 x2 σ => fX3_dropOldest_L9 n j1 x2 σ) j1 x2_8 s7)
def fX3_dropOldest (σ : Sg) : Option Sg := nm ((σ 2 0).toNatClampNeg) fun j9 => gd (j9 < 9) <| fX3_dropOldest_L9 80 j9 1 σ
set_option maxHeartbeats 4000000 in
set_option maxRecDepth 100000 in
theorem mX3_dropOldest (l : Launch) {E : En} {σ μ : Sg} {dg : Int64}   {σ' : Sg} (hf : fX3_dropOldest σ = some σ') : Met l yX3_dropOldest [.code yX3_dropOldest cX3_dropOldest 3 none] (Rm 0 0) (va_Pc [.ref (eA E 1)] (Wd E σ μ dg)) (Qv E σ' μ dg) 0 0 (eP E) := by
  refine ss_of (by decide) (Nat.le_of_ble_eq_true rfl) (fun p e s m below meth c hx hb hr hlk hml hown hK hW ls hl => ?_)
  have hown : s.vm.findClass RX3 = some m.cls := hown
  have hl : lv_has ls 3 [(0, .ref (eA E 1))] := hl
  unfold fX3_dropOldest at hf
  have h9 : ∀ (n9 : Nat) (j1 : Nat) (x2 : Int32) (σ : Sg) (hj1 : j1 < 9) (H : Heap) (locs : List Loc) (ls : Array Slot), Wk E σ μ dg s H locs → lv_has ls 3 [(0, .ref (eA E 1)), (1, .ref (eA E (10 + 8 * j1))), (2, .int x2)] → fX3_dropOldest_L9 n9 j1 x2 σ = some σ' → W p l e (Rm 0 0) s m [.ref (eA E 1)].toArray below meth c H locs 0 0 (MQ below (Qv E σ' μ dg) [.ref (eA E 1)].toArray s 0 0 (eP E)) (F0 m 9 ls []) := by
    intro n9
    induction n9 with
    | zero =>
      intro j1 x2 σ hj1 H locs ls hW hl hf
      exact absurd hf (by simp [fX3_dropOldest_L9])
    | succ n9 ih9 =>
      intro j1 x2 σ hj1 H locs ls hW hl hf
      rw [fX3_dropOldest_L9] at hf
      refine lv_iload_n hx hb dX3_dropOldest_9 rfl (lv_at hl 2 rfl) ?_
      refine lv_bipush (v := 6) hx hb dX3_dropOldest_10 (by decide) ?_
      refine lv_icmp_ge (tgt := 35) hx hb dX3_dropOldest_12 (by decide) (fun c1 => ?_) (fun c1 => ?_)
      · have hf := br_p c1 hf
        refine lv_aload_n hx hb dX3_dropOldest_35 rfl (lv_at hl 0 rfl) ?_
        refine g_Hist_saved hx hb hown hK hW kF_RX3_12 dX3_dropOldest_36 ?_
        refine lv_iconst (v := 5) hx hb dX3_dropOldest_39 (by decide) ?_
        refine lv_aload_n hx hb dX3_dropOldest_40 rfl (lv_at hl 1 rfl) ?_
        refine ss_aast hx hb hK hW (j := j1) (by omega) (show ¬ ((5 : Int32) < 0 ∨ 6 ≤ (5 : Int32).toNatClampNeg) by decide) dX3_dropOldest_41 (fun H locs hW => ?_)
        obtain ⟨s2, es2⟩ : ∃ y : Sg, y = (up2 σ 2 ((5 : Int32).toNatClampNeg) (nI j1)) := ⟨_, rfl⟩
        have hf := nm_use es2 hf
        rw [← es2] at hW
        refine lv_aload_n hx hb dX3_dropOldest_42 rfl (lv_at hl 0 rfl) ?_
        refine lv_dup hx hb dX3_dropOldest_43 rfl ?_
        refine g_Hist_many hx hb hown hK hW kF_RX3_18 dX3_dropOldest_44 ?_
        refine lv_iconst (v := 1) hx hb dX3_dropOldest_47 (by decide) ?_
        refine lv_isub hx hb dX3_dropOldest_48 ?_
        refine p_Hist_many hx hb hown hK hW kF_RX3_18 dX3_dropOldest_49 (fun H locs hW => ?_)
        obtain ⟨s3, es3⟩ : ∃ y : Sg, y = (up2 s2 1 1 ((s2 1 1) - 1)) := ⟨_, rfl⟩
        have hf := nm_use es3 hf
        rw [← es3] at hW
        cases hf
        exact ss_vret hx hb hr hlk hW dX3_dropOldest_52
      · have hf := br_n c1 hf
        refine lv_aload_n hx hb dX3_dropOldest_15 rfl (lv_at hl 0 rfl) ?_
        refine g_Hist_saved hx hb hown hK hW kF_RX3_12 dX3_dropOldest_16 ?_
        refine lv_iload_n hx hb dX3_dropOldest_19 rfl (lv_at hl 2 rfl) ?_
        refine lv_iconst (v := 1) hx hb dX3_dropOldest_20 (by decide) ?_
        refine lv_isub hx hb dX3_dropOldest_21 ?_
        refine lv_aload_n hx hb dX3_dropOldest_22 rfl (lv_at hl 0 rfl) ?_
        refine g_Hist_saved hx hb hown hK hW kF_RX3_12 dX3_dropOldest_23 ?_
        refine lv_iload_n hx hb dX3_dropOldest_26 rfl (lv_at hl 2 rfl) ?_
        obtain ⟨hk4, hf⟩ := gd_inv hf
        refine ss_aald hx hb hK hW (q := 2) (b := eA _ (10 + 8 * ((σ 2 ((x2).toNatClampNeg)).toNatClampNeg))) (okq_lt (by decide)) (c_fx (by decide)) hk4 rfl dX3_dropOldest_27 ?_
        obtain ⟨j5, ej5⟩ : ∃ y : Nat, y = ((σ 2 ((x2).toNatClampNeg)).toNatClampNeg) := ⟨_, rfl⟩
        have hf := nm_use ej5 hf
        rw [← ej5]
        obtain ⟨hj5, hf⟩ := gd_inv hf
        obtain ⟨hk6, hf⟩ := gd_inv hf
        refine ss_aast hx hb hK hW (j := j5) (by omega) hk6 dX3_dropOldest_28 (fun H locs hW => ?_)
        obtain ⟨s7, es7⟩ : ∃ y : Sg, y = (up2 σ 2 (((x2 - 1)).toNatClampNeg) (nI j5)) := ⟨_, rfl⟩
        have hf := nm_use es7 hf
        rw [← es7] at hW
        obtain ⟨x2_8, ex2_8⟩ : ∃ y : Int32, y = (x2 + 1) := ⟨_, rfl⟩
        have hf := nm_use ex2_8 hf
        refine lv_iinc (v := x2_8) (lv' := [(2, .int x2_8), (0, .ref (eA E 1)), (1, .ref (eA E (10 + 8 * j1)))]) hx hb dX3_dropOldest_29 hl (k := 2) rfl (by rw [ex2_8]; rfl) (by decide) rfl (fun ls hl => ?_)
        refine lv_goto (tgt := 9) hx hb dX3_dropOldest_32 (by decide) ?_
        exact ih9 j1 x2_8 s7 (by omega) _ _ _ hW (lv_sub hl [1, 2, 0] rfl) hf
  refine lv_aload_n hx hb dX3_dropOldest_0 rfl (lv_at hl 0 rfl) ?_
  refine g_Hist_saved hx hb hown hK hW kF_RX3_12 dX3_dropOldest_1 ?_
  refine lv_iconst (v := 0) hx hb dX3_dropOldest_4 (by decide) ?_
  refine ss_aald hx hb hK hW (q := 2) (b := eA _ (10 + 8 * ((σ 2 0).toNatClampNeg))) (okq_lt (by decide)) (c_fx (by decide)) (show ¬ ((0 : Int32) < 0 ∨ 6 ≤ (0 : Int32).toNatClampNeg) by decide) rfl dX3_dropOldest_5 ?_
  obtain ⟨j9, ej9⟩ : ∃ y : Nat, y = ((σ 2 0).toNatClampNeg) := ⟨_, rfl⟩
  have hf := nm_use ej9 hf
  rw [← ej9]
  obtain ⟨hj9, hf⟩ := gd_inv hf
  refine lv_astore_n (lv' := [(1, .ref (eA E (10 + 8 * j9))), (0, .ref (eA E 1))]) hx hb dX3_dropOldest_6 rfl hl (by decide) rfl (fun ls hl => ?_)
  refine lv_iconst (v := 1) hx hb dX3_dropOldest_7 (by decide) ?_
  refine lv_istore_n (lv' := [(2, .int 1), (1, .ref (eA E (10 + 8 * j9))), (0, .ref (eA E 1))]) hx hb dX3_dropOldest_8 rfl hl (by decide) rfl (fun ls hl => ?_)
  exact h9 80 j9 1 σ (by omega) _ _ _ hW (lv_sub hl [2, 1, 0] rfl) hf
def fX4_copyFrom_L100 (i0 : Nat) (i1 : Nat) (n : Nat) (x2 : Int32) (σ : Sg) : Option Sg := match n with
  | 0 => none
  | n + 1 => if 32 ≤ x2 then (some σ) else (gd (¬ (x2 < 0 ∨ 32 ≤ (x2).toNatClampNeg)) <| gd (¬ (x2 < 0 ∨ 32 ≤ (x2).toNatClampNeg)) <| gd ((σ (10 + 8 * i1 + 5) (x2).toNatClampNeg) = 0 ∨ (σ (10 + 8 * i1 + 5) (x2).toNatClampNeg) = 1) <| nm (up2 σ (10 + 8 * i0 + 5) ((x2).toNatClampNeg) (σ (10 + 8 * i1 + 5) (x2).toNatClampNeg)) fun s5 => nm (x2 + 1) fun x2_6 => (fun x2 σ => fX4_copyFrom_L100 i0 i1 n x2 σ) x2_6 s5)
def fX4_copyFrom (i0 : Nat) (i1 : Nat) (σ : Sg) : Option Sg := nm (up2 σ (10 + 8 * i0) 0 (σ (10 + 8 * i1) 0)) fun s7 => nm (up2 s7 (10 + 8 * i0) 3 (s7 (10 + 8 * i1) 3)) fun s8 => nm (up2 s8 (10 + 8 * i0) 9 (s8 (10 + 8 * i1) 9)) fun s9 => nm (up2 s9 (10 + 8 * i0) 10 (s9 (10 + 8 * i1) 10)) fun s10 => nm (upR s10 (10 + 8 * i0 + 1) (va_cpy (s10 (10 + 8 * i1 + 1)) (s10 (10 + 8 * i0 + 1)) 0 0 64)) fun s11 => nm (upR s11 (10 + 8 * i0 + 2) (va_cpy (s11 (10 + 8 * i1 + 2)) (s11 (10 + 8 * i0 + 2)) 0 0 3)) fun s12 => nm (upR s12 (10 + 8 * i0 + 3) (va_cpy (s12 (10 + 8 * i1 + 3)) (s12 (10 + 8 * i0 + 3)) 0 0 32)) fun s13 => nm (upR s13 (10 + 8 * i0 + 4) (va_cpy (s13 (10 + 8 * i1 + 4)) (s13 (10 + 8 * i0 + 4)) 0 0 32)) fun s14 => nm (upR s14 (10 + 8 * i0 + 6) (va_cpy (s14 (10 + 8 * i1 + 6)) (s14 (10 + 8 * i0 + 6)) 0 0 64)) fun s15 => nm (upR s15 (10 + 8 * i0 + 7) (va_cpy (s15 (10 + 8 * i1 + 7)) (s15 (10 + 8 * i0 + 7)) 0 0 64)) fun s16 => fX4_copyFrom_L100 i0 i1 80 0 s16
set_option maxHeartbeats 4000000 in
set_option maxRecDepth 100000 in
theorem mX4_copyFrom (l : Launch) {E : En} {σ μ : Sg} {dg : Int64} {i0 : Nat} {i1 : Nat} (hi0 : i0 < 9) (hi1 : i1 < 9) {σ' : Sg} (hf : fX4_copyFrom i0 i1 σ = some σ') : Met l yX4_copyFrom [.code yX4_copyFrom cX4_copyFrom 3 none] (Rm 2 81) (va_Pc [.ref (eA E (10 + 8 * i0)), .ref (eA E (10 + 8 * i1))] (Wd E σ μ dg)) (Qv E σ' μ dg) 0 0 (eP E) := by
  refine ss_of (by decide) (Nat.le_of_ble_eq_true rfl) (fun p e s m below meth c hx hb hr hlk hml hown hK hW ls hl => ?_)
  have hown : s.vm.findClass RX4 = some m.cls := hown
  have hl : lv_has ls 3 [(0, .ref (eA E (10 + 8 * i0))), (1, .ref (eA E (10 + 8 * i1)))] := hl
  unfold fX4_copyFrom at hf
  have h100 : ∀ (n100 : Nat) (x2 : Int32) (σ : Sg) (H : Heap) (locs : List Loc) (ls : Array Slot), Wk E σ μ dg s H locs → lv_has ls 3 [(0, .ref (eA E (10 + 8 * i0))), (1, .ref (eA E (10 + 8 * i1))), (2, .int x2)] → fX4_copyFrom_L100 i0 i1 n100 x2 σ = some σ' → W p l e (Rm 2 81) s m [.ref (eA E (10 + 8 * i0)), .ref (eA E (10 + 8 * i1))].toArray below meth c H locs 0 0 (MQ below (Qv E σ' μ dg) [.ref (eA E (10 + 8 * i0)), .ref (eA E (10 + 8 * i1))].toArray s 0 0 (eP E)) (F0 m 100 ls []) := by
    intro n100
    induction n100 with
    | zero =>
      intro x2 σ  H locs ls hW hl hf
      exact absurd hf (by simp [fX4_copyFrom_L100])
    | succ n100 ih100 =>
      intro x2 σ  H locs ls hW hl hf
      rw [fX4_copyFrom_L100] at hf
      refine lv_iload_n hx hb dX4_copyFrom_100 rfl (lv_at hl 2 rfl) ?_
      refine lv_bipush (v := 32) hx hb dX4_copyFrom_101 (by decide) ?_
      refine lv_icmp_ge (tgt := 124) hx hb dX4_copyFrom_103 (by decide) (fun c1 => ?_) (fun c1 => ?_)
      · have hf := br_p c1 hf
        cases hf
        exact ss_vret hx hb hr hlk hW dX4_copyFrom_124
      · have hf := br_n c1 hf
        refine lv_aload_n hx hb dX4_copyFrom_106 rfl (lv_at hl 0 rfl) ?_
        refine g_State_lost (i := i0) hx hb hown hK hW (by omega) kF_RX4_28 dX4_copyFrom_107 ?_
        refine lv_iload_n hx hb dX4_copyFrom_110 rfl (lv_at hl 2 rfl) ?_
        refine lv_aload_n hx hb dX4_copyFrom_111 rfl (lv_at hl 1 rfl) ?_
        refine g_State_lost (i := i1) hx hb hown hK hW (by omega) kF_RX4_28 dX4_copyFrom_112 ?_
        refine lv_iload_n hx hb dX4_copyFrom_115 rfl (lv_at hl 2 rfl) ?_
        obtain ⟨hk2, hf⟩ := gd_inv hf
        refine l_St5 (i := i1) hx hb hK hW (by omega) rfl hk2 dX4_copyFrom_116 ?_
        obtain ⟨hk3, hf⟩ := gd_inv hf
        obtain ⟨hv4, hf⟩ := gd_inv hf
        refine s_St5 (i := i0) hx hb hK hW (by omega) rfl hk3 hv4 dX4_copyFrom_117 (fun H locs hW => ?_)
        obtain ⟨s5, es5⟩ : ∃ y : Sg, y = (up2 σ (10 + 8 * i0 + 5) ((x2).toNatClampNeg) (σ (10 + 8 * i1 + 5) (x2).toNatClampNeg)) := ⟨_, rfl⟩
        have hf := nm_use es5 hf
        rw [← es5] at hW
        obtain ⟨x2_6, ex2_6⟩ : ∃ y : Int32, y = (x2 + 1) := ⟨_, rfl⟩
        have hf := nm_use ex2_6 hf
        refine lv_iinc (v := x2_6) (lv' := [(2, .int x2_6), (0, .ref (eA E (10 + 8 * i0))), (1, .ref (eA E (10 + 8 * i1)))]) hx hb dX4_copyFrom_118 hl (k := 2) rfl (by rw [ex2_6]; rfl) (by decide) rfl (fun ls hl => ?_)
        refine lv_goto (tgt := 100) hx hb dX4_copyFrom_121 (by decide) ?_
        exact ih100 x2_6 s5 _ _ _ hW (lv_sub hl [1, 2, 0] rfl) hf
  refine lv_aload_n hx hb dX4_copyFrom_0 rfl (lv_at hl 0 rfl) ?_
  refine lv_aload_n hx hb dX4_copyFrom_1 rfl (lv_at hl 1 rfl) ?_
  refine g_State_many (i := i1) hx hb hown hK hW (by omega) kF_RX4_9 dX4_copyFrom_2 ?_
  refine p_State_many (i := i0) hx hb hown hK hW (by omega) kF_RX4_9 dX4_copyFrom_5 (fun H locs hW => ?_)
  obtain ⟨s7, es7⟩ : ∃ y : Sg, y = (up2 σ (10 + 8 * i0) 0 (σ (10 + 8 * i1) 0)) := ⟨_, rfl⟩
  have hf := nm_use es7 hf
  rw [← es7] at hW
  refine lv_aload_n hx hb dX4_copyFrom_8 rfl (lv_at hl 0 rfl) ?_
  refine lv_aload_n hx hb dX4_copyFrom_9 rfl (lv_at hl 1 rfl) ?_
  refine g_State_blocks (i := i1) hx hb hown hK hW (by omega) kF_RX4_38 dX4_copyFrom_10 ?_
  refine p_State_blocks (i := i0) hx hb hown hK hW (by omega) kF_RX4_38 dX4_copyFrom_13 (fun H locs hW => ?_)
  obtain ⟨s8, es8⟩ : ∃ y : Sg, y = (up2 s7 (10 + 8 * i0) 3 (s7 (10 + 8 * i1) 3)) := ⟨_, rfl⟩
  have hf := nm_use es8 hf
  rw [← es8] at hW
  refine lv_aload_n hx hb dX4_copyFrom_16 rfl (lv_at hl 0 rfl) ?_
  refine lv_aload_n hx hb dX4_copyFrom_17 rfl (lv_at hl 1 rfl) ?_
  refine g_State_codings (i := i1) hx hb hown hK hW (by omega) kF_RX4_41 dX4_copyFrom_18 ?_
  refine p_State_codings (i := i0) hx hb hown hK hW (by omega) kF_RX4_41 dX4_copyFrom_21 (fun H locs hW => ?_)
  obtain ⟨s9, es9⟩ : ∃ y : Sg, y = (up2 s8 (10 + 8 * i0) 9 (s8 (10 + 8 * i1) 9)) := ⟨_, rfl⟩
  have hf := nm_use es9 hf
  rw [← es9] at hW
  refine lv_aload_n hx hb dX4_copyFrom_24 rfl (lv_at hl 0 rfl) ?_
  refine lv_aload_n hx hb dX4_copyFrom_25 rfl (lv_at hl 1 rfl) ?_
  refine g_State_turned (i := i1) hx hb hown hK hW (by omega) kF_RX4_44 dX4_copyFrom_26 ?_
  refine p_State_turned (i := i0) hx hb hown hK hW (by omega) kF_RX4_44 dX4_copyFrom_29 (fun H locs hW => ?_)
  obtain ⟨s10, es10⟩ : ∃ y : Sg, y = (up2 s9 (10 + 8 * i0) 10 (s9 (10 + 8 * i1) 10)) := ⟨_, rfl⟩
  have hf := nm_use es10 hf
  rw [← es10] at hW
  refine lv_aload_n hx hb dX4_copyFrom_32 rfl (lv_at hl 1 rfl) ?_
  refine g_State_values (i := i1) hx hb hown hK hW (by omega) kF_RX4_15 dX4_copyFrom_33 ?_
  refine lv_aload_n hx hb dX4_copyFrom_36 rfl (lv_at hl 0 rfl) ?_
  refine g_State_values (i := i0) hx hb hown hK hW (by omega) kF_RX4_15 dX4_copyFrom_37 ?_
  refine ss_callNv (host := RX6) hx hb hml hown hK hW kb_X6_copyRow (hK.2.2.2.2.2.1.1 _ (by simp [nwL])) (mX6_copyRow l (q1 := 10 + 8 * i1 + 1) (q2 := 10 + 8 * i0 + 1) (n := 64) (okq_lt (by omega)) (okq_lt (by omega)) (c_st (i := i1) (by omega) 1 (by decide)) (c_st (i := i0) (by omega) 1 (by decide)) ((c_st (i := i0) (by omega) 1 (by decide)).trans (by simp only [cSt]; rw [upR_self])) (fun a _ h => c_upR h) (by decide)) rfl dX4_copyFrom_40 rfl hl.1 (Nat.le_of_ble_eq_true rfl) ⟨Nat.le_of_ble_eq_true rfl, Nat.le_of_ble_eq_true rfl⟩ ⟨Nat.zero_le _, Nat.zero_le _⟩ (fun H locs hW => ?_)
  obtain ⟨s11, es11⟩ : ∃ y : Sg, y = (upR s10 (10 + 8 * i0 + 1) (va_cpy (s10 (10 + 8 * i1 + 1)) (s10 (10 + 8 * i0 + 1)) 0 0 64)) := ⟨_, rfl⟩
  have hf := nm_use es11 hf
  rw [← es11] at hW
  refine lv_aload_n hx hb dX4_copyFrom_43 rfl (lv_at hl 1 rfl) ?_
  refine g_State_settings (i := i1) hx hb hown hK hW (by omega) kF_RX4_19 dX4_copyFrom_44 ?_
  refine lv_aload_n hx hb dX4_copyFrom_47 rfl (lv_at hl 0 rfl) ?_
  refine g_State_settings (i := i0) hx hb hown hK hW (by omega) kF_RX4_19 dX4_copyFrom_48 ?_
  refine ss_callNv (host := RX6) hx hb hml hown hK hW kb_X6_copyRow (hK.2.2.2.2.2.1.1 _ (by simp [nwL])) (mX6_copyRow l (q1 := 10 + 8 * i1 + 2) (q2 := 10 + 8 * i0 + 2) (n := 3) (okq_lt (by omega)) (okq_lt (by omega)) (c_st (i := i1) (by omega) 2 (by decide)) (c_st (i := i0) (by omega) 2 (by decide)) ((c_st (i := i0) (by omega) 2 (by decide)).trans (by simp only [cSt]; rw [upR_self])) (fun a _ h => c_upR h) (by decide)) rfl dX4_copyFrom_51 rfl hl.1 (Nat.le_of_ble_eq_true rfl) ⟨Nat.le_of_ble_eq_true rfl, Nat.le_of_ble_eq_true rfl⟩ ⟨Nat.zero_le _, Nat.zero_le _⟩ (fun H locs hW => ?_)
  obtain ⟨s12, es12⟩ : ∃ y : Sg, y = (upR s11 (10 + 8 * i0 + 2) (va_cpy (s11 (10 + 8 * i1 + 2)) (s11 (10 + 8 * i0 + 2)) 0 0 3)) := ⟨_, rfl⟩
  have hf := nm_use es12 hf
  rw [← es12] at hW
  refine lv_aload_n hx hb dX4_copyFrom_54 rfl (lv_at hl 1 rfl) ?_
  refine g_State_firsts (i := i1) hx hb hown hK hW (by omega) kF_RX4_22 dX4_copyFrom_55 ?_
  refine lv_aload_n hx hb dX4_copyFrom_58 rfl (lv_at hl 0 rfl) ?_
  refine g_State_firsts (i := i0) hx hb hown hK hW (by omega) kF_RX4_22 dX4_copyFrom_59 ?_
  refine ss_callNv (host := RX6) hx hb hml hown hK hW kb_X6_copyRow (hK.2.2.2.2.2.1.1 _ (by simp [nwL])) (mX6_copyRow l (q1 := 10 + 8 * i1 + 3) (q2 := 10 + 8 * i0 + 3) (n := 32) (okq_lt (by omega)) (okq_lt (by omega)) (c_st (i := i1) (by omega) 3 (by decide)) (c_st (i := i0) (by omega) 3 (by decide)) ((c_st (i := i0) (by omega) 3 (by decide)).trans (by simp only [cSt]; rw [upR_self])) (fun a _ h => c_upR h) (by decide)) rfl dX4_copyFrom_62 rfl hl.1 (Nat.le_of_ble_eq_true rfl) ⟨Nat.le_of_ble_eq_true rfl, Nat.le_of_ble_eq_true rfl⟩ ⟨Nat.zero_le _, Nat.zero_le _⟩ (fun H locs hW => ?_)
  obtain ⟨s13, es13⟩ : ∃ y : Sg, y = (upR s12 (10 + 8 * i0 + 3) (va_cpy (s12 (10 + 8 * i1 + 3)) (s12 (10 + 8 * i0 + 3)) 0 0 32)) := ⟨_, rfl⟩
  have hf := nm_use es13 hf
  rw [← es13] at hW
  refine lv_aload_n hx hb dX4_copyFrom_65 rfl (lv_at hl 1 rfl) ?_
  refine g_State_starts (i := i1) hx hb hown hK hW (by omega) kF_RX4_25 dX4_copyFrom_66 ?_
  refine lv_aload_n hx hb dX4_copyFrom_69 rfl (lv_at hl 0 rfl) ?_
  refine g_State_starts (i := i0) hx hb hown hK hW (by omega) kF_RX4_25 dX4_copyFrom_70 ?_
  refine ss_callNv (host := RX6) hx hb hml hown hK hW kb_X6_copyRow (hK.2.2.2.2.2.1.1 _ (by simp [nwL])) (mX6_copyRow l (q1 := 10 + 8 * i1 + 4) (q2 := 10 + 8 * i0 + 4) (n := 32) (okq_lt (by omega)) (okq_lt (by omega)) (c_st (i := i1) (by omega) 4 (by decide)) (c_st (i := i0) (by omega) 4 (by decide)) ((c_st (i := i0) (by omega) 4 (by decide)).trans (by simp only [cSt]; rw [upR_self])) (fun a _ h => c_upR h) (by decide)) rfl dX4_copyFrom_73 rfl hl.1 (Nat.le_of_ble_eq_true rfl) ⟨Nat.le_of_ble_eq_true rfl, Nat.le_of_ble_eq_true rfl⟩ ⟨Nat.zero_le _, Nat.zero_le _⟩ (fun H locs hW => ?_)
  obtain ⟨s14, es14⟩ : ∃ y : Sg, y = (upR s13 (10 + 8 * i0 + 4) (va_cpy (s13 (10 + 8 * i1 + 4)) (s13 (10 + 8 * i0 + 4)) 0 0 32)) := ⟨_, rfl⟩
  have hf := nm_use es14 hf
  rw [← es14] at hW
  refine lv_aload_n hx hb dX4_copyFrom_76 rfl (lv_at hl 1 rfl) ?_
  refine g_State_codes (i := i1) hx hb hown hK hW (by omega) kF_RX4_32 dX4_copyFrom_77 ?_
  refine lv_aload_n hx hb dX4_copyFrom_80 rfl (lv_at hl 0 rfl) ?_
  refine g_State_codes (i := i0) hx hb hown hK hW (by omega) kF_RX4_32 dX4_copyFrom_81 ?_
  refine ss_callNv (host := RX6) hx hb hml hown hK hW kb_X6_copyRow (hK.2.2.2.2.2.1.1 _ (by simp [nwL])) (mX6_copyRow l (q1 := 10 + 8 * i1 + 6) (q2 := 10 + 8 * i0 + 6) (n := 64) (okq_lt (by omega)) (okq_lt (by omega)) (c_st (i := i1) (by omega) 6 (by decide)) (c_st (i := i0) (by omega) 6 (by decide)) ((c_st (i := i0) (by omega) 6 (by decide)).trans (by simp only [cSt]; rw [upR_self])) (fun a _ h => c_upR h) (by decide)) rfl dX4_copyFrom_84 rfl hl.1 (Nat.le_of_ble_eq_true rfl) ⟨Nat.le_of_ble_eq_true rfl, Nat.le_of_ble_eq_true rfl⟩ ⟨Nat.zero_le _, Nat.zero_le _⟩ (fun H locs hW => ?_)
  obtain ⟨s15, es15⟩ : ∃ y : Sg, y = (upR s14 (10 + 8 * i0 + 6) (va_cpy (s14 (10 + 8 * i1 + 6)) (s14 (10 + 8 * i0 + 6)) 0 0 64)) := ⟨_, rfl⟩
  have hf := nm_use es15 hf
  rw [← es15] at hW
  refine lv_aload_n hx hb dX4_copyFrom_87 rfl (lv_at hl 1 rfl) ?_
  refine g_State_guesses (i := i1) hx hb hown hK hW (by omega) kF_RX4_35 dX4_copyFrom_88 ?_
  refine lv_aload_n hx hb dX4_copyFrom_91 rfl (lv_at hl 0 rfl) ?_
  refine g_State_guesses (i := i0) hx hb hown hK hW (by omega) kF_RX4_35 dX4_copyFrom_92 ?_
  refine ss_callNv (host := RX6) hx hb hml hown hK hW kb_X6_copyRow (hK.2.2.2.2.2.1.1 _ (by simp [nwL])) (mX6_copyRow l (q1 := 10 + 8 * i1 + 7) (q2 := 10 + 8 * i0 + 7) (n := 64) (okq_lt (by omega)) (okq_lt (by omega)) (c_st (i := i1) (by omega) 7 (by decide)) (c_st (i := i0) (by omega) 7 (by decide)) ((c_st (i := i0) (by omega) 7 (by decide)).trans (by simp only [cSt]; rw [upR_self])) (fun a _ h => c_upR h) (by decide)) rfl dX4_copyFrom_95 rfl hl.1 (Nat.le_of_ble_eq_true rfl) ⟨Nat.le_of_ble_eq_true rfl, Nat.le_of_ble_eq_true rfl⟩ ⟨Nat.zero_le _, Nat.zero_le _⟩ (fun H locs hW => ?_)
  obtain ⟨s16, es16⟩ : ∃ y : Sg, y = (upR s15 (10 + 8 * i0 + 7) (va_cpy (s15 (10 + 8 * i1 + 7)) (s15 (10 + 8 * i0 + 7)) 0 0 64)) := ⟨_, rfl⟩
  have hf := nm_use es16 hf
  rw [← es16] at hW
  refine lv_iconst (v := 0) hx hb dX4_copyFrom_98 (by decide) ?_
  refine lv_istore_n (lv' := [(2, .int 0), (0, .ref (eA E (10 + 8 * i0))), (1, .ref (eA E (10 + 8 * i1)))]) hx hb dX4_copyFrom_99 rfl hl (by decide) rfl (fun ls hl => ?_)
  exact h100 80 0 s16 _ _ _ hW (lv_sub hl [1, 2, 0] rfl) hf
def fX3_save_b13 (i1 : Nat) (σ : Sg) : Option Sg := gd (¬ ((σ 1 1) < 0 ∨ 6 ≤ ((σ 1 1)).toNatClampNeg)) <| nm ((σ 2 (((σ 1 1)).toNatClampNeg)).toNatClampNeg) fun j2 => gd (j2 < 9) <| bd (fX4_copyFrom j2 i1 σ) fun s4 => nm (up2 s4 1 1 ((s4 1 1) + 1)) fun s5 => some s5
def fX3_save (i1 : Nat) (σ : Sg) : Option Sg := if (σ 1 1) = 6 then (bd (fX3_dropOldest σ) fun s8 => fX3_save_b13 i1 s8) else (fX3_save_b13 i1 σ)
set_option maxHeartbeats 4000000 in
set_option maxRecDepth 100000 in
theorem mX3_save (l : Launch) {E : En} {σ μ : Sg} {dg : Int64} {i1 : Nat} (hi1 : i1 < 9) {σ' : Sg} (hf : fX3_save i1 σ = some σ') : Met l yX3_save [.code yX3_save cX3_save 2 none] (Rm 3 103) (va_Pc [.ref (eA E 1), .ref (eA E (10 + 8 * i1))] (Wd E σ μ dg)) (Qv E σ' μ dg) 0 0 (eP E) := by
  refine ss_of (by decide) (Nat.le_of_ble_eq_true rfl) (fun p e s m below meth c hx hb hr hlk hml hown hK hW ls hl => ?_)
  have hown : s.vm.findClass RX3 = some m.cls := hown
  have hl : lv_has ls 2 [(0, .ref (eA E 1)), (1, .ref (eA E (10 + 8 * i1)))] := hl
  unfold fX3_save at hf
  have h13 : ∀ (σ : Sg) (H : Heap) (locs : List Loc) (ls : Array Slot), Wk E σ μ dg s H locs → lv_has ls 2 [(0, .ref (eA E 1)), (1, .ref (eA E (10 + 8 * i1)))] → fX3_save_b13 i1 σ = some σ' → W p l e (Rm 3 103) s m [.ref (eA E 1), .ref (eA E (10 + 8 * i1))].toArray below meth c H locs 0 0 (MQ below (Qv E σ' μ dg) [.ref (eA E 1), .ref (eA E (10 + 8 * i1))].toArray s 0 0 (eP E)) (F0 m 13 ls []) := by
    intro σ  H locs ls hW hl hf
    unfold fX3_save_b13 at hf
    refine lv_aload_n hx hb dX3_save_13 rfl (lv_at hl 0 rfl) ?_
    refine g_Hist_saved hx hb hown hK hW kF_RX3_12 dX3_save_14 ?_
    refine lv_aload_n hx hb dX3_save_17 rfl (lv_at hl 0 rfl) ?_
    refine g_Hist_many hx hb hown hK hW kF_RX3_18 dX3_save_18 ?_
    obtain ⟨hk1, hf⟩ := gd_inv hf
    refine ss_aald hx hb hK hW (q := 2) (b := eA _ (10 + 8 * ((σ 2 (((σ 1 1)).toNatClampNeg)).toNatClampNeg))) (okq_lt (by decide)) (c_fx (by decide)) hk1 rfl dX3_save_21 ?_
    obtain ⟨j2, ej2⟩ : ∃ y : Nat, y = ((σ 2 (((σ 1 1)).toNatClampNeg)).toNatClampNeg) := ⟨_, rfl⟩
    have hf := nm_use ej2 hf
    rw [← ej2]
    obtain ⟨hj2, hf⟩ := gd_inv hf
    refine lv_aload_n hx hb dX3_save_22 rfl (lv_at hl 1 rfl) ?_
    obtain ⟨s4, q3, hf⟩ := bd_inv hf
    refine ss_callVv (As := [.ref (eA E (10 + 8 * i1))]) hx hb hml hown hK hW kb_X4_copyFrom kM_RX3_25 rfl (okq_lt (by omega)) (c_st (i := j2) (by omega) 0 (by decide)) (mX4_copyFrom l (i0 := j2) (i1 := i1) (by omega) (by omega) q3) rfl dX3_save_23 rfl hl.1 (Nat.le_of_ble_eq_true rfl) ⟨Nat.le_of_ble_eq_true rfl, Nat.le_of_ble_eq_true rfl⟩ ⟨Nat.zero_le _, Nat.zero_le _⟩ (fun H locs hW => ?_)
    refine lv_aload_n hx hb dX3_save_26 rfl (lv_at hl 0 rfl) ?_
    refine lv_dup hx hb dX3_save_27 rfl ?_
    refine g_Hist_many hx hb hown hK hW kF_RX3_18 dX3_save_28 ?_
    refine lv_iconst (v := 1) hx hb dX3_save_31 (by decide) ?_
    refine lv_iadd hx hb dX3_save_32 ?_
    refine p_Hist_many hx hb hown hK hW kF_RX3_18 dX3_save_33 (fun H locs hW => ?_)
    obtain ⟨s5, es5⟩ : ∃ y : Sg, y = (up2 s4 1 1 ((s4 1 1) + 1)) := ⟨_, rfl⟩
    have hf := nm_use es5 hf
    rw [← es5] at hW
    cases hf
    exact ss_vret hx hb hr hlk hW dX3_save_36
  refine lv_aload_n hx hb dX3_save_0 rfl (lv_at hl 0 rfl) ?_
  refine g_Hist_many hx hb hown hK hW kF_RX3_18 dX3_save_1 ?_
  refine lv_bipush (v := 6) hx hb dX3_save_4 (by decide) ?_
  refine lv_icmp_ne (tgt := 13) hx hb dX3_save_6 (by decide) (fun c6 => ?_) (fun c6 => ?_)
  · have hf := br_n c6 hf
    exact h13 σ _ _ _ hW (lv_sub hl [0, 1] rfl) hf
  · have hf := br_p c6 hf
    refine lv_aload_n hx hb dX3_save_9 rfl (lv_at hl 0 rfl) ?_
    obtain ⟨s8, q7, hf⟩ := bd_inv hf
    refine ss_callVv (As := []) hx hb hml hown hK hW kb_X3_dropOldest kM_RX3_22 rfl (okq_lt (by decide)) (c_fx (by decide)) (mX3_dropOldest l  q7) rfl dX3_save_10 rfl hl.1 (Nat.le_of_ble_eq_true rfl) ⟨Nat.le_of_ble_eq_true rfl, Nat.le_of_ble_eq_true rfl⟩ ⟨Nat.zero_le _, Nat.zero_le _⟩ (fun H locs hW => ?_)
    exact h13 s8 _ _ _ hW (lv_sub hl [0, 1] rfl) hf
def fX6_beginChange (σ : Sg) : Option Sg := bd (fX3_save 0 σ) fun s2 => nm (up2 s2 (86 + 3 * 0) 3 0) fun s3 => some s3
set_option maxHeartbeats 4000000 in
set_option maxRecDepth 100000 in
theorem mX6_beginChange (l : Launch) {E : En} {σ μ : Sg} {dg : Int64}   {σ' : Sg} (hf : fX6_beginChange σ = some σ') : Met l yX6_beginChange [.code yX6_beginChange cX6_beginChange 1 none] (Rm 4 124) (va_Pc [.ref (eA E 0)] (Wd E σ μ dg)) (Qv E σ' μ dg) 0 0 (eP E) := by
  refine ss_of (by decide) (Nat.le_of_ble_eq_true rfl) (fun p e s m below meth c hx hb hr hlk hml hown hK hW ls hl => ?_)
  have hown : s.vm.findClass RX6 = some m.cls := hown
  have hl : lv_has ls 1 [(0, .ref (eA E 0))] := hl
  unfold fX6_beginChange at hf
  refine lv_aload_n hx hb dX6_beginChange_0 rfl (lv_at hl 0 rfl) ?_
  refine g_X_history hx hb hown hK hW kF_RX6_19 dX6_beginChange_1 ?_
  refine lv_aload_n hx hb dX6_beginChange_4 rfl (lv_at hl 0 rfl) ?_
  refine g_X_now hx hb hown hK hW kF_RX6_12 dX6_beginChange_5 ?_
  obtain ⟨s2, q1, hf⟩ := bd_inv hf
  refine ss_callVv (As := [.ref (eA E (10 + 8 * 0))]) hx hb hml hown hK hW kb_X3_save kM_RX6_354 rfl (okq_lt (by decide)) (c_fx (by decide)) (mX3_save l (i1 := 0) (by omega) q1) rfl dX6_beginChange_8 rfl hl.1 (Nat.le_of_ble_eq_true rfl) ⟨Nat.le_of_ble_eq_true rfl, Nat.le_of_ble_eq_true rfl⟩ ⟨Nat.zero_le _, Nat.zero_le _⟩ (fun H locs hW => ?_)
  refine lv_aload_n hx hb dX6_beginChange_11 rfl (lv_at hl 0 rfl) ?_
  refine g_X_decoder hx hb hown hK hW kF_RX6_48 dX6_beginChange_12 ?_
  refine lv_iconst (v := 0) hx hb dX6_beginChange_15 (by decide) ?_
  refine p_Dec_upToDate (i := 0) hx hb hown hK hW (by omega) (by decide) kF_RX6_215 dX6_beginChange_16 (fun H locs hW => ?_)
  obtain ⟨s3, es3⟩ : ∃ y : Sg, y = (up2 s2 (86 + 3 * 0) 3 0) := ⟨_, rfl⟩
  have hf := nm_use es3 hf
  rw [← es3] at hW
  cases hf
  exact ss_vret hx hb hr hlk hW dX6_beginChange_19
def fX4_forgetBlocks (i0 : Nat) (σ : Sg) : Option Sg := nm (up2 σ (10 + 8 * i0) 3 0) fun s1 => some s1
set_option maxHeartbeats 4000000 in
set_option maxRecDepth 100000 in
theorem mX4_forgetBlocks (l : Launch) {E : En} {σ μ : Sg} {dg : Int64} {i0 : Nat} (hi0 : i0 < 9) {σ' : Sg} (hf : fX4_forgetBlocks i0 σ = some σ') : Met l yX4_forgetBlocks [.code yX4_forgetBlocks cX4_forgetBlocks 1 none] (Rm 0 0) (va_Pc [.ref (eA E (10 + 8 * i0))] (Wd E σ μ dg)) (Qv E σ' μ dg) 0 0 (eP E) := by
  refine ss_of (by decide) (Nat.le_of_ble_eq_true rfl) (fun p e s m below meth c hx hb hr hlk hml hown hK hW ls hl => ?_)
  have hown : s.vm.findClass RX4 = some m.cls := hown
  have hl : lv_has ls 1 [(0, .ref (eA E (10 + 8 * i0)))] := hl
  unfold fX4_forgetBlocks at hf
  refine lv_aload_n hx hb dX4_forgetBlocks_0 rfl (lv_at hl 0 rfl) ?_
  refine lv_iconst (v := 0) hx hb dX4_forgetBlocks_1 (by decide) ?_
  refine p_State_blocks (i := i0) hx hb hown hK hW (by omega) kF_RX4_38 dX4_forgetBlocks_2 (fun H locs hW => ?_)
  obtain ⟨s1, es1⟩ : ∃ y : Sg, y = (up2 σ (10 + 8 * i0) 3 0) := ⟨_, rfl⟩
  have hf := nm_use es1 hf
  rw [← es1] at hW
  cases hf
  exact ss_vret hx hb hr hlk hW dX4_forgetBlocks_5
def fX4_becomeSilence_L7 (i0 : Nat) (n : Nat) (x2 : Int32) (σ : Sg) : Option Sg := match n with
  | 0 => none
  | n + 1 => if 64 ≤ x2 then (bd (fX4_forgetBlocks i0 σ) fun s3 => some s3) else (gd (¬ (x2 < 0 ∨ 64 ≤ (x2).toNatClampNeg)) <| nm (up2 σ (10 + 8 * i0 + 1) ((x2).toNatClampNeg) 0) fun s5 => nm (x2 + 1) fun x2_6 => (fun x2 σ => fX4_becomeSilence_L7 i0 n x2 σ) x2_6 s5)
def fX4_becomeSilence (i0 : Nat) (a1 : Int32) (σ : Sg) : Option Sg := nm (up2 σ (10 + 8 * i0) 0 a1) fun s7 => fX4_becomeSilence_L7 i0 80 0 s7
set_option maxHeartbeats 4000000 in
set_option maxRecDepth 100000 in
theorem mX4_becomeSilence (l : Launch) {E : En} {σ μ : Sg} {dg : Int64} {i0 : Nat} {a1 : Int32} (hi0 : i0 < 9) {σ' : Sg} (hf : fX4_becomeSilence i0 a1 σ = some σ') : Met l yX4_becomeSilence [.code yX4_becomeSilence cX4_becomeSilence 3 none] (Rm 1 20) (va_Pc [.ref (eA E (10 + 8 * i0)), .int a1] (Wd E σ μ dg)) (Qv E σ' μ dg) 0 0 (eP E) := by
  refine ss_of (by decide) (Nat.le_of_ble_eq_true rfl) (fun p e s m below meth c hx hb hr hlk hml hown hK hW ls hl => ?_)
  have hown : s.vm.findClass RX4 = some m.cls := hown
  have hl : lv_has ls 3 [(0, .ref (eA E (10 + 8 * i0))), (1, .int a1)] := hl
  unfold fX4_becomeSilence at hf
  have h7 : ∀ (n7 : Nat) (x2 : Int32) (σ : Sg) (H : Heap) (locs : List Loc) (ls : Array Slot), Wk E σ μ dg s H locs → lv_has ls 3 [(0, .ref (eA E (10 + 8 * i0))), (2, .int x2)] → fX4_becomeSilence_L7 i0 n7 x2 σ = some σ' → W p l e (Rm 1 20) s m [.ref (eA E (10 + 8 * i0)), .int a1].toArray below meth c H locs 0 0 (MQ below (Qv E σ' μ dg) [.ref (eA E (10 + 8 * i0)), .int a1].toArray s 0 0 (eP E)) (F0 m 7 ls []) := by
    intro n7
    induction n7 with
    | zero =>
      intro x2 σ  H locs ls hW hl hf
      exact absurd hf (by simp [fX4_becomeSilence_L7])
    | succ n7 ih7 =>
      intro x2 σ  H locs ls hW hl hf
      rw [fX4_becomeSilence_L7] at hf
      refine lv_iload_n hx hb dX4_becomeSilence_7 rfl (lv_at hl 1 rfl) ?_
      refine lv_bipush (v := 64) hx hb dX4_becomeSilence_8 (by decide) ?_
      refine lv_icmp_ge (tgt := 26) hx hb dX4_becomeSilence_10 (by decide) (fun c1 => ?_) (fun c1 => ?_)
      · have hf := br_p c1 hf
        refine lv_aload_n hx hb dX4_becomeSilence_26 rfl (lv_at hl 0 rfl) ?_
        obtain ⟨s3, q2, hf⟩ := bd_inv hf
        refine ss_callVv (As := []) hx hb hml hown hK hW kb_X4_forgetBlocks kM_RX4_51 rfl (okq_lt (by omega)) (c_st (i := i0) (by omega) 0 (by decide)) (mX4_forgetBlocks l (i0 := i0) (by omega) q2) rfl dX4_becomeSilence_27 rfl hl.1 (Nat.le_of_ble_eq_true rfl) ⟨Nat.le_of_ble_eq_true rfl, Nat.le_of_ble_eq_true rfl⟩ ⟨Nat.zero_le _, Nat.zero_le _⟩ (fun H locs hW => ?_)
        cases hf
        exact ss_vret hx hb hr hlk hW dX4_becomeSilence_30
      · have hf := br_n c1 hf
        refine lv_aload_n hx hb dX4_becomeSilence_13 rfl (lv_at hl 0 rfl) ?_
        refine g_State_values (i := i0) hx hb hown hK hW (by omega) kF_RX4_15 dX4_becomeSilence_14 ?_
        refine lv_iload_n hx hb dX4_becomeSilence_17 rfl (lv_at hl 1 rfl) ?_
        refine lv_iconst (v := 0) hx hb dX4_becomeSilence_18 (by decide) ?_
        obtain ⟨hk4, hf⟩ := gd_inv hf
        refine s_St1 (i := i0) hx hb hK hW (by omega) rfl hk4 dX4_becomeSilence_19 (fun H locs hW => ?_)
        obtain ⟨s5, es5⟩ : ∃ y : Sg, y = (up2 σ (10 + 8 * i0 + 1) ((x2).toNatClampNeg) 0) := ⟨_, rfl⟩
        have hf := nm_use es5 hf
        rw [← es5] at hW
        obtain ⟨x2_6, ex2_6⟩ : ∃ y : Int32, y = (x2 + 1) := ⟨_, rfl⟩
        have hf := nm_use ex2_6 hf
        refine lv_iinc (v := x2_6) (lv' := [(2, .int x2_6), (0, .ref (eA E (10 + 8 * i0)))]) hx hb dX4_becomeSilence_20 hl (k := 1) rfl (by rw [ex2_6]; rfl) (by decide) rfl (fun ls hl => ?_)
        refine lv_goto (tgt := 7) hx hb dX4_becomeSilence_23 (by decide) ?_
        exact ih7 x2_6 s5 _ _ _ hW (lv_sub hl [1, 0] rfl) hf
  refine lv_aload_n hx hb dX4_becomeSilence_0 rfl (lv_at hl 0 rfl) ?_
  refine lv_iload_n hx hb dX4_becomeSilence_1 rfl (lv_at hl 1 rfl) ?_
  refine p_State_many (i := i0) hx hb hown hK hW (by omega) kF_RX4_9 dX4_becomeSilence_2 (fun H locs hW => ?_)
  obtain ⟨s7, es7⟩ : ∃ y : Sg, y = (up2 σ (10 + 8 * i0) 0 a1) := ⟨_, rfl⟩
  have hf := nm_use es7 hf
  rw [← es7] at hW
  refine lv_iconst (v := 0) hx hb dX4_becomeSilence_5 (by decide) ?_
  refine lv_istore_n (lv' := [(2, .int 0), (0, .ref (eA E (10 + 8 * i0))), (1, .int a1)]) hx hb dX4_becomeSilence_6 rfl hl (by decide) rfl (fun ls hl => ?_)
  exact h7 80 0 s7 _ _ _ hW (lv_sub hl [1, 0] rfl) hf
def fX4_hasSample (i0 : Nat) (a1 : Int32) (σ : Sg) : Option Int32 := if a1 < 0 then (some 0) else (if (σ (10 + 8 * i0) 0) ≤ a1 then (some 0) else (some 1))
set_option maxHeartbeats 4000000 in
set_option maxRecDepth 100000 in
theorem mX4_hasSample (l : Launch) {E : En} {σ μ : Sg} {dg : Int64} {i0 : Nat} {a1 : Int32} (hi0 : i0 < 9) {r : Int32} (hf : fX4_hasSample i0 a1 σ = some r) : Met l yX4_hasSample [.code yX4_hasSample cX4_hasSample 2 (some .boolean)] (Rm 0 0) (va_Pc [.ref (eA E (10 + 8 * i0)), .int a1] (Wd E σ μ dg)) (Qi E σ μ dg r) 0 0 (eP E) := by
  refine ss_of (by decide) (Nat.le_of_ble_eq_true rfl) (fun p e s m below meth c hx hb hr hlk hml hown hK hW ls hl => ?_)
  have hown : s.vm.findClass RX4 = some m.cls := hown
  have hl : lv_has ls 2 [(0, .ref (eA E (10 + 8 * i0))), (1, .int a1)] := hl
  unfold fX4_hasSample at hf
  refine lv_iload_n hx hb dX4_hasSample_0 rfl (lv_at hl 1 rfl) ?_
  refine lv_if_lt (tgt := 16) hx hb dX4_hasSample_1 (by decide) (fun c1 => ?_) (fun c1 => ?_)
  · have hf := br_p c1 hf
    refine lv_iconst (v := 0) hx hb dX4_hasSample_16 (by decide) ?_
    exact ss_zret hx hb hr hlk hW (Option.some.inj hf) rfl dX4_hasSample_17
  · have hf := br_n c1 hf
    refine lv_iload_n hx hb dX4_hasSample_4 rfl (lv_at hl 1 rfl) ?_
    refine lv_aload_n hx hb dX4_hasSample_5 rfl (lv_at hl 0 rfl) ?_
    refine g_State_many (i := i0) hx hb hown hK hW (by omega) kF_RX4_9 dX4_hasSample_6 ?_
    refine lv_icmp_ge (tgt := 16) hx hb dX4_hasSample_9 (by decide) (fun c2 => ?_) (fun c2 => ?_)
    · have hf := br_p c2 hf
      refine lv_iconst (v := 0) hx hb dX4_hasSample_16 (by decide) ?_
      exact ss_zret hx hb hr hlk hW (Option.some.inj hf) rfl dX4_hasSample_17
    · have hf := br_n c2 hf
      refine lv_iconst (v := 1) hx hb dX4_hasSample_12 (by decide) ?_
      refine lv_goto (tgt := 17) hx hb dX4_hasSample_13 (by decide) ?_
      exact ss_zret hx hb hr hlk hW (Option.some.inj hf) rfl dX4_hasSample_17
def fX6_isValue (a0 : Int32) : Option Int32 := if a0 < (-2048) then (some 0) else (if 2047 < a0 then (some 0) else (some 1))
set_option maxHeartbeats 4000000 in
set_option maxRecDepth 100000 in
theorem mX6_isValue (l : Launch) {E : En} {σ μ : Sg} {dg : Int64} {a0 : Int32}  {r : Int32} (hf : fX6_isValue a0 = some r) : Met l yX6_isValue [.code yX6_isValue cX6_isValue 1 (some .boolean)] (Rm 0 0) (va_Pc [.int a0] (Wd E σ μ dg)) (Qi E σ μ dg r) 0 0 (eP E) := by
  refine ss_of (by decide) (Nat.le_of_ble_eq_true rfl) (fun p e s m below meth c hx hb hr hlk hml hown hK hW ls hl => ?_)
  have hown : s.vm.findClass RX6 = some m.cls := hown
  have hl : lv_has ls 1 [(0, .int a0)] := hl
  unfold fX6_isValue at hf
  refine lv_iload_n hx hb dX6_isValue_0 rfl (lv_at hl 0 rfl) ?_
  refine lv_sipush (v := (-2048)) hx hb dX6_isValue_1 (by decide) ?_
  refine lv_icmp_lt (tgt := 18) hx hb dX6_isValue_4 (by decide) (fun c1 => ?_) (fun c1 => ?_)
  · have hf := br_p c1 hf
    refine lv_iconst (v := 0) hx hb dX6_isValue_18 (by decide) ?_
    exact ss_zret hx hb hr hlk hW (Option.some.inj hf) rfl dX6_isValue_19
  · have hf := br_n c1 hf
    refine lv_iload_n hx hb dX6_isValue_7 rfl (lv_at hl 0 rfl) ?_
    refine lv_sipush (v := 2047) hx hb dX6_isValue_8 (by decide) ?_
    refine lv_icmp_gt (tgt := 18) hx hb dX6_isValue_11 (by decide) (fun c2 => ?_) (fun c2 => ?_)
    · have hf := br_p c2 hf
      refine lv_iconst (v := 0) hx hb dX6_isValue_18 (by decide) ?_
      exact ss_zret hx hb hr hlk hW (Option.some.inj hf) rfl dX6_isValue_19
    · have hf := br_n c2 hf
      refine lv_iconst (v := 1) hx hb dX6_isValue_14 (by decide) ?_
      refine lv_goto (tgt := 19) hx hb dX6_isValue_15 (by decide) ?_
      exact ss_zret hx hb hr hlk hW (Option.some.inj hf) rfl dX6_isValue_19
def fX6_shape (a0 : Int32) (a1 : Int32) (a2 : Int32) (a3 : Int32) : Option Int32 := if a0 = 0 then (if a2 ≤ (2 * a3) then (some (-a1)) else (some a1)) else (if a0 = 1 then (gd (¬ a2 = 0) <| some ((a1 * ((2 * a3) - a2)) / a2)) else (gd (¬ a2 = 0) <| some ((a1 * ((4 * (abI (a3 - (a2 / 2)))) - a2)) / a2)))
set_option maxHeartbeats 4000000 in
set_option maxRecDepth 100000 in
theorem mX6_shape (l : Launch) {E : En} {σ μ : Sg} {dg : Int64} {a0 : Int32} {a1 : Int32} {a2 : Int32} {a3 : Int32}  {r : Int32} (hf : fX6_shape a0 a1 a2 a3 = some r) : Met l yX6_shape [.code yX6_shape cX6_shape 4 (some .int)] (Rm 1 21) (va_Pc [.int a0, .int a1, .int a2, .int a3] (Wd E σ μ dg)) (Qi E σ μ dg r) 0 0 (eP E) := by
  refine ss_of (by decide) (Nat.le_of_ble_eq_true rfl) (fun p e s m below meth c hx hb hr hlk hml hown hK hW ls hl => ?_)
  have hown : s.vm.findClass RX6 = some m.cls := hown
  have hl : lv_has ls 4 [(0, .int a0), (1, .int a1), (2, .int a2), (3, .int a3)] := hl
  unfold fX6_shape at hf
  refine lv_iload_n hx hb dX6_shape_0 rfl (lv_at hl 0 rfl) ?_
  by_cases c1 : a0 = 0
  · have hf := br_p c1 hf
    refine lv_lookup (off := 27) (tgt := 28) hx hb dX6_shape_1 (by decide) (by rw [c1]; rfl) (by decide) ?_
    refine lv_iconst (v := 2) hx hb dX6_shape_28 (by decide) ?_
    refine lv_iload_n hx hb dX6_shape_29 rfl (lv_at hl 3 rfl) ?_
    refine lv_imul hx hb dX6_shape_30 ?_
    refine lv_iload_n hx hb dX6_shape_31 rfl (lv_at hl 2 rfl) ?_
    refine lv_icmp_ge (tgt := 39) hx hb dX6_shape_32 (by decide) (fun c2 => ?_) (fun c2 => ?_)
    · have hf := br_p c2 hf
      refine lv_iload_n hx hb dX6_shape_39 rfl (lv_at hl 1 rfl) ?_
      refine lv_ineg hx hb dX6_shape_40 ?_
      exact ss_iret hx hb hr hlk hW (Option.some.inj hf) dX6_shape_41
    · have hf := br_n c2 hf
      refine lv_iload_n hx hb dX6_shape_35 rfl (lv_at hl 1 rfl) ?_
      refine lv_goto (tgt := 41) hx hb dX6_shape_36 (by decide) ?_
      exact ss_iret hx hb hr hlk hW (Option.some.inj hf) dX6_shape_41
  have hf := br_n c1 hf
  by_cases c3 : a0 = 1
  · have hf := br_p c3 hf
    refine lv_lookup (off := 41) (tgt := 42) hx hb dX6_shape_1 (by decide) (by rw [c3]; rfl) (by decide) ?_
    refine lv_iload_n hx hb dX6_shape_42 rfl (lv_at hl 1 rfl) ?_
    refine lv_iconst (v := 2) hx hb dX6_shape_43 (by decide) ?_
    refine lv_iload_n hx hb dX6_shape_44 rfl (lv_at hl 3 rfl) ?_
    refine lv_imul hx hb dX6_shape_45 ?_
    refine lv_iload_n hx hb dX6_shape_46 rfl (lv_at hl 2 rfl) ?_
    refine lv_isub hx hb dX6_shape_47 ?_
    refine lv_imul hx hb dX6_shape_48 ?_
    refine lv_iload_n hx hb dX6_shape_49 rfl (lv_at hl 2 rfl) ?_
    obtain ⟨hz4, hf⟩ := gd_inv hf
    refine lv_idiv hx hb dX6_shape_50 hz4 ?_
    exact ss_iret hx hb hr hlk hW (Option.some.inj hf) dX6_shape_51
  have hf := br_n c3 hf
  have zc1 := sw_ne (n := 0) c1 (by decide)
  have zc3 := sw_ne (n := 1) c3 (by decide)
  refine lv_lookup (off := 51) (tgt := 52) hx hb dX6_shape_1 (by decide) (by simp only [Op.lookupswitch.offset]; simp [Ne.symm zc1, Ne.symm zc3, zc1, zc3]) (by decide) ?_
  refine lv_iload_n hx hb dX6_shape_52 rfl (lv_at hl 1 rfl) ?_
  refine lv_iconst (v := 4) hx hb dX6_shape_53 (by decide) ?_
  refine lv_iload_n hx hb dX6_shape_54 rfl (lv_at hl 3 rfl) ?_
  refine lv_iload_n hx hb dX6_shape_55 rfl (lv_at hl 2 rfl) ?_
  refine lv_iconst (v := 2) hx hb dX6_shape_56 (by decide) ?_
  refine lv_idiv hx hb dX6_shape_57 (by decide) ?_
  refine lv_isub hx hb dX6_shape_58 ?_
  refine ss_abs hx hb hml hl.1 hown hK kM_RX6_382 kMs_abs kMi kMc_abs ⟨Nat.le_of_ble_eq_true rfl, Nat.le_of_ble_eq_true rfl⟩ ⟨Nat.zero_le _, Nat.zero_le _⟩ dX6_shape_59 ?_
  show W p l e _ s m _ below meth c _ _ 0 0 _ (F0 m 62 ls ([.int (abI (a3 - (a2 / 2))), .int 4, .int a1]))
  refine lv_imul hx hb dX6_shape_62 ?_
  refine lv_iload_n hx hb dX6_shape_63 rfl (lv_at hl 2 rfl) ?_
  refine lv_isub hx hb dX6_shape_64 ?_
  refine lv_imul hx hb dX6_shape_65 ?_
  refine lv_iload_n hx hb dX6_shape_66 rfl (lv_at hl 2 rfl) ?_
  obtain ⟨hz5, hf⟩ := gd_inv hf
  refine lv_idiv hx hb dX6_shape_67 hz5 ?_
  exact ss_iret hx hb hr hlk hW (Option.some.inj hf) dX6_shape_68
def fX6_isSetting (a0 : Int32) : Option Int32 := if a0 < 0 then (some 0) else (if 3 ≤ a0 then (some 0) else (some 1))
set_option maxHeartbeats 4000000 in
set_option maxRecDepth 100000 in
theorem mX6_isSetting (l : Launch) {E : En} {σ μ : Sg} {dg : Int64} {a0 : Int32}  {r : Int32} (hf : fX6_isSetting a0 = some r) : Met l yX6_isSetting [.code yX6_isSetting cX6_isSetting 1 (some .boolean)] (Rm 0 0) (va_Pc [.int a0] (Wd E σ μ dg)) (Qi E σ μ dg r) 0 0 (eP E) := by
  refine ss_of (by decide) (Nat.le_of_ble_eq_true rfl) (fun p e s m below meth c hx hb hr hlk hml hown hK hW ls hl => ?_)
  have hown : s.vm.findClass RX6 = some m.cls := hown
  have hl : lv_has ls 1 [(0, .int a0)] := hl
  unfold fX6_isSetting at hf
  refine lv_iload_n hx hb dX6_isSetting_0 rfl (lv_at hl 0 rfl) ?_
  refine lv_if_lt (tgt := 13) hx hb dX6_isSetting_1 (by decide) (fun c1 => ?_) (fun c1 => ?_)
  · have hf := br_p c1 hf
    refine lv_iconst (v := 0) hx hb dX6_isSetting_13 (by decide) ?_
    exact ss_zret hx hb hr hlk hW (Option.some.inj hf) rfl dX6_isSetting_14
  · have hf := br_n c1 hf
    refine lv_iload_n hx hb dX6_isSetting_4 rfl (lv_at hl 0 rfl) ?_
    refine lv_iconst (v := 3) hx hb dX6_isSetting_5 (by decide) ?_
    refine lv_icmp_ge (tgt := 13) hx hb dX6_isSetting_6 (by decide) (fun c2 => ?_) (fun c2 => ?_)
    · have hf := br_p c2 hf
      refine lv_iconst (v := 0) hx hb dX6_isSetting_13 (by decide) ?_
      exact ss_zret hx hb hr hlk hW (Option.some.inj hf) rfl dX6_isSetting_14
    · have hf := br_n c2 hf
      refine lv_iconst (v := 1) hx hb dX6_isSetting_9 (by decide) ?_
      refine lv_goto (tgt := 14) hx hb dX6_isSetting_10 (by decide) ?_
      exact ss_zret hx hb hr hlk hW (Option.some.inj hf) rfl dX6_isSetting_14
def fX6_leastOfSetting (a0 : Int32) : Option Int32 := if a0 = 0 then (some 2) else (some 0)
set_option maxHeartbeats 4000000 in
set_option maxRecDepth 100000 in
theorem mX6_leastOfSetting (l : Launch) {E : En} {σ μ : Sg} {dg : Int64} {a0 : Int32}  {r : Int32} (hf : fX6_leastOfSetting a0 = some r) : Met l yX6_leastOfSetting [.code yX6_leastOfSetting cX6_leastOfSetting 1 (some .int)] (Rm 0 0) (va_Pc [.int a0] (Wd E σ μ dg)) (Qi E σ μ dg r) 0 0 (eP E) := by
  refine ss_of (by decide) (Nat.le_of_ble_eq_true rfl) (fun p e s m below meth c hx hb hr hlk hml hown hK hW ls hl => ?_)
  have hown : s.vm.findClass RX6 = some m.cls := hown
  have hl : lv_has ls 1 [(0, .int a0)] := hl
  unfold fX6_leastOfSetting at hf
  refine lv_iload_n hx hb dX6_leastOfSetting_0 rfl (lv_at hl 0 rfl) ?_
  refine lv_if_ne (tgt := 8) hx hb dX6_leastOfSetting_1 (by decide) (fun c1 => ?_) (fun c1 => ?_)
  · have hf := br_n c1 hf
    refine lv_iconst (v := 0) hx hb dX6_leastOfSetting_8 (by decide) ?_
    exact ss_iret hx hb hr hlk hW (Option.some.inj hf) dX6_leastOfSetting_9
  · have hf := br_p c1 hf
    refine lv_iconst (v := 2) hx hb dX6_leastOfSetting_4 (by decide) ?_
    refine lv_goto (tgt := 9) hx hb dX6_leastOfSetting_5 (by decide) ?_
    exact ss_iret hx hb hr hlk hW (Option.some.inj hf) dX6_leastOfSetting_9
def fX6_mostOfSetting (a0 : Int32) : Option Int32 := if a0 = 0 then (some 16) else (if a0 = 1 then (some 1) else (some 2))
set_option maxHeartbeats 4000000 in
set_option maxRecDepth 100000 in
theorem mX6_mostOfSetting (l : Launch) {E : En} {σ μ : Sg} {dg : Int64} {a0 : Int32}  {r : Int32} (hf : fX6_mostOfSetting a0 = some r) : Met l yX6_mostOfSetting [.code yX6_mostOfSetting cX6_mostOfSetting 1 (some .int)] (Rm 0 0) (va_Pc [.int a0] (Wd E σ μ dg)) (Qi E σ μ dg r) 0 0 (eP E) := by
  refine ss_of (by decide) (Nat.le_of_ble_eq_true rfl) (fun p e s m below meth c hx hb hr hlk hml hown hK hW ls hl => ?_)
  have hown : s.vm.findClass RX6 = some m.cls := hown
  have hl : lv_has ls 1 [(0, .int a0)] := hl
  unfold fX6_mostOfSetting at hf
  refine lv_iload_n hx hb dX6_mostOfSetting_0 rfl (lv_at hl 0 rfl) ?_
  by_cases c1 : a0 = 0
  · have hf := br_p c1 hf
    refine lv_lookup (off := 27) (tgt := 28) hx hb dX6_mostOfSetting_1 (by decide) (by rw [c1]; rfl) (by decide) ?_
    refine lv_bipush (v := 16) hx hb dX6_mostOfSetting_28 (by decide) ?_
    exact ss_iret hx hb hr hlk hW (Option.some.inj hf) dX6_mostOfSetting_30
  have hf := br_n c1 hf
  by_cases c2 : a0 = 1
  · have hf := br_p c2 hf
    refine lv_lookup (off := 30) (tgt := 31) hx hb dX6_mostOfSetting_1 (by decide) (by rw [c2]; rfl) (by decide) ?_
    refine lv_iconst (v := 1) hx hb dX6_mostOfSetting_31 (by decide) ?_
    exact ss_iret hx hb hr hlk hW (Option.some.inj hf) dX6_mostOfSetting_32
  have hf := br_n c2 hf
  have zc1 := sw_ne (n := 0) c1 (by decide)
  have zc2 := sw_ne (n := 1) c2 (by decide)
  refine lv_lookup (off := 32) (tgt := 33) hx hb dX6_mostOfSetting_1 (by decide) (by simp only [Op.lookupswitch.offset]; simp [Ne.symm zc1, Ne.symm zc2, zc1, zc2]) (by decide) ?_
  refine lv_iconst (v := 2) hx hb dX6_mostOfSetting_33 (by decide) ?_
  exact ss_iret hx hb hr hlk hW (Option.some.inj hf) dX6_mostOfSetting_34
def fX4_hasBlock (i0 : Nat) (a1 : Int32) (σ : Sg) : Option Int32 := if a1 < 0 then (some 0) else (if (σ (10 + 8 * i0) 3) ≤ a1 then (some 0) else (some 1))
set_option maxHeartbeats 4000000 in
set_option maxRecDepth 100000 in
theorem mX4_hasBlock (l : Launch) {E : En} {σ μ : Sg} {dg : Int64} {i0 : Nat} {a1 : Int32} (hi0 : i0 < 9) {r : Int32} (hf : fX4_hasBlock i0 a1 σ = some r) : Met l yX4_hasBlock [.code yX4_hasBlock cX4_hasBlock 2 (some .boolean)] (Rm 0 0) (va_Pc [.ref (eA E (10 + 8 * i0)), .int a1] (Wd E σ μ dg)) (Qi E σ μ dg r) 0 0 (eP E) := by
  refine ss_of (by decide) (Nat.le_of_ble_eq_true rfl) (fun p e s m below meth c hx hb hr hlk hml hown hK hW ls hl => ?_)
  have hown : s.vm.findClass RX4 = some m.cls := hown
  have hl : lv_has ls 2 [(0, .ref (eA E (10 + 8 * i0))), (1, .int a1)] := hl
  unfold fX4_hasBlock at hf
  refine lv_iload_n hx hb dX4_hasBlock_0 rfl (lv_at hl 1 rfl) ?_
  refine lv_if_lt (tgt := 16) hx hb dX4_hasBlock_1 (by decide) (fun c1 => ?_) (fun c1 => ?_)
  · have hf := br_p c1 hf
    refine lv_iconst (v := 0) hx hb dX4_hasBlock_16 (by decide) ?_
    exact ss_zret hx hb hr hlk hW (Option.some.inj hf) rfl dX4_hasBlock_17
  · have hf := br_n c1 hf
    refine lv_iload_n hx hb dX4_hasBlock_4 rfl (lv_at hl 1 rfl) ?_
    refine lv_aload_n hx hb dX4_hasBlock_5 rfl (lv_at hl 0 rfl) ?_
    refine g_State_blocks (i := i0) hx hb hown hK hW (by omega) kF_RX4_38 dX4_hasBlock_6 ?_
    refine lv_icmp_ge (tgt := 16) hx hb dX4_hasBlock_9 (by decide) (fun c2 => ?_) (fun c2 => ?_)
    · have hf := br_p c2 hf
      refine lv_iconst (v := 0) hx hb dX4_hasBlock_16 (by decide) ?_
      exact ss_zret hx hb hr hlk hW (Option.some.inj hf) rfl dX4_hasBlock_17
    · have hf := br_n c2 hf
      refine lv_iconst (v := 1) hx hb dX4_hasBlock_12 (by decide) ?_
      refine lv_goto (tgt := 17) hx hb dX4_hasBlock_13 (by decide) ?_
      exact ss_zret hx hb hr hlk hW (Option.some.inj hf) rfl dX4_hasBlock_17
def fX4_hasCode (i0 : Nat) (a1 : Int32) (σ : Sg) : Option Int32 := bd (fX4_isCoded i0 σ) fun r2 => if r2 = 0 then (some 0) else (bd (fX4_hasSample i0 a1 σ) fun r5 => if r5 = 0 then (some 0) else (gd (¬ (a1 < 0 ∨ 64 ≤ (a1).toNatClampNeg)) <| if (σ (10 + 8 * i0 + 6) (a1).toNatClampNeg) = (-1) then (some 0) else (some 1)))
set_option maxHeartbeats 4000000 in
set_option maxRecDepth 100000 in
theorem mX4_hasCode (l : Launch) {E : En} {σ μ : Sg} {dg : Int64} {i0 : Nat} {a1 : Int32} (hi0 : i0 < 9) {r : Int32} (hf : fX4_hasCode i0 a1 σ = some r) : Met l yX4_hasCode [.code yX4_hasCode cX4_hasCode 2 (some .boolean)] (Rm 1 21) (va_Pc [.ref (eA E (10 + 8 * i0)), .int a1] (Wd E σ μ dg)) (Qi E σ μ dg r) 0 0 (eP E) := by
  refine ss_of (by decide) (Nat.le_of_ble_eq_true rfl) (fun p e s m below meth c hx hb hr hlk hml hown hK hW ls hl => ?_)
  have hown : s.vm.findClass RX4 = some m.cls := hown
  have hl : lv_has ls 2 [(0, .ref (eA E (10 + 8 * i0))), (1, .int a1)] := hl
  unfold fX4_hasCode at hf
  refine lv_aload_n hx hb dX4_hasCode_0 rfl (lv_at hl 0 rfl) ?_
  obtain ⟨r2, q1, hf⟩ := bd_inv hf
  refine ss_callVi (As := []) hx hb hml hown hK hW kb_X4_isCoded kM_RX4_54 rfl (okq_lt (by omega)) (c_st (i := i0) (by omega) 0 (by decide)) (mX4_isCoded l (i0 := i0) (by omega) q1) rfl dX4_hasCode_1 rfl hl.1 (Nat.le_of_ble_eq_true rfl) ⟨Nat.le_of_ble_eq_true rfl, Nat.le_of_ble_eq_true rfl⟩ ⟨Nat.zero_le _, Nat.zero_le _⟩ (fun H locs hW => ?_)
  refine lv_if_eq (tgt := 29) hx hb dX4_hasCode_4 (by decide) (fun c3 => ?_) (fun c3 => ?_)
  · have hf := br_p c3 hf
    refine lv_iconst (v := 0) hx hb dX4_hasCode_29 (by decide) ?_
    exact ss_zret hx hb hr hlk hW (Option.some.inj hf) rfl dX4_hasCode_30
  · have hf := br_n c3 hf
    refine lv_aload_n hx hb dX4_hasCode_7 rfl (lv_at hl 0 rfl) ?_
    refine lv_iload_n hx hb dX4_hasCode_8 rfl (lv_at hl 1 rfl) ?_
    obtain ⟨r5, q4, hf⟩ := bd_inv hf
    refine ss_callVi (As := [.int a1]) hx hb hml hown hK hW kb_X4_hasSample kM_RX4_58 rfl (okq_lt (by omega)) (c_st (i := i0) (by omega) 0 (by decide)) (mX4_hasSample l (i0 := i0) (a1 := a1) (by omega) q4) rfl dX4_hasCode_9 rfl hl.1 (Nat.le_of_ble_eq_true rfl) ⟨Nat.le_of_ble_eq_true rfl, Nat.le_of_ble_eq_true rfl⟩ ⟨Nat.zero_le _, Nat.zero_le _⟩ (fun H locs hW => ?_)
    refine lv_if_eq (tgt := 29) hx hb dX4_hasCode_12 (by decide) (fun c6 => ?_) (fun c6 => ?_)
    · have hf := br_p c6 hf
      refine lv_iconst (v := 0) hx hb dX4_hasCode_29 (by decide) ?_
      exact ss_zret hx hb hr hlk hW (Option.some.inj hf) rfl dX4_hasCode_30
    · have hf := br_n c6 hf
      refine lv_aload_n hx hb dX4_hasCode_15 rfl (lv_at hl 0 rfl) ?_
      refine g_State_codes (i := i0) hx hb hown hK hW (by omega) kF_RX4_32 dX4_hasCode_16 ?_
      refine lv_iload_n hx hb dX4_hasCode_19 rfl (lv_at hl 1 rfl) ?_
      obtain ⟨hk7, hf⟩ := gd_inv hf
      refine l_St6 (i := i0) hx hb hK hW (by omega) rfl hk7 dX4_hasCode_20 ?_
      refine lv_iconst (v := (-1)) hx hb dX4_hasCode_21 (by decide) ?_
      refine lv_icmp_eq (tgt := 29) hx hb dX4_hasCode_22 (by decide) (fun c8 => ?_) (fun c8 => ?_)
      · have hf := br_p c8 hf
        refine lv_iconst (v := 0) hx hb dX4_hasCode_29 (by decide) ?_
        exact ss_zret hx hb hr hlk hW (Option.some.inj hf) rfl dX4_hasCode_30
      · have hf := br_n c8 hf
        refine lv_iconst (v := 1) hx hb dX4_hasCode_25 (by decide) ?_
        refine lv_goto (tgt := 30) hx hb dX4_hasCode_26 (by decide) ?_
        exact ss_zret hx hb hr hlk hW (Option.some.inj hf) rfl dX4_hasCode_30
def fX4_turnOver (i0 : Nat) (a1 : Int32) (a2 : Int32) (σ : Sg) : Option Sg := gd (¬ (a1 < 0 ∨ 64 ≤ (a1).toNatClampNeg)) <| gd (¬ (a1 < 0 ∨ 64 ≤ (a1).toNatClampNeg)) <| nm (up2 σ (10 + 8 * i0 + 6) ((a1).toNatClampNeg) ((σ (10 + 8 * i0 + 6) (a1).toNatClampNeg) ^^^ (1 <<< (a2 &&& 31)))) fun s3 => some s3
set_option maxHeartbeats 4000000 in
set_option maxRecDepth 100000 in
theorem mX4_turnOver (l : Launch) {E : En} {σ μ : Sg} {dg : Int64} {i0 : Nat} {a1 : Int32} {a2 : Int32} (hi0 : i0 < 9) {σ' : Sg} (hf : fX4_turnOver i0 a1 a2 σ = some σ') : Met l yX4_turnOver [.code yX4_turnOver cX4_turnOver 3 none] (Rm 0 0) (va_Pc [.ref (eA E (10 + 8 * i0)), .int a1, .int a2] (Wd E σ μ dg)) (Qv E σ' μ dg) 0 0 (eP E) := by
  refine ss_of (by decide) (Nat.le_of_ble_eq_true rfl) (fun p e s m below meth c hx hb hr hlk hml hown hK hW ls hl => ?_)
  have hown : s.vm.findClass RX4 = some m.cls := hown
  have hl : lv_has ls 3 [(0, .ref (eA E (10 + 8 * i0))), (1, .int a1), (2, .int a2)] := hl
  unfold fX4_turnOver at hf
  refine lv_aload_n hx hb dX4_turnOver_0 rfl (lv_at hl 0 rfl) ?_
  refine g_State_codes (i := i0) hx hb hown hK hW (by omega) kF_RX4_32 dX4_turnOver_1 ?_
  refine lv_iload_n hx hb dX4_turnOver_4 rfl (lv_at hl 1 rfl) ?_
  refine lv_dup2_11 hx hb dX4_turnOver_5 rfl rfl ?_
  obtain ⟨hk1, hf⟩ := gd_inv hf
  refine l_St6 (i := i0) hx hb hK hW (by omega) rfl hk1 dX4_turnOver_6 ?_
  refine lv_iconst (v := 1) hx hb dX4_turnOver_7 (by decide) ?_
  refine lv_iload_n hx hb dX4_turnOver_8 rfl (lv_at hl 2 rfl) ?_
  refine lv_ishl hx hb dX4_turnOver_9 ?_
  refine lv_ixor hx hb dX4_turnOver_10 ?_
  obtain ⟨hk2, hf⟩ := gd_inv hf
  refine s_St6 (i := i0) hx hb hK hW (by omega) rfl hk2 dX4_turnOver_11 (fun H locs hW => ?_)
  obtain ⟨s3, es3⟩ : ∃ y : Sg, y = (up2 σ (10 + 8 * i0 + 6) ((a1).toNatClampNeg) ((σ (10 + 8 * i0 + 6) (a1).toNatClampNeg) ^^^ (1 <<< (a2 &&& 31)))) := ⟨_, rfl⟩
  have hf := nm_use es3 hf
  rw [← es3] at hW
  cases hf
  exact ss_vret hx hb hr hlk hW dX4_turnOver_12
def fX2_othersThan_L5 (i0 : Nat) (i1 : Nat) (a2 : Int32) (n : Nat) (x3 : Int32) (x4 : Int32) (σ : Sg) : Option Int32 := match n with
  | 0 => none
  | n + 1 => if a2 ≤ x4 then (some x3) else (gd (¬ (x4 < 0 ∨ 64 ≤ (x4).toNatClampNeg)) <| gd (¬ (x4 < 0 ∨ 64 ≤ (x4).toNatClampNeg)) <| if (σ (86 + 3 * i0 + 1) (x4).toNatClampNeg) = (σ (86 + 3 * i1 + 1) (x4).toNatClampNeg) then (nm (x4 + 1) fun x4_5 => (fun x3 x4 σ => fX2_othersThan_L5 i0 i1 a2 n x3 x4 σ) x3 x4_5 σ) else (nm (x3 + 1) fun x3_6 => nm (x4 + 1) fun x4_7 => (fun x3 x4 σ => fX2_othersThan_L5 i0 i1 a2 n x3 x4 σ) x3_6 x4_7 σ))
def fX2_othersThan (i0 : Nat) (i1 : Nat) (a2 : Int32) (σ : Sg) : Option Int32 := fX2_othersThan_L5 i0 i1 a2 80 0 0 σ
set_option maxHeartbeats 4000000 in
set_option maxRecDepth 100000 in
theorem mX2_othersThan (l : Launch) {E : En} {σ μ : Sg} {dg : Int64} {i0 : Nat} {i1 : Nat} {a2 : Int32} (hi0 : i0 < 2) (hi1 : i1 < 2) {r : Int32} (hf : fX2_othersThan i0 i1 a2 σ = some r) : Met l yX2_othersThan [.code yX2_othersThan cX2_othersThan 5 (some .int)] (Rm 0 0) (va_Pc [.ref (eA E (86 + 3 * i0)), .ref (eA E (86 + 3 * i1)), .int a2] (Wd E σ μ dg)) (Qi E σ μ dg r) 0 0 (eP E) := by
  refine ss_of (by decide) (Nat.le_of_ble_eq_true rfl) (fun p e s m below meth c hx hb hr hlk hml hown hK hW ls hl => ?_)
  have hown : s.vm.findClass RX2 = some m.cls := hown
  have hl : lv_has ls 5 [(0, .ref (eA E (86 + 3 * i0))), (1, .ref (eA E (86 + 3 * i1))), (2, .int a2)] := hl
  unfold fX2_othersThan at hf
  have h5 : ∀ (n5 : Nat) (x3 : Int32) (x4 : Int32) (σ : Sg) (H : Heap) (locs : List Loc) (ls : Array Slot), Wk E σ μ dg s H locs → lv_has ls 5 [(0, .ref (eA E (86 + 3 * i0))), (1, .ref (eA E (86 + 3 * i1))), (2, .int a2), (3, .int x3), (4, .int x4)] → fX2_othersThan_L5 i0 i1 a2 n5 x3 x4 σ = some r → W p l e (Rm 0 0) s m [.ref (eA E (86 + 3 * i0)), .ref (eA E (86 + 3 * i1)), .int a2].toArray below meth c H locs 0 0 (MQ below (Qi E σ μ dg r) [.ref (eA E (86 + 3 * i0)), .ref (eA E (86 + 3 * i1)), .int a2].toArray s 0 0 (eP E)) (F0 m 5 ls []) := by
    intro n5
    induction n5 with
    | zero =>
      intro x3 x4 σ  H locs ls hW hl hf
      exact absurd hf (by simp [fX2_othersThan_L5])
    | succ n5 ih5 =>
      intro x3 x4 σ  H locs ls hW hl hf
      rw [fX2_othersThan_L5] at hf
      refine lv_iload hx hb dX2_othersThan_5 (lv_at hl 4 rfl) ?_
      refine lv_iload_n hx hb dX2_othersThan_7 rfl (lv_at hl 2 rfl) ?_
      refine lv_icmp_ge (tgt := 37) hx hb dX2_othersThan_8 (by decide) (fun c1 => ?_) (fun c1 => ?_)
      · have hf := br_p c1 hf
        refine lv_iload_n hx hb dX2_othersThan_37 rfl (lv_at hl 3 rfl) ?_
        exact ss_iret hx hb hr hlk hW (Option.some.inj hf) dX2_othersThan_38
      · have hf := br_n c1 hf
        refine lv_aload_n hx hb dX2_othersThan_11 rfl (lv_at hl 0 rfl) ?_
        refine g_Dec_made (i := i0) hx hb hown hK hW (by omega) kF_RX2_9 dX2_othersThan_12 ?_
        refine lv_iload hx hb dX2_othersThan_15 (lv_at hl 4 rfl) ?_
        obtain ⟨hk2, hf⟩ := gd_inv hf
        refine l_De1 (i := i0) hx hb hK hW (by omega) rfl hk2 dX2_othersThan_17 ?_
        refine lv_aload_n hx hb dX2_othersThan_18 rfl (lv_at hl 1 rfl) ?_
        refine g_Dec_made (i := i1) hx hb hown hK hW (by omega) kF_RX2_9 dX2_othersThan_19 ?_
        refine lv_iload hx hb dX2_othersThan_22 (lv_at hl 4 rfl) ?_
        obtain ⟨hk3, hf⟩ := gd_inv hf
        refine l_De1 (i := i1) hx hb hK hW (by omega) rfl hk3 dX2_othersThan_24 ?_
        refine lv_icmp_eq (tgt := 31) hx hb dX2_othersThan_25 (by decide) (fun c4 => ?_) (fun c4 => ?_)
        · have hf := br_p c4 hf
          obtain ⟨x4_5, ex4_5⟩ : ∃ y : Int32, y = (x4 + 1) := ⟨_, rfl⟩
          have hf := nm_use ex4_5 hf
          refine lv_iinc (v := x4_5) (lv' := [(4, .int x4_5), (0, .ref (eA E (86 + 3 * i0))), (1, .ref (eA E (86 + 3 * i1))), (2, .int a2), (3, .int x3)]) hx hb dX2_othersThan_31 hl (k := 4) rfl (by rw [ex4_5]; rfl) (by decide) rfl (fun ls hl => ?_)
          refine lv_goto (tgt := 5) hx hb dX2_othersThan_34 (by decide) ?_
          exact ih5 x3 x4_5 σ _ _ _ hW (lv_sub hl [1, 2, 3, 4, 0] rfl) hf
        · have hf := br_n c4 hf
          obtain ⟨x3_6, ex3_6⟩ : ∃ y : Int32, y = (x3 + 1) := ⟨_, rfl⟩
          have hf := nm_use ex3_6 hf
          refine lv_iinc (v := x3_6) (lv' := [(3, .int x3_6), (0, .ref (eA E (86 + 3 * i0))), (1, .ref (eA E (86 + 3 * i1))), (2, .int a2), (4, .int x4)]) hx hb dX2_othersThan_28 hl (k := 3) rfl (by rw [ex3_6]; rfl) (by decide) rfl (fun ls hl => ?_)
          obtain ⟨x4_7, ex4_7⟩ : ∃ y : Int32, y = (x4 + 1) := ⟨_, rfl⟩
          have hf := nm_use ex4_7 hf
          refine lv_iinc (v := x4_7) (lv' := [(4, .int x4_7), (3, .int x3_6), (0, .ref (eA E (86 + 3 * i0))), (1, .ref (eA E (86 + 3 * i1))), (2, .int a2)]) hx hb dX2_othersThan_31 hl (k := 4) rfl (by rw [ex4_7]; rfl) (by decide) rfl (fun ls hl => ?_)
          refine lv_goto (tgt := 5) hx hb dX2_othersThan_34 (by decide) ?_
          exact ih5 x3_6 x4_7 σ _ _ _ hW (lv_sub hl [2, 3, 4, 1, 0] rfl) hf
  refine lv_iconst (v := 0) hx hb dX2_othersThan_0 (by decide) ?_
  refine lv_istore_n (lv' := [(3, .int 0), (0, .ref (eA E (86 + 3 * i0))), (1, .ref (eA E (86 + 3 * i1))), (2, .int a2)]) hx hb dX2_othersThan_1 rfl hl (by decide) rfl (fun ls hl => ?_)
  refine lv_iconst (v := 0) hx hb dX2_othersThan_2 (by decide) ?_
  refine lv_istore (lv' := [(4, .int 0), (3, .int 0), (0, .ref (eA E (86 + 3 * i0))), (1, .ref (eA E (86 + 3 * i1))), (2, .int a2)]) hx hb dX2_othersThan_3 hl (by decide) rfl (fun ls hl => ?_)
  exact h5 80 0 0 σ _ _ _ hW (lv_sub hl [2, 3, 4, 1, 0] rfl) hf
def fX6_leadOf_L36 (a1 : Int32) (n : Nat) (x2 : Int32) (σ : Sg) : Option (Int32 × Sg) := match n with
  | 0 => none
  | n + 1 => bd (fX4_endOf 0 a1 σ) fun r2 => if r2 ≤ x2 then (some ((σ (82 + 3) 1), σ)) else (gd (¬ (x2 < 0 ∨ 64 ≤ (x2).toNatClampNeg)) <| bd (fX5_follow 3 (σ (10 + 8 * 0 + 6) (x2).toNatClampNeg) σ) fun s6 => nm (x2 + 1) fun x2_7 => (fun x2 σ => fX6_leadOf_L36 a1 n x2 σ) x2_7 s6)
def fX6_leadOf (a1 : Int32) (σ : Sg) : Option (Int32 × Sg) := gd (¬ (a1 < 0 ∨ 32 ≤ (a1).toNatClampNeg)) <| gd (¬ (a1 < 0 ∨ 32 ≤ (a1).toNatClampNeg)) <| bd (fX5_begin 3 (σ (10 + 8 * 0 + 3) (a1).toNatClampNeg) (σ (10 + 8 * 0 + 4) (a1).toNatClampNeg) σ) fun s11 => bd (fX4_startOf 0 a1 s11) fun r13 => nm (r13 + 1) fun x2_14 => fX6_leadOf_L36 a1 80 x2_14 s11
set_option maxHeartbeats 4000000 in
set_option maxRecDepth 100000 in
theorem mX6_leadOf (l : Launch) {E : En} {σ μ : Sg} {dg : Int64} {a1 : Int32}  {r : Int32} {σ' : Sg} (hf : fX6_leadOf a1 σ = some (r, σ')) : Met l yX6_leadOf [.code yX6_leadOf cX6_leadOf 3 (some .int)] (Rm 3 65) (va_Pc [.ref (eA E 0), .int a1] (Wd E σ μ dg)) (Qi E σ' μ dg r) 0 0 (eP E) := by
  refine ss_of (by decide) (Nat.le_of_ble_eq_true rfl) (fun p e s m below meth c hx hb hr hlk hml hown hK hW ls hl => ?_)
  have hown : s.vm.findClass RX6 = some m.cls := hown
  have hl : lv_has ls 3 [(0, .ref (eA E 0)), (1, .int a1)] := hl
  unfold fX6_leadOf at hf
  have h36 : ∀ (n36 : Nat) (x2 : Int32) (σ : Sg) (H : Heap) (locs : List Loc) (ls : Array Slot), Wk E σ μ dg s H locs → lv_has ls 3 [(0, .ref (eA E 0)), (1, .int a1), (2, .int x2)] → fX6_leadOf_L36 a1 n36 x2 σ = some (r, σ') → W p l e (Rm 3 65) s m [.ref (eA E 0), .int a1].toArray below meth c H locs 0 0 (MQ below (Qi E σ' μ dg r) [.ref (eA E 0), .int a1].toArray s 0 0 (eP E)) (F0 m 36 ls []) := by
    intro n36
    induction n36 with
    | zero =>
      intro x2 σ  H locs ls hW hl hf
      exact absurd hf (by simp [fX6_leadOf_L36])
    | succ n36 ih36 =>
      intro x2 σ  H locs ls hW hl hf
      rw [fX6_leadOf_L36] at hf
      refine lv_iload_n hx hb dX6_leadOf_36 rfl (lv_at hl 2 rfl) ?_
      refine lv_aload_n hx hb dX6_leadOf_37 rfl (lv_at hl 0 rfl) ?_
      refine g_X_now hx hb hown hK hW kF_RX6_12 dX6_leadOf_38 ?_
      refine lv_iload_n hx hb dX6_leadOf_41 rfl (lv_at hl 1 rfl) ?_
      obtain ⟨r2, q1, hf⟩ := bd_inv hf
      refine ss_callVi (As := [.int a1]) hx hb hml hown hK hW kb_X4_endOf kM_RX6_257 rfl (okq_lt (by omega)) (c_st (i := 0) (by omega) 0 (by decide)) (mX4_endOf l (i0 := 0) (a1 := a1) (by omega) q1) rfl dX6_leadOf_42 rfl hl.1 (Nat.le_of_ble_eq_true rfl) ⟨Nat.le_of_ble_eq_true rfl, Nat.le_of_ble_eq_true rfl⟩ ⟨Nat.zero_le _, Nat.zero_le _⟩ (fun H locs hW => ?_)
      refine lv_icmp_ge (tgt := 70) hx hb dX6_leadOf_45 (by decide) (fun c3 => ?_) (fun c3 => ?_)
      · have hf := br_p c3 hf
        refine lv_aload_n hx hb dX6_leadOf_70 rfl (lv_at hl 0 rfl) ?_
        refine g_X_walk hx hb hown hK hW kF_RX6_58 dX6_leadOf_71 ?_
        refine g_Walk_number (i := 3) hx hb hown hK hW (by omega) kF_RX6_302 dX6_leadOf_74 ?_
        cases hf
        exact ss_iret hx hb hr hlk hW rfl dX6_leadOf_77
      · have hf := br_n c3 hf
        refine lv_aload_n hx hb dX6_leadOf_48 rfl (lv_at hl 0 rfl) ?_
        refine g_X_walk hx hb hown hK hW kF_RX6_58 dX6_leadOf_49 ?_
        refine lv_aload_n hx hb dX6_leadOf_52 rfl (lv_at hl 0 rfl) ?_
        refine g_X_now hx hb hown hK hW kF_RX6_12 dX6_leadOf_53 ?_
        refine g_State_codes (i := 0) hx hb hown hK hW (by omega) kF_RX6_181 dX6_leadOf_56 ?_
        refine lv_iload_n hx hb dX6_leadOf_59 rfl (lv_at hl 2 rfl) ?_
        obtain ⟨hk4, hf⟩ := gd_inv hf
        refine l_St6 (i := 0) hx hb hK hW (by omega) rfl hk4 dX6_leadOf_60 ?_
        obtain ⟨s6, q5, hf⟩ := bd_inv hf
        refine ss_callVv (As := [.int (σ (10 + 8 * 0 + 6) (x2).toNatClampNeg)]) hx hb hml hown hK hW kb_X5_follow kM_RX6_296 rfl (okq_lt (by omega)) (c_wk (w := 3) (by omega)) (mX5_follow l (i0 := 3) (a1 := (σ (10 + 8 * 0 + 6) (x2).toNatClampNeg)) (by omega) q5) rfl dX6_leadOf_61 rfl hl.1 (Nat.le_of_ble_eq_true rfl) ⟨Nat.le_of_ble_eq_true rfl, Nat.le_of_ble_eq_true rfl⟩ ⟨Nat.zero_le _, Nat.zero_le _⟩ (fun H locs hW => ?_)
        obtain ⟨x2_7, ex2_7⟩ : ∃ y : Int32, y = (x2 + 1) := ⟨_, rfl⟩
        have hf := nm_use ex2_7 hf
        refine lv_iinc (v := x2_7) (lv' := [(2, .int x2_7), (0, .ref (eA E 0)), (1, .int a1)]) hx hb dX6_leadOf_64 hl (k := 2) rfl (by rw [ex2_7]; rfl) (by decide) rfl (fun ls hl => ?_)
        refine lv_goto (tgt := 36) hx hb dX6_leadOf_67 (by decide) ?_
        exact ih36 x2_7 s6 _ _ _ hW (lv_sub hl [1, 2, 0] rfl) hf
  refine lv_aload_n hx hb dX6_leadOf_0 rfl (lv_at hl 0 rfl) ?_
  refine g_X_walk hx hb hown hK hW kF_RX6_58 dX6_leadOf_1 ?_
  refine lv_aload_n hx hb dX6_leadOf_4 rfl (lv_at hl 0 rfl) ?_
  refine g_X_now hx hb hown hK hW kF_RX6_12 dX6_leadOf_5 ?_
  refine g_State_firsts (i := 0) hx hb hown hK hW (by omega) kF_RX6_263 dX6_leadOf_8 ?_
  refine lv_iload_n hx hb dX6_leadOf_11 rfl (lv_at hl 1 rfl) ?_
  obtain ⟨hk8, hf⟩ := gd_inv hf
  refine l_St3 (i := 0) hx hb hK hW (by omega) rfl hk8 dX6_leadOf_12 ?_
  refine lv_aload_n hx hb dX6_leadOf_13 rfl (lv_at hl 0 rfl) ?_
  refine g_X_now hx hb hown hK hW kF_RX6_12 dX6_leadOf_14 ?_
  refine g_State_starts (i := 0) hx hb hown hK hW (by omega) kF_RX6_266 dX6_leadOf_17 ?_
  refine lv_iload_n hx hb dX6_leadOf_20 rfl (lv_at hl 1 rfl) ?_
  obtain ⟨hk9, hf⟩ := gd_inv hf
  refine l_St4 (i := 0) hx hb hK hW (by omega) rfl hk9 dX6_leadOf_21 ?_
  obtain ⟨s11, q10, hf⟩ := bd_inv hf
  refine ss_callVv (As := [.int (σ (10 + 8 * 0 + 3) (a1).toNatClampNeg), .int (σ (10 + 8 * 0 + 4) (a1).toNatClampNeg)]) hx hb hml hown hK hW kb_X5_begin kM_RX6_290 rfl (okq_lt (by omega)) (c_wk (w := 3) (by omega)) (mX5_begin l (i0 := 3) (a1 := (σ (10 + 8 * 0 + 3) (a1).toNatClampNeg)) (a2 := (σ (10 + 8 * 0 + 4) (a1).toNatClampNeg)) (by omega) q10) rfl dX6_leadOf_22 rfl hl.1 (Nat.le_of_ble_eq_true rfl) ⟨Nat.le_of_ble_eq_true rfl, Nat.le_of_ble_eq_true rfl⟩ ⟨Nat.zero_le _, Nat.zero_le _⟩ (fun H locs hW => ?_)
  refine lv_aload_n hx hb dX6_leadOf_25 rfl (lv_at hl 0 rfl) ?_
  refine g_X_now hx hb hown hK hW kF_RX6_12 dX6_leadOf_26 ?_
  refine lv_iload_n hx hb dX6_leadOf_29 rfl (lv_at hl 1 rfl) ?_
  obtain ⟨r13, q12, hf⟩ := bd_inv hf
  refine ss_callVi (As := [.int a1]) hx hb hml hown hK hW kb_X4_startOf kM_RX6_260 rfl (okq_lt (by omega)) (c_st (i := 0) (by omega) 0 (by decide)) (mX4_startOf l (i0 := 0) (a1 := a1) (by omega) q12) rfl dX6_leadOf_30 rfl hl.1 (Nat.le_of_ble_eq_true rfl) ⟨Nat.le_of_ble_eq_true rfl, Nat.le_of_ble_eq_true rfl⟩ ⟨Nat.zero_le _, Nat.zero_le _⟩ (fun H locs hW => ?_)
  refine lv_iconst (v := 1) hx hb dX6_leadOf_33 (by decide) ?_
  refine lv_iadd hx hb dX6_leadOf_34 ?_
  refine lv_topi (fun x2_14 ex2_14 => ?_)
  have hf := nm_use ex2_14 hf
  refine lv_istore_n (lv' := [(2, .int x2_14), (0, .ref (eA E 0)), (1, .int a1)]) hx hb dX6_leadOf_35 rfl hl (by decide) rfl (fun ls hl => ?_)
  exact h36 80 x2_14 s11 _ _ _ hW (lv_sub hl [1, 2, 0] rfl) hf
def fX0_isFull (σ : Sg) : Option Int32 := if (σ 5 1) < 40 then (some 0) else (some 1)
set_option maxHeartbeats 4000000 in
set_option maxRecDepth 100000 in
theorem mX0_isFull (l : Launch) {E : En} {σ μ : Sg} {dg : Int64}   {r : Int32} (hf : fX0_isFull σ = some r) : Met l yX0_isFull [.code yX0_isFull cX0_isFull 1 (some .boolean)] (Rm 0 0) (va_Pc [.ref (eA E 5)] (Wd E σ μ dg)) (Qi E σ μ dg r) 0 0 (eP E) := by
  refine ss_of (by decide) (Nat.le_of_ble_eq_true rfl) (fun p e s m below meth c hx hb hr hlk hml hown hK hW ls hl => ?_)
  have hown : s.vm.findClass RX0 = some m.cls := hown
  have hl : lv_has ls 1 [(0, .ref (eA E 5))] := hl
  unfold fX0_isFull at hf
  refine lv_aload_n hx hb dX0_isFull_0 rfl (lv_at hl 0 rfl) ?_
  refine g_BT_length hx hb hown hK hW kF_RX0_18 dX0_isFull_1 ?_
  refine lv_bipush (v := 40) hx hb dX0_isFull_4 (by decide) ?_
  refine lv_icmp_lt (tgt := 13) hx hb dX0_isFull_6 (by decide) (fun c1 => ?_) (fun c1 => ?_)
  · have hf := br_p c1 hf
    refine lv_iconst (v := 0) hx hb dX0_isFull_13 (by decide) ?_
    exact ss_zret hx hb hr hlk hW (Option.some.inj hf) rfl dX0_isFull_14
  · have hf := br_n c1 hf
    refine lv_iconst (v := 1) hx hb dX0_isFull_9 (by decide) ?_
    refine lv_goto (tgt := 14) hx hb dX0_isFull_10 (by decide) ?_
    exact ss_zret hx hb hr hlk hW (Option.some.inj hf) rfl dX0_isFull_14
def fX0_put (a1 : Int32) (σ : Sg) : Option Sg := bd (fX0_isFull σ) fun r2 => if r2 = 0 then (gd (¬ ((σ 5 1) < 0 ∨ 40 ≤ ((σ 5 1)).toNatClampNeg)) <| nm (up2 σ 6 (((σ 5 1)).toNatClampNeg) a1) fun s5 => nm (up2 s5 5 1 ((s5 5 1) + 1)) fun s6 => some s6) else (some σ)
set_option maxHeartbeats 4000000 in
set_option maxRecDepth 100000 in
theorem mX0_put (l : Launch) {E : En} {σ μ : Sg} {dg : Int64} {a1 : Int32}  {σ' : Sg} (hf : fX0_put a1 σ = some σ') : Met l yX0_put [.code yX0_put cX0_put 2 none] (Rm 1 20) (va_Pc [.ref (eA E 5), .int a1] (Wd E σ μ dg)) (Qv E σ' μ dg) 0 0 (eP E) := by
  refine ss_of (by decide) (Nat.le_of_ble_eq_true rfl) (fun p e s m below meth c hx hb hr hlk hml hown hK hW ls hl => ?_)
  have hown : s.vm.findClass RX0 = some m.cls := hown
  have hl : lv_has ls 2 [(0, .ref (eA E 5)), (1, .int a1)] := hl
  unfold fX0_put at hf
  refine lv_aload_n hx hb dX0_put_0 rfl (lv_at hl 0 rfl) ?_
  obtain ⟨r2, q1, hf⟩ := bd_inv hf
  refine ss_callVi (As := []) hx hb hml hown hK hW kb_X0_isFull kM_RX0_22 rfl (okq_lt (by decide)) (c_fx (by decide)) (mX0_isFull l  q1) rfl dX0_put_1 rfl hl.1 (Nat.le_of_ble_eq_true rfl) ⟨Nat.le_of_ble_eq_true rfl, Nat.le_of_ble_eq_true rfl⟩ ⟨Nat.zero_le _, Nat.zero_le _⟩ (fun H locs hW => ?_)
  refine lv_if_ne (tgt := 27) hx hb dX0_put_4 (by decide) (fun c3 => ?_) (fun c3 => ?_)
  · have hf := br_n c3 hf
    cases hf
    exact ss_vret hx hb hr hlk hW dX0_put_27
  · have hf := br_p c3 hf
    refine lv_aload_n hx hb dX0_put_7 rfl (lv_at hl 0 rfl) ?_
    refine g_BT_signs hx hb hown hK hW kF_RX0_9 dX0_put_8 ?_
    refine lv_aload_n hx hb dX0_put_11 rfl (lv_at hl 0 rfl) ?_
    refine g_BT_length hx hb hown hK hW kF_RX0_18 dX0_put_12 ?_
    refine lv_iload_n hx hb dX0_put_15 rfl (lv_at hl 1 rfl) ?_
    obtain ⟨hk4, hf⟩ := gd_inv hf
    refine s_signs hx hb hK hW rfl hk4 dX0_put_16 (fun H locs hW => ?_)
    obtain ⟨s5, es5⟩ : ∃ y : Sg, y = (up2 σ 6 (((σ 5 1)).toNatClampNeg) a1) := ⟨_, rfl⟩
    have hf := nm_use es5 hf
    rw [← es5] at hW
    refine lv_aload_n hx hb dX0_put_17 rfl (lv_at hl 0 rfl) ?_
    refine lv_dup hx hb dX0_put_18 rfl ?_
    refine g_BT_length hx hb hown hK hW kF_RX0_18 dX0_put_19 ?_
    refine lv_iconst (v := 1) hx hb dX0_put_22 (by decide) ?_
    refine lv_iadd hx hb dX0_put_23 ?_
    refine p_BT_length hx hb hown hK hW kF_RX0_18 dX0_put_24 (fun H locs hW => ?_)
    obtain ⟨s6, es6⟩ : ∃ y : Sg, y = (up2 s5 5 1 ((s5 5 1) + 1)) := ⟨_, rfl⟩
    have hf := nm_use es6 hf
    rw [← es6] at hW
    cases hf
    exact ss_vret hx hb hr hlk hW dX0_put_27
def fX0_putNumber_b33 (k19 : Int32 → Int32 → Sg → Option Sg) (x2 : Int32) (x3 : Int32) (σ : Sg) : Option Sg := gd (¬ x3 = 0) <| bd (fX0_put (48 + ((x2 / x3) - (x2 / x3) / 10 * 10)) σ) fun s3 => nm (x3 / 10) fun x3_4 => k19 x2 x3_4 s3
def fX0_putNumber_L19  (n : Nat) (x2 : Int32) (x3 : Int32) (σ : Sg) : Option Sg := match n with
  | 0 => none
  | n + 1 => if x3 ≤ 0 then (some σ) else (if x3 ≤ x2 then (fX0_putNumber_b33 (fun x2 x3 σ => fX0_putNumber_L19 n x2 x3 σ) x2 x3 σ) else (if x3 = 1 then (fX0_putNumber_b33 (fun x2 x3 σ => fX0_putNumber_L19 n x2 x3 σ) x2 x3 σ) else (nm (x3 / 10) fun x3_8 => (fun x2 x3 σ => fX0_putNumber_L19 n x2 x3 σ) x2 x3_8 σ)))
def fX0_putNumber (a1 : Int32) (σ : Sg) : Option Sg := if 0 ≤ a1 then (nm (abI a1) fun x2_10 => fX0_putNumber_L19 80 x2_10 1000 σ) else (bd (fX0_put 45 σ) fun s12 => nm (abI a1) fun x2_13 => fX0_putNumber_L19 80 x2_13 1000 s12)
set_option maxHeartbeats 4000000 in
set_option maxRecDepth 100000 in
theorem mX0_putNumber (l : Launch) {E : En} {σ μ : Sg} {dg : Int64} {a1 : Int32}  {σ' : Sg} (hf : fX0_putNumber a1 σ = some σ') : Met l yX0_putNumber [.code yX0_putNumber cX0_putNumber 4 none] (Rm 2 41) (va_Pc [.ref (eA E 5), .int a1] (Wd E σ μ dg)) (Qv E σ' μ dg) 0 0 (eP E) := by
  refine ss_of (by decide) (Nat.le_of_ble_eq_true rfl) (fun p e s m below meth c hx hb hr hlk hml hown hK hW ls hl => ?_)
  have hown : s.vm.findClass RX0 = some m.cls := hown
  have hl : lv_has ls 4 [(0, .ref (eA E 5)), (1, .int a1)] := hl
  unfold fX0_putNumber at hf
  have h19 : ∀ (n19 : Nat) (x2 : Int32) (x3 : Int32) (σ : Sg) (H : Heap) (locs : List Loc) (ls : Array Slot), Wk E σ μ dg s H locs → lv_has ls 4 [(0, .ref (eA E 5)), (2, .int x2), (3, .int x3)] → fX0_putNumber_L19 n19 x2 x3 σ = some σ' → W p l e (Rm 2 41) s m [.ref (eA E 5), .int a1].toArray below meth c H locs 0 0 (MQ below (Qv E σ' μ dg) [.ref (eA E 5), .int a1].toArray s 0 0 (eP E)) (F0 m 19 ls []) := by
    intro n19
    induction n19 with
    | zero =>
      intro x2 x3 σ  H locs ls hW hl hf
      exact absurd hf (by simp [fX0_putNumber_L19])
    | succ n19 ih19 =>
      have h33 : ∀ (x2 : Int32) (x3 : Int32) (σ : Sg) (H : Heap) (locs : List Loc) (ls : Array Slot), Wk E σ μ dg s H locs → lv_has ls 4 [(0, .ref (eA E 5)), (2, .int x2), (3, .int x3)] → fX0_putNumber_b33 (fun x2 x3 σ => fX0_putNumber_L19 n19 x2 x3 σ) x2 x3 σ = some σ' → W p l e (Rm 2 41) s m [.ref (eA E 5), .int a1].toArray below meth c H locs 0 0 (MQ below (Qv E σ' μ dg) [.ref (eA E 5), .int a1].toArray s 0 0 (eP E)) (F0 m 33 ls []) := by
        intro x2 x3 σ  H locs ls hW hl hf
        unfold fX0_putNumber_b33 at hf
        refine lv_aload_n hx hb dX0_putNumber_33 rfl (lv_at hl 0 rfl) ?_
        refine lv_bipush (v := 48) hx hb dX0_putNumber_34 (by decide) ?_
        refine lv_iload_n hx hb dX0_putNumber_36 rfl (lv_at hl 1 rfl) ?_
        refine lv_iload_n hx hb dX0_putNumber_37 rfl (lv_at hl 2 rfl) ?_
        obtain ⟨hz1, hf⟩ := gd_inv hf
        refine lv_idiv hx hb dX0_putNumber_38 hz1 ?_
        refine lv_bipush (v := 10) hx hb dX0_putNumber_39 (by decide) ?_
        refine lv_irem hx hb dX0_putNumber_41 (by decide) ?_
        refine lv_iadd hx hb dX0_putNumber_42 ?_
        obtain ⟨s3, q2, hf⟩ := bd_inv hf
        refine ss_callVv (As := [.int (48 + ((x2 / x3) - (x2 / x3) / 10 * 10))]) hx hb hml hown hK hW kb_X0_put kM_RX0_35 rfl (okq_lt (by decide)) (c_fx (by decide)) (mX0_put l (a1 := (48 + ((x2 / x3) - (x2 / x3) / 10 * 10))) q2) rfl dX0_putNumber_43 rfl hl.1 (Nat.le_of_ble_eq_true rfl) ⟨Nat.le_of_ble_eq_true rfl, Nat.le_of_ble_eq_true rfl⟩ ⟨Nat.zero_le _, Nat.zero_le _⟩ (fun H locs hW => ?_)
        refine lv_iload_n hx hb dX0_putNumber_46 rfl (lv_at hl 2 rfl) ?_
        refine lv_bipush (v := 10) hx hb dX0_putNumber_47 (by decide) ?_
        refine lv_idiv hx hb dX0_putNumber_49 (by decide) ?_
        refine lv_topi (fun x3_4 ex3_4 => ?_)
        have hf := nm_use ex3_4 hf
        refine lv_istore_n (lv' := [(3, .int x3_4), (0, .ref (eA E 5)), (2, .int x2)]) hx hb dX0_putNumber_50 rfl hl (by decide) rfl (fun ls hl => ?_)
        refine lv_goto (tgt := 19) hx hb dX0_putNumber_51 (by decide) ?_
        exact ih19 x2 x3_4 s3 _ _ _ hW (lv_sub hl [1, 2, 0] rfl) hf
      intro x2 x3 σ  H locs ls hW hl hf
      rw [fX0_putNumber_L19] at hf
      refine lv_iload_n hx hb dX0_putNumber_19 rfl (lv_at hl 2 rfl) ?_
      refine lv_if_le (tgt := 54) hx hb dX0_putNumber_20 (by decide) (fun c5 => ?_) (fun c5 => ?_)
      · have hf := br_p c5 hf
        cases hf
        exact ss_vret hx hb hr hlk hW dX0_putNumber_54
      · have hf := br_n c5 hf
        refine lv_iload_n hx hb dX0_putNumber_23 rfl (lv_at hl 1 rfl) ?_
        refine lv_iload_n hx hb dX0_putNumber_24 rfl (lv_at hl 2 rfl) ?_
        refine lv_icmp_ge (tgt := 33) hx hb dX0_putNumber_25 (by decide) (fun c6 => ?_) (fun c6 => ?_)
        · have hf := br_p c6 hf
          exact h33 x2 x3 σ _ _ _ hW (lv_sub hl [0, 1, 2] rfl) hf
        · have hf := br_n c6 hf
          refine lv_iload_n hx hb dX0_putNumber_28 rfl (lv_at hl 2 rfl) ?_
          refine lv_iconst (v := 1) hx hb dX0_putNumber_29 (by decide) ?_
          refine lv_icmp_ne (tgt := 46) hx hb dX0_putNumber_30 (by decide) (fun c7 => ?_) (fun c7 => ?_)
          · have hf := br_n c7 hf
            refine lv_iload_n hx hb dX0_putNumber_46 rfl (lv_at hl 2 rfl) ?_
            refine lv_bipush (v := 10) hx hb dX0_putNumber_47 (by decide) ?_
            refine lv_idiv hx hb dX0_putNumber_49 (by decide) ?_
            refine lv_topi (fun x3_8 ex3_8 => ?_)
            have hf := nm_use ex3_8 hf
            refine lv_istore_n (lv' := [(3, .int x3_8), (0, .ref (eA E 5)), (2, .int x2)]) hx hb dX0_putNumber_50 rfl hl (by decide) rfl (fun ls hl => ?_)
            refine lv_goto (tgt := 19) hx hb dX0_putNumber_51 (by decide) ?_
            exact ih19 x2 x3_8 σ _ _ _ hW (lv_sub hl [1, 2, 0] rfl) hf
          · have hf := br_p c7 hf
            exact h33 x2 x3 σ _ _ _ hW (lv_sub hl [0, 1, 2] rfl) hf
  refine lv_iload_n hx hb dX0_putNumber_0 rfl (lv_at hl 1 rfl) ?_
  refine lv_if_ge (tgt := 10) hx hb dX0_putNumber_1 (by decide) (fun c9 => ?_) (fun c9 => ?_)
  · have hf := br_p c9 hf
    refine lv_iload_n hx hb dX0_putNumber_10 rfl (lv_at hl 1 rfl) ?_
    refine ss_abs hx hb hml hl.1 hown hK kM_RX0_49 kMs_abs kMi kMc_abs ⟨Nat.le_of_ble_eq_true rfl, Nat.le_of_ble_eq_true rfl⟩ ⟨Nat.zero_le _, Nat.zero_le _⟩ dX0_putNumber_11 ?_
    show W p l e _ s m _ below meth c _ _ 0 0 _ (F0 m 14 ls ([.int (abI a1)]))
    refine lv_topi (fun x2_10 ex2_10 => ?_)
    have hf := nm_use ex2_10 hf
    refine lv_istore_n (lv' := [(2, .int x2_10), (0, .ref (eA E 5)), (1, .int a1)]) hx hb dX0_putNumber_14 rfl hl (by decide) rfl (fun ls hl => ?_)
    refine lv_sipush (v := 1000) hx hb dX0_putNumber_15 (by decide) ?_
    refine lv_istore_n (lv' := [(3, .int 1000), (2, .int x2_10), (0, .ref (eA E 5)), (1, .int a1)]) hx hb dX0_putNumber_18 rfl hl (by decide) rfl (fun ls hl => ?_)
    exact h19 80 x2_10 1000 σ _ _ _ hW (lv_sub hl [2, 1, 0] rfl) hf
  · have hf := br_n c9 hf
    refine lv_aload_n hx hb dX0_putNumber_4 rfl (lv_at hl 0 rfl) ?_
    refine lv_bipush (v := 45) hx hb dX0_putNumber_5 (by decide) ?_
    obtain ⟨s12, q11, hf⟩ := bd_inv hf
    refine ss_callVv (As := [.int 45]) hx hb hml hown hK hW kb_X0_put kM_RX0_35 rfl (okq_lt (by decide)) (c_fx (by decide)) (mX0_put l (a1 := 45) q11) rfl dX0_putNumber_7 rfl hl.1 (Nat.le_of_ble_eq_true rfl) ⟨Nat.le_of_ble_eq_true rfl, Nat.le_of_ble_eq_true rfl⟩ ⟨Nat.zero_le _, Nat.zero_le _⟩ (fun H locs hW => ?_)
    refine lv_iload_n hx hb dX0_putNumber_10 rfl (lv_at hl 1 rfl) ?_
    refine ss_abs hx hb hml hl.1 hown hK kM_RX0_49 kMs_abs kMi kMc_abs ⟨Nat.le_of_ble_eq_true rfl, Nat.le_of_ble_eq_true rfl⟩ ⟨Nat.zero_le _, Nat.zero_le _⟩ dX0_putNumber_11 ?_
    show W p l e _ s m _ below meth c _ _ 0 0 _ (F0 m 14 ls ([.int (abI a1)]))
    refine lv_topi (fun x2_13 ex2_13 => ?_)
    have hf := nm_use ex2_13 hf
    refine lv_istore_n (lv' := [(2, .int x2_13), (0, .ref (eA E 5)), (1, .int a1)]) hx hb dX0_putNumber_14 rfl hl (by decide) rfl (fun ls hl => ?_)
    refine lv_sipush (v := 1000) hx hb dX0_putNumber_15 (by decide) ?_
    refine lv_istore_n (lv' := [(3, .int 1000), (2, .int x2_13), (0, .ref (eA E 5)), (1, .int a1)]) hx hb dX0_putNumber_18 rfl hl (by decide) rfl (fun ls hl => ?_)
    exact h19 80 x2_13 1000 s12 _ _ _ hW (lv_sub hl [2, 1, 0] rfl) hf
