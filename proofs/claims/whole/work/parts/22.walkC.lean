def fX6_add_L71 (a1 : Int32) (a2 : Int32) (a3 : Int32) (n : Nat) (x4 : Int32) (x5 : Int32) (σ : Sg) : Option ((Int32 ⊕ Nat) × Sg) := match n with
  | 0 => none
  | n + 1 => if (σ (10 + 8 * 0) 0) ≤ x5 then (bd (fX4_forgetBlocks 0 σ) fun s3 => some (.inl x4, s3)) else (gd (¬ (x5 < 0 ∨ 64 ≤ (x5).toNatClampNeg)) <| gd (¬ a3 = 0) <| bd (fX6_shape a1 a2 a3 (x5 - x5 / a3 * a3)) fun r7 => nm ((σ (10 + 8 * 0 + 1) (x5).toNatClampNeg) + r7) fun x6_8 => bd (fX6_clip x6_8) fun r10 => gd (¬ (x5 < 0 ∨ 64 ≤ (x5).toNatClampNeg)) <| nm (up2 σ (10 + 8 * 0 + 1) ((x5).toNatClampNeg) r10) fun s12 => bd (fX6_isValue x6_8) fun r14 => if r14 = 0 then (nm (x4 + 1) fun x4_17 => nm (x5 + 1) fun x5_18 => (fun x4 x5 σ => fX6_add_L71 a1 a2 a3 n x4 x5 σ) x4_17 x5_18 s12) else (nm (x5 + 1) fun x5_16 => (fun x4 x5 σ => fX6_add_L71 a1 a2 a3 n x4 x5 σ) x4 x5_16 s12))
def fX6_add (a1 : Int32) (a2 : Int32) (a3 : Int32) (σ : Sg) : Option ((Int32 ⊕ Nat) × Sg) := if a1 < 0 then (some (.inr 0, σ)) else (if a1 ≤ 2 then (if a2 < 0 then (some (.inr 0, σ)) else (if a2 ≤ 2047 then (if a3 < 1 then (some (.inr 0, σ)) else (if a3 ≤ 64 then (bd (fX6_beginChange σ) fun s26 => fX6_add_L71 a1 a2 a3 80 0 0 s26) else (some (.inr 0, σ)))) else (some (.inr 0, σ)))) else (some (.inr 0, σ)))
set_option maxHeartbeats 4000000 in
set_option maxRecDepth 100000 in
theorem mX6_add (l : Launch) (hfl : l.stackTraces = false) {E : En} {σ μ : Sg} {dg : Int64} {a1 : Int32} {a2 : Int32} {a3 : Int32}  {res : Int32 ⊕ Nat} {σ' : Sg} (hf : fX6_add a1 a2 a3 σ = some (res, σ')) : vx_Met l yX6_add [.code yX6_add cX6_add 7 (some .int)] (RmX res 6 144) (va_Pc [.ref (eA E 0), .int a1, .int a2, .int a3] (Wd E σ μ dg)) (Qxi E σ' μ dg res) (Xx E σ' μ dg res) (xc res) (xs6 res) (eP E) := by
  refine ss_ofX (by decide) (Nat.le_of_ble_eq_true rfl) (fun p e s m below meth c hx hb hr hlk hml hown hex hK hW ls hl => ?_)
  have hown : s.vm.findClass RX6 = some m.cls := hown
  have hl : lv_has ls 7 [(0, .ref (eA E 0)), (1, .int a1), (2, .int a2), (3, .int a3)] := hl
  unfold fX6_add at hf
  have h71 : ∀ (n71 : Nat) (x4 : Int32) (x5 : Int32) (σ : Sg) (H : Heap) (locs : List Loc) (ls : Array Slot), Wk E σ μ dg s H locs → lv_has ls 7 [(0, .ref (eA E 0)), (1, .int a1), (2, .int a2), (3, .int a3), (4, .int x4), (5, .int x5)] → fX6_add_L71 a1 a2 a3 n71 x4 x5 σ = some (res, σ') → W p l e (RmX res 6 144) s m [.ref (eA E 0), .int a1, .int a2, .int a3].toArray below meth c H locs 0 0 (vx_MQ below (Qxi E σ' μ dg res) (Xx E σ' μ dg res) [.ref (eA E 0), .int a1, .int a2, .int a3].toArray s (xc res) (xs6 res) (eP E)) (F0 m 71 ls []) := by
    intro n71
    induction n71 with
    | zero =>
      intro x4 x5 σ  H locs ls hW hl hf
      exact absurd hf (by simp [fX6_add_L71])
    | succ n71 ih71 =>
      intro x4 x5 σ  H locs ls hW hl hf
      rw [fX6_add_L71] at hf
      refine lv_iload hx hb dX6_add_71 (lv_at hl 5 rfl) ?_
      refine lv_aload_n hx hb dX6_add_73 rfl (lv_at hl 0 rfl) ?_
      refine g_X_now hx hb hown hK hW kF_RX6_12 dX6_add_74 ?_
      refine g_State_many (i := 0) hx hb hown hK hW (by omega) kF_RX6_72 dX6_add_77 ?_
      refine lv_icmp_ge (tgt := 138) hx hb dX6_add_80 (by decide) (fun c1 => ?_) (fun c1 => ?_)
      · have hf := br_p c1 hf
        refine lv_aload_n hx hb dX6_add_138 rfl (lv_at hl 0 rfl) ?_
        refine g_X_now hx hb hown hK hW kF_RX6_12 dX6_add_139 ?_
        obtain ⟨s3, q2, hf⟩ := bd_inv hf
        refine ss_callVv (As := []) hx hb hml hown hK hW kb_X4_forgetBlocks kM_RX6_98 rfl (by omega) (c_st (i := 0) (by omega) 0 (by decide)) (mX4_forgetBlocks l (i0 := 0) (by omega) q2) rfl dX6_add_142 rfl hl.1 (Nat.le_of_ble_eq_true rfl) ⟨Nat.le_of_ble_eq_true rfl, Nat.le_of_ble_eq_true rfl⟩ ⟨Nat.zero_le _, Nat.zero_le _⟩ (fun H locs hW => ?_)
        refine lv_iload hx hb dX6_add_145 (lv_at hl 4 rfl) ?_
        cases hf
        exact ss_ixret hx hb hr hlk hW dX6_add_147
      · have hf := br_n c1 hf
        refine lv_aload_n hx hb dX6_add_83 rfl (lv_at hl 0 rfl) ?_
        refine g_X_now hx hb hown hK hW kF_RX6_12 dX6_add_84 ?_
        refine g_State_values (i := 0) hx hb hown hK hW (by omega) kF_RX6_94 dX6_add_87 ?_
        refine lv_iload hx hb dX6_add_90 (lv_at hl 5 rfl) ?_
        obtain ⟨hk4, hf⟩ := gd_inv hf
        refine l_St1 (i := 0) hx hb hK hW (by omega) rfl hk4 dX6_add_92 ?_
        refine lv_iload_n hx hb dX6_add_93 rfl (lv_at hl 1 rfl) ?_
        refine lv_iload_n hx hb dX6_add_94 rfl (lv_at hl 2 rfl) ?_
        refine lv_iload_n hx hb dX6_add_95 rfl (lv_at hl 3 rfl) ?_
        refine lv_iload hx hb dX6_add_96 (lv_at hl 5 rfl) ?_
        refine lv_iload_n hx hb dX6_add_98 rfl (lv_at hl 3 rfl) ?_
        obtain ⟨hz5, hf⟩ := gd_inv hf
        refine lv_irem hx hb dX6_add_99 hz5 ?_
        obtain ⟨r7, q6, hf⟩ := bd_inv hf
        refine ss_callSi (As := [.int a1, .int a2, .int a3, .int (x5 - x5 / a3 * a3)]) hx hb hml hown hK hW kb_X6_shape kM_RX6_107 (mX6_shape l (a0 := a1) (a1 := a2) (a2 := a3) (a3 := (x5 - x5 / a3 * a3)) q6) rfl dX6_add_100 rfl hl.1 (Nat.le_of_ble_eq_true rfl) ⟨Nat.le_of_ble_eq_true rfl, Nat.le_of_ble_eq_true rfl⟩ ⟨Nat.zero_le _, Nat.zero_le _⟩ (fun H locs hW => ?_)
        refine lv_iadd hx hb dX6_add_103 ?_
        refine lv_topi (fun x6_8 ex6_8 => ?_)
        have hf := nm_use ex6_8 hf
        refine lv_istore (lv' := [(6, .int x6_8), (0, .ref (eA E 0)), (1, .int a1), (2, .int a2), (3, .int a3), (4, .int x4), (5, .int x5)]) hx hb dX6_add_104 hl (by decide) rfl (fun ls hl => ?_)
        refine lv_aload_n hx hb dX6_add_106 rfl (lv_at hl 1 rfl) ?_
        refine g_X_now hx hb hown hK hW kF_RX6_12 dX6_add_107 ?_
        refine g_State_values (i := 0) hx hb hown hK hW (by omega) kF_RX6_94 dX6_add_110 ?_
        refine lv_iload hx hb dX6_add_113 (lv_at hl 6 rfl) ?_
        refine lv_iload hx hb dX6_add_115 (lv_at hl 0 rfl) ?_
        obtain ⟨r10, q9, hf⟩ := bd_inv hf
        refine ss_callSi (As := [.int x6_8]) hx hb hml hown hK hW kb_X6_clip kM_RX6_111 (mX6_clip l (a0 := x6_8) q9) rfl dX6_add_117 rfl hl.1 (Nat.le_of_ble_eq_true rfl) ⟨Nat.le_of_ble_eq_true rfl, Nat.le_of_ble_eq_true rfl⟩ ⟨Nat.zero_le _, Nat.zero_le _⟩ (fun H locs hW => ?_)
        obtain ⟨hk11, hf⟩ := gd_inv hf
        refine s_St1 (i := 0) hx hb hK hW (by omega) rfl hk11 dX6_add_120 (fun H locs hW => ?_)
        obtain ⟨s12, es12⟩ : ∃ y : Sg, y = (up2 σ (10 + 8 * 0 + 1) ((x5).toNatClampNeg) r10) := ⟨_, rfl⟩
        have hf := nm_use es12 hf
        rw [← es12] at hW
        refine lv_iload hx hb dX6_add_121 (lv_at hl 0 rfl) ?_
        obtain ⟨r14, q13, hf⟩ := bd_inv hf
        refine ss_callSi (As := [.int x6_8]) hx hb hml hown hK hW kb_X6_isValue kM_RX6_89 (mX6_isValue l (a0 := x6_8) q13) rfl dX6_add_123 rfl hl.1 (Nat.le_of_ble_eq_true rfl) ⟨Nat.le_of_ble_eq_true rfl, Nat.le_of_ble_eq_true rfl⟩ ⟨Nat.zero_le _, Nat.zero_le _⟩ (fun H locs hW => ?_)
        refine lv_if_ne (tgt := 132) hx hb dX6_add_126 (by decide) (fun c15 => ?_) (fun c15 => ?_)
        · have hf := br_n c15 hf
          obtain ⟨x5_16, ex5_16⟩ : ∃ y : Int32, y = (x5 + 1) := ⟨_, rfl⟩
          have hf := nm_use ex5_16 hf
          refine lv_iinc (v := x5_16) (lv' := [(5, .int x5_16), (6, .int x6_8), (0, .ref (eA E 0)), (1, .int a1), (2, .int a2), (3, .int a3), (4, .int x4)]) hx hb dX6_add_132 hl (k := 6) rfl (by rw [ex5_16]; rfl) (by decide) rfl (fun ls hl => ?_)
          refine lv_goto (tgt := 71) hx hb dX6_add_135 (by decide) ?_
          exact ih71 x4 x5_16 s12 _ _ _ hW (lv_sub hl [2, 3, 4, 5, 6, 0] rfl) hf
        · have hf := br_p c15 hf
          obtain ⟨x4_17, ex4_17⟩ : ∃ y : Int32, y = (x4 + 1) := ⟨_, rfl⟩
          have hf := nm_use ex4_17 hf
          refine lv_iinc (v := x4_17) (lv' := [(4, .int x4_17), (6, .int x6_8), (0, .ref (eA E 0)), (1, .int a1), (2, .int a2), (3, .int a3), (5, .int x5)]) hx hb dX6_add_129 hl (k := 5) rfl (by rw [ex4_17]; rfl) (by decide) rfl (fun ls hl => ?_)
          obtain ⟨x5_18, ex5_18⟩ : ∃ y : Int32, y = (x5 + 1) := ⟨_, rfl⟩
          have hf := nm_use ex5_18 hf
          refine lv_iinc (v := x5_18) (lv' := [(5, .int x5_18), (4, .int x4_17), (6, .int x6_8), (0, .ref (eA E 0)), (1, .int a1), (2, .int a2), (3, .int a3)]) hx hb dX6_add_132 hl (k := 6) rfl (by rw [ex5_18]; rfl) (by decide) rfl (fun ls hl => ?_)
          refine lv_goto (tgt := 71) hx hb dX6_add_135 (by decide) ?_
          exact ih71 x4_17 x5_18 s12 _ _ _ hW (lv_sub hl [3, 4, 5, 6, 1, 0] rfl) hf
  refine lv_iload_n hx hb dX6_add_0 rfl (lv_at hl 1 rfl) ?_
  refine lv_if_lt (tgt := 9) hx hb dX6_add_1 (by decide) (fun c19 => ?_) (fun c19 => ?_)
  · have hf := br_p c19 hf
    cases hf
    exact ss_throwS hx hb hfl hlk hex hml hl.1 hown hK hW (k0 := 0) (text := "a kind is 0 to 2") (by simp [strs]) kL_RX6_62 kT_0_66 dX6_add_9 dX6_add_12 dX6_add_13 dX6_add_15 dX6_add_18 (Nat.le_of_ble_eq_true rfl) (Nat.le_of_ble_eq_true rfl) ⟨Nat.le_refl 1, Nat.le_refl 6⟩
  · have hf := br_n c19 hf
    refine lv_iload_n hx hb dX6_add_4 rfl (lv_at hl 1 rfl) ?_
    refine lv_iconst (v := 2) hx hb dX6_add_5 (by decide) ?_
    refine lv_icmp_le (tgt := 19) hx hb dX6_add_6 (by decide) (fun c20 => ?_) (fun c20 => ?_)
    · have hf := br_p c20 hf
      refine lv_iload_n hx hb dX6_add_19 rfl (lv_at hl 2 rfl) ?_
      refine lv_if_lt (tgt := 30) hx hb dX6_add_20 (by decide) (fun c21 => ?_) (fun c21 => ?_)
      · have hf := br_p c21 hf
        cases hf
        exact ss_throwS hx hb hfl hlk hex hml hl.1 hown hK hW (k0 := 0) (text := "a height is 0 to 2047") (by simp [strs]) kL_RX6_62 kT_0_66 dX6_add_30 dX6_add_33 dX6_add_34 dX6_add_36 dX6_add_39 (Nat.le_of_ble_eq_true rfl) (Nat.le_of_ble_eq_true rfl) ⟨Nat.le_refl 1, Nat.le_refl 6⟩
      · have hf := br_n c21 hf
        refine lv_iload_n hx hb dX6_add_23 rfl (lv_at hl 2 rfl) ?_
        refine lv_sipush (v := 2047) hx hb dX6_add_24 (by decide) ?_
        refine lv_icmp_le (tgt := 40) hx hb dX6_add_27 (by decide) (fun c22 => ?_) (fun c22 => ?_)
        · have hf := br_p c22 hf
          refine lv_iload_n hx hb dX6_add_40 rfl (lv_at hl 3 rfl) ?_
          refine lv_iconst (v := 1) hx hb dX6_add_41 (by decide) ?_
          refine lv_icmp_lt (tgt := 51) hx hb dX6_add_42 (by decide) (fun c23 => ?_) (fun c23 => ?_)
          · have hf := br_p c23 hf
            cases hf
            exact ss_throwS hx hb hfl hlk hex hml hl.1 hown hK hW (k0 := 0) (text := "a period is 1 to 64") (by simp [strs]) kL_RX6_62 kT_0_66 dX6_add_51 dX6_add_54 dX6_add_55 dX6_add_57 dX6_add_60 (Nat.le_of_ble_eq_true rfl) (Nat.le_of_ble_eq_true rfl) ⟨Nat.le_refl 1, Nat.le_refl 6⟩
          · have hf := br_n c23 hf
            refine lv_iload_n hx hb dX6_add_45 rfl (lv_at hl 3 rfl) ?_
            refine lv_bipush (v := 64) hx hb dX6_add_46 (by decide) ?_
            refine lv_icmp_le (tgt := 61) hx hb dX6_add_48 (by decide) (fun c24 => ?_) (fun c24 => ?_)
            · have hf := br_p c24 hf
              refine lv_aload_n hx hb dX6_add_61 rfl (lv_at hl 0 rfl) ?_
              obtain ⟨s26, q25, hf⟩ := bd_inv hf
              refine ss_callVv (As := []) hx hb hml hown hK hW kb_X6_beginChange kM_RX6_69 rfl (by decide) (c_fx (by decide)) (mX6_beginChange l  q25) rfl dX6_add_62 rfl hl.1 (Nat.le_of_ble_eq_true rfl) ⟨Nat.le_of_ble_eq_true rfl, Nat.le_of_ble_eq_true rfl⟩ ⟨Nat.zero_le _, Nat.zero_le _⟩ (fun H locs hW => ?_)
              refine lv_iconst (v := 0) hx hb dX6_add_65 (by decide) ?_
              refine lv_istore (lv' := [(4, .int 0), (0, .ref (eA E 0)), (1, .int a1), (2, .int a2), (3, .int a3)]) hx hb dX6_add_66 hl (by decide) rfl (fun ls hl => ?_)
              refine lv_iconst (v := 0) hx hb dX6_add_68 (by decide) ?_
              refine lv_istore (lv' := [(5, .int 0), (4, .int 0), (0, .ref (eA E 0)), (1, .int a1), (2, .int a2), (3, .int a3)]) hx hb dX6_add_69 hl (by decide) rfl (fun ls hl => ?_)
              exact h71 80 0 0 s26 _ _ _ hW (lv_sub hl [2, 3, 4, 5, 1, 0] rfl) hf
            · have hf := br_n c24 hf
              cases hf
              exact ss_throwS hx hb hfl hlk hex hml hl.1 hown hK hW (k0 := 0) (text := "a period is 1 to 64") (by simp [strs]) kL_RX6_62 kT_0_66 dX6_add_51 dX6_add_54 dX6_add_55 dX6_add_57 dX6_add_60 (Nat.le_of_ble_eq_true rfl) (Nat.le_of_ble_eq_true rfl) ⟨Nat.le_refl 1, Nat.le_refl 6⟩
        · have hf := br_n c22 hf
          cases hf
          exact ss_throwS hx hb hfl hlk hex hml hl.1 hown hK hW (k0 := 0) (text := "a height is 0 to 2047") (by simp [strs]) kL_RX6_62 kT_0_66 dX6_add_30 dX6_add_33 dX6_add_34 dX6_add_36 dX6_add_39 (Nat.le_of_ble_eq_true rfl) (Nat.le_of_ble_eq_true rfl) ⟨Nat.le_refl 1, Nat.le_refl 6⟩
    · have hf := br_n c20 hf
      cases hf
      exact ss_throwS hx hb hfl hlk hex hml hl.1 hown hK hW (k0 := 0) (text := "a kind is 0 to 2") (by simp [strs]) kL_RX6_62 kT_0_66 dX6_add_9 dX6_add_12 dX6_add_13 dX6_add_15 dX6_add_18 (Nat.le_of_ble_eq_true rfl) (Nat.le_of_ble_eq_true rfl) ⟨Nat.le_refl 1, Nat.le_refl 6⟩
def fX6_append (a1 : Int32) (σ : Sg) : Option ((Int32 ⊕ Nat) × Sg) := if a1 < 33 then (some (.inr 0, σ)) else (if a1 ≤ 126 then (bd (fX0_isFull σ) fun r4 => if r4 = 0 then (bd (fX0_put a1 σ) fun s7 => some (.inl (s7 5 1), s7)) else (some (.inr 2, σ))) else (some (.inr 0, σ)))
set_option maxHeartbeats 4000000 in
set_option maxRecDepth 100000 in
theorem mX6_append (l : Launch) (hfl : l.stackTraces = false) {E : En} {σ μ : Sg} {dg : Int64} {a1 : Int32}  {res : Int32 ⊕ Nat} {σ' : Sg} (hf : fX6_append a1 σ = some (res, σ')) : vx_Met l yX6_append [.code yX6_append cX6_append 2 (some .int)] (RmX res 6 90) (va_Pc [.ref (eA E 0), .int a1] (Wd E σ μ dg)) (Qxi E σ' μ dg res) (Xx E σ' μ dg res) (xc res) (xs6 res) (eP E) := by
  refine ss_ofX (by decide) (Nat.le_of_ble_eq_true rfl) (fun p e s m below meth c hx hb hr hlk hml hown hex hK hW ls hl => ?_)
  have hown : s.vm.findClass RX6 = some m.cls := hown
  have hl : lv_has ls 2 [(0, .ref (eA E 0)), (1, .int a1)] := hl
  unfold fX6_append at hf
  refine lv_iload_n hx hb dX6_append_0 rfl (lv_at hl 1 rfl) ?_
  refine lv_bipush (v := 33) hx hb dX6_append_1 (by decide) ?_
  refine lv_icmp_lt (tgt := 12) hx hb dX6_append_3 (by decide) (fun c1 => ?_) (fun c1 => ?_)
  · have hf := br_p c1 hf
    cases hf
    exact ss_throwS hx hb hfl hlk hex hml hl.1 hown hK hW (k0 := 0) (text := "a character code is 33 to 126") (by simp [strs]) kL_RX6_62 kT_0_66 dX6_append_12 dX6_append_15 dX6_append_16 dX6_append_18 dX6_append_21 (Nat.le_of_ble_eq_true rfl) (Nat.le_of_ble_eq_true rfl) ⟨Nat.le_refl 1, Nat.le_refl 6⟩
  · have hf := br_n c1 hf
    refine lv_iload_n hx hb dX6_append_6 rfl (lv_at hl 1 rfl) ?_
    refine lv_bipush (v := 126) hx hb dX6_append_7 (by decide) ?_
    refine lv_icmp_le (tgt := 22) hx hb dX6_append_9 (by decide) (fun c2 => ?_) (fun c2 => ?_)
    · have hf := br_p c2 hf
      refine lv_aload_n hx hb dX6_append_22 rfl (lv_at hl 0 rfl) ?_
      refine g_X_buffer hx hb hown hK hW kF_RX6_34 dX6_append_23 ?_
      obtain ⟨r4, q3, hf⟩ := bd_inv hf
      refine ss_callVi (As := []) hx hb hml hown hK hW kb_X0_isFull kM_RX6_186 rfl (by decide) (c_fx (by decide)) (mX0_isFull l  q3) rfl dX6_append_26 rfl hl.1 (Nat.le_of_ble_eq_true rfl) ⟨Nat.le_of_ble_eq_true rfl, Nat.le_of_ble_eq_true rfl⟩ ⟨Nat.zero_le _, Nat.zero_le _⟩ (fun H locs hW => ?_)
      refine lv_if_eq (tgt := 42) hx hb dX6_append_29 (by decide) (fun c5 => ?_) (fun c5 => ?_)
      · have hf := br_p c5 hf
        refine lv_aload_n hx hb dX6_append_42 rfl (lv_at hl 0 rfl) ?_
        refine g_X_buffer hx hb hown hK hW kF_RX6_34 dX6_append_43 ?_
        refine lv_iload_n hx hb dX6_append_46 rfl (lv_at hl 1 rfl) ?_
        obtain ⟨s7, q6, hf⟩ := bd_inv hf
        refine ss_callVv (As := [.int a1]) hx hb hml hown hK hW kb_X0_put kM_RX6_191 rfl (by decide) (c_fx (by decide)) (mX0_put l (a1 := a1) q6) rfl dX6_append_47 rfl hl.1 (Nat.le_of_ble_eq_true rfl) ⟨Nat.le_of_ble_eq_true rfl, Nat.le_of_ble_eq_true rfl⟩ ⟨Nat.zero_le _, Nat.zero_le _⟩ (fun H locs hW => ?_)
        refine lv_aload_n hx hb dX6_append_50 rfl (lv_at hl 0 rfl) ?_
        refine g_X_buffer hx hb hown hK hW kF_RX6_34 dX6_append_51 ?_
        refine g_BT_length hx hb hown hK hW kF_RX6_194 dX6_append_54 ?_
        cases hf
        exact ss_ixret hx hb hr hlk hW dX6_append_57
      · have hf := br_n c5 hf
        cases hf
        exact ss_throwS hx hb hfl hlk hex hml hl.1 hown hK hW (k0 := 2) (text := "the buffer is full") (by simp [strs]) kL_RX6_119 kT_2_123 dX6_append_32 dX6_append_35 dX6_append_36 dX6_append_38 dX6_append_41 (Nat.le_of_ble_eq_true rfl) (Nat.le_of_ble_eq_true rfl) ⟨Nat.le_refl 1, Nat.le_refl 6⟩
    · have hf := br_n c2 hf
      cases hf
      exact ss_throwS hx hb hfl hlk hex hml hl.1 hown hK hW (k0 := 0) (text := "a character code is 33 to 126") (by simp [strs]) kL_RX6_62 kT_0_66 dX6_append_12 dX6_append_15 dX6_append_16 dX6_append_18 dX6_append_21 (Nat.le_of_ble_eq_true rfl) (Nat.le_of_ble_eq_true rfl) ⟨Nat.le_refl 1, Nat.le_refl 6⟩
def fX6_refuseUnlessSamples (a1 : Int32) (a2 : Int32) (σ : Sg) : Option ((Unit ⊕ Nat) × Sg) := bd (fX4_hasSample 0 a1 σ) fun r2 => if r2 = 0 then (some (.inr 1, σ)) else (if a2 < 1 then (some (.inr 1, σ)) else (if a2 ≤ ((σ (10 + 8 * 0) 0) - a1) then (some (.inl (), σ)) else (some (.inr 1, σ))))
set_option maxHeartbeats 4000000 in
set_option maxRecDepth 100000 in
theorem mX6_refuseUnlessSamples (l : Launch) (hfl : l.stackTraces = false) {E : En} {σ μ : Sg} {dg : Int64} {a1 : Int32} {a2 : Int32}  {res : Unit ⊕ Nat} {σ' : Sg} (hf : fX6_refuseUnlessSamples a1 a2 σ = some (res, σ')) : vx_Met l yX6_refuseUnlessSamples [.code yX6_refuseUnlessSamples cX6_refuseUnlessSamples 3 none] (RmX res 6 90) (va_Pc [.ref (eA E 0), .int a1, .int a2] (Wd E σ μ dg)) (Qxv E σ' μ dg res) (Xx E σ' μ dg res) (xc res) (xs6 res) (eP E) := by
  refine ss_ofX (by decide) (Nat.le_of_ble_eq_true rfl) (fun p e s m below meth c hx hb hr hlk hml hown hex hK hW ls hl => ?_)
  have hown : s.vm.findClass RX6 = some m.cls := hown
  have hl : lv_has ls 3 [(0, .ref (eA E 0)), (1, .int a1), (2, .int a2)] := hl
  unfold fX6_refuseUnlessSamples at hf
  refine lv_aload_n hx hb dX6_refuseUnlessSamples_0 rfl (lv_at hl 0 rfl) ?_
  refine g_X_now hx hb hown hK hW kF_RX6_12 dX6_refuseUnlessSamples_1 ?_
  refine lv_iload_n hx hb dX6_refuseUnlessSamples_4 rfl (lv_at hl 1 rfl) ?_
  obtain ⟨r2, q1, hf⟩ := bd_inv hf
  refine ss_callVi (As := [.int a1]) hx hb hml hown hK hW kb_X4_hasSample kM_RX6_80 rfl (by omega) (c_st (i := 0) (by omega) 0 (by decide)) (mX4_hasSample l (i0 := 0) (a1 := a1) (by omega) q1) rfl dX6_refuseUnlessSamples_5 rfl hl.1 (Nat.le_of_ble_eq_true rfl) ⟨Nat.le_of_ble_eq_true rfl, Nat.le_of_ble_eq_true rfl⟩ ⟨Nat.zero_le _, Nat.zero_le _⟩ (fun H locs hW => ?_)
  refine lv_if_eq (tgt := 29) hx hb dX6_refuseUnlessSamples_8 (by decide) (fun c3 => ?_) (fun c3 => ?_)
  · have hf := br_p c3 hf
    cases hf
    exact ss_throwW hx hb hfl hlk hex hml hl.1 hown hK hW (k0 := 1) (text := "there are not all these samples") (by simp [strs]) kL_RX6_84 kT_1_88 dX6_refuseUnlessSamples_29 dX6_refuseUnlessSamples_32 dX6_refuseUnlessSamples_33 dX6_refuseUnlessSamples_36 dX6_refuseUnlessSamples_39 (Nat.le_of_ble_eq_true rfl) (Nat.le_of_ble_eq_true rfl) ⟨Nat.le_refl 1, Nat.le_refl 6⟩
  · have hf := br_n c3 hf
    refine lv_iload_n hx hb dX6_refuseUnlessSamples_11 rfl (lv_at hl 2 rfl) ?_
    refine lv_iconst (v := 1) hx hb dX6_refuseUnlessSamples_12 (by decide) ?_
    refine lv_icmp_lt (tgt := 29) hx hb dX6_refuseUnlessSamples_13 (by decide) (fun c4 => ?_) (fun c4 => ?_)
    · have hf := br_p c4 hf
      cases hf
      exact ss_throwW hx hb hfl hlk hex hml hl.1 hown hK hW (k0 := 1) (text := "there are not all these samples") (by simp [strs]) kL_RX6_84 kT_1_88 dX6_refuseUnlessSamples_29 dX6_refuseUnlessSamples_32 dX6_refuseUnlessSamples_33 dX6_refuseUnlessSamples_36 dX6_refuseUnlessSamples_39 (Nat.le_of_ble_eq_true rfl) (Nat.le_of_ble_eq_true rfl) ⟨Nat.le_refl 1, Nat.le_refl 6⟩
    · have hf := br_n c4 hf
      refine lv_iload_n hx hb dX6_refuseUnlessSamples_16 rfl (lv_at hl 2 rfl) ?_
      refine lv_aload_n hx hb dX6_refuseUnlessSamples_17 rfl (lv_at hl 0 rfl) ?_
      refine g_X_now hx hb hown hK hW kF_RX6_12 dX6_refuseUnlessSamples_18 ?_
      refine g_State_many (i := 0) hx hb hown hK hW (by omega) kF_RX6_72 dX6_refuseUnlessSamples_21 ?_
      refine lv_iload_n hx hb dX6_refuseUnlessSamples_24 rfl (lv_at hl 1 rfl) ?_
      refine lv_isub hx hb dX6_refuseUnlessSamples_25 ?_
      refine lv_icmp_le (tgt := 40) hx hb dX6_refuseUnlessSamples_26 (by decide) (fun c5 => ?_) (fun c5 => ?_)
      · have hf := br_p c5 hf
        cases hf
        exact ss_vxret hx hb hr hlk hW dX6_refuseUnlessSamples_40
      · have hf := br_n c5 hf
        cases hf
        exact ss_throwW hx hb hfl hlk hex hml hl.1 hown hK hW (k0 := 1) (text := "there are not all these samples") (by simp [strs]) kL_RX6_84 kT_1_88 dX6_refuseUnlessSamples_29 dX6_refuseUnlessSamples_32 dX6_refuseUnlessSamples_33 dX6_refuseUnlessSamples_36 dX6_refuseUnlessSamples_39 (Nat.le_of_ble_eq_true rfl) (Nat.le_of_ble_eq_true rfl) ⟨Nat.le_refl 1, Nat.le_refl 6⟩
def fX6_bestStep (a1 : Int32) (a2 : Int32) (σ : Sg) : Option ((Int32 ⊕ Nat) × Sg) := bx (fX6_refuseUnlessSamples a1 a2 σ) fun r2 s3 => bd2 (fX1_bestStart 0 a1 (a1 + a2) s3) fun r7 s8 => some (.inl r7, s8)
set_option maxHeartbeats 4000000 in
set_option maxRecDepth 100000 in
theorem mX6_bestStep (l : Launch) (hfl : l.stackTraces = false) {E : En} {σ μ : Sg} {dg : Int64} {a1 : Int32} {a2 : Int32}  {res : Int32 ⊕ Nat} {σ' : Sg} (hf : fX6_bestStep a1 a2 σ = some (res, σ')) : vx_Met l yX6_bestStep [.code yX6_bestStep cX6_bestStep 3 (some .int)] (RmX res 7 119) (va_Pc [.ref (eA E 0), .int a1, .int a2] (Wd E σ μ dg)) (Qxi E σ' μ dg res) (Xx E σ' μ dg res) (xc res) (xs6 res) (eP E) := by
  refine ss_ofX (by decide) (Nat.le_of_ble_eq_true rfl) (fun p e s m below meth c hx hb hr hlk hml hown hex hK hW ls hl => ?_)
  have hown : s.vm.findClass RX6 = some m.cls := hown
  have hl : lv_has ls 3 [(0, .ref (eA E 0)), (1, .int a1), (2, .int a2)] := hl
  unfold fX6_bestStep at hf
  refine lv_aload_n hx hb dX6_bestStep_0 rfl (lv_at hl 0 rfl) ?_
  refine lv_iload_n hx hb dX6_bestStep_1 rfl (lv_at hl 1 rfl) ?_
  refine lv_iload_n hx hb dX6_bestStep_2 rfl (lv_at hl 2 rfl) ?_
  rcases bx_inv hf with ⟨r2, s3, q1, hf⟩ | ⟨ex4, s5, q1, hf⟩
  rotate_left
  · cases hf
    exact ss_xthrVv (As := [.int a1, .int a2]) hx hb hlk hex hml hown hK hW kb_X6_refuseUnlessSamples kM_RX6_305 rfl (by decide) (c_fx (by decide)) (mX6_refuseUnlessSamples l hfl (a1 := a1) (a2 := a2) q1) rfl dX6_bestStep_3 rfl hl.1 (Nat.le_of_ble_eq_true rfl) ⟨Nat.le_of_ble_eq_true rfl, Nat.le_of_ble_eq_true rfl⟩ ⟨Nat.le_refl 1, Nat.le_refl 6⟩
  refine ss_xcallVv (As := [.int a1, .int a2]) hx hb hml hown hK hW kb_X6_refuseUnlessSamples kM_RX6_305 rfl (by decide) (c_fx (by decide)) (mX6_refuseUnlessSamples l hfl (a1 := a1) (a2 := a2) q1) rfl dX6_bestStep_3 rfl hl.1 (Nat.le_of_ble_eq_true rfl) ⟨Nat.le_of_ble_eq_true rfl, Nat.le_of_ble_eq_true rfl⟩ ⟨Nat.zero_le _, Nat.zero_le _⟩ (fun H locs hW => ?_)
  refine lv_aload_n hx hb dX6_bestStep_6 rfl (lv_at hl 0 rfl) ?_
  refine g_X_coder hx hb hown hK hW kF_RX6_41 dX6_bestStep_7 ?_
  refine lv_aload_n hx hb dX6_bestStep_10 rfl (lv_at hl 0 rfl) ?_
  refine g_X_now hx hb hown hK hW kF_RX6_12 dX6_bestStep_11 ?_
  refine lv_iload_n hx hb dX6_bestStep_14 rfl (lv_at hl 1 rfl) ?_
  refine lv_iload_n hx hb dX6_bestStep_15 rfl (lv_at hl 1 rfl) ?_
  refine lv_iload_n hx hb dX6_bestStep_16 rfl (lv_at hl 2 rfl) ?_
  refine lv_iadd hx hb dX6_bestStep_17 ?_
  obtain ⟨r7, s8, q6, hf⟩ := bd2_inv hf
  refine ss_callVi (As := [.ref (eA E (10 + 8 * 0)), .int a1, .int (a1 + a2)]) hx hb hml hown hK hW kb_X1_bestStart kM_RX6_312 rfl (by decide) (c_fx (by decide)) (mX1_bestStart l (i1 := 0) (a2 := a1) (a3 := (a1 + a2)) (by omega) q6) rfl dX6_bestStep_18 rfl hl.1 (Nat.le_of_ble_eq_true rfl) ⟨Nat.le_of_ble_eq_true rfl, Nat.le_of_ble_eq_true rfl⟩ ⟨Nat.zero_le _, Nat.zero_le _⟩ (fun H locs hW => ?_)
  cases hf
  exact ss_ixret hx hb hr hlk hW dX6_bestStep_21
def fX6_refuseUnlessBlock (a1 : Int32) (σ : Sg) : Option ((Unit ⊕ Nat) × Sg) := bd (fX4_hasBlock 0 a1 σ) fun r2 => if r2 = 0 then (some (.inr 1, σ)) else (some (.inl (), σ))
set_option maxHeartbeats 4000000 in
set_option maxRecDepth 100000 in
theorem mX6_refuseUnlessBlock (l : Launch) (hfl : l.stackTraces = false) {E : En} {σ μ : Sg} {dg : Int64} {a1 : Int32}  {res : Unit ⊕ Nat} {σ' : Sg} (hf : fX6_refuseUnlessBlock a1 σ = some (res, σ')) : vx_Met l yX6_refuseUnlessBlock [.code yX6_refuseUnlessBlock cX6_refuseUnlessBlock 2 none] (RmX res 6 90) (va_Pc [.ref (eA E 0), .int a1] (Wd E σ μ dg)) (Qxv E σ' μ dg res) (Xx E σ' μ dg res) (xc res) (xs6 res) (eP E) := by
  refine ss_ofX (by decide) (Nat.le_of_ble_eq_true rfl) (fun p e s m below meth c hx hb hr hlk hml hown hex hK hW ls hl => ?_)
  have hown : s.vm.findClass RX6 = some m.cls := hown
  have hl : lv_has ls 2 [(0, .ref (eA E 0)), (1, .int a1)] := hl
  unfold fX6_refuseUnlessBlock at hf
  refine lv_aload_n hx hb dX6_refuseUnlessBlock_0 rfl (lv_at hl 0 rfl) ?_
  refine g_X_now hx hb hown hK hW kF_RX6_12 dX6_refuseUnlessBlock_1 ?_
  refine lv_iload_n hx hb dX6_refuseUnlessBlock_4 rfl (lv_at hl 1 rfl) ?_
  obtain ⟨r2, q1, hf⟩ := bd_inv hf
  refine ss_callVi (As := [.int a1]) hx hb hml hown hK hW kb_X4_hasBlock kM_RX6_357 rfl (by omega) (c_st (i := 0) (by omega) 0 (by decide)) (mX4_hasBlock l (i0 := 0) (a1 := a1) (by omega) q1) rfl dX6_refuseUnlessBlock_5 rfl hl.1 (Nat.le_of_ble_eq_true rfl) ⟨Nat.le_of_ble_eq_true rfl, Nat.le_of_ble_eq_true rfl⟩ ⟨Nat.zero_le _, Nat.zero_le _⟩ (fun H locs hW => ?_)
  refine lv_if_ne (tgt := 22) hx hb dX6_refuseUnlessBlock_8 (by decide) (fun c3 => ?_) (fun c3 => ?_)
  · have hf := br_n c3 hf
    cases hf
    exact ss_vxret hx hb hr hlk hW dX6_refuseUnlessBlock_22
  · have hf := br_p c3 hf
    cases hf
    exact ss_throwW hx hb hfl hlk hex hml hl.1 hown hK hW (k0 := 1) (text := "no such block") (by simp [strs]) kL_RX6_84 kT_1_88 dX6_refuseUnlessBlock_11 dX6_refuseUnlessBlock_14 dX6_refuseUnlessBlock_15 dX6_refuseUnlessBlock_18 dX6_refuseUnlessBlock_21 (Nat.le_of_ble_eq_true rfl) (Nat.le_of_ble_eq_true rfl) ⟨Nat.le_refl 1, Nat.le_refl 6⟩
def fX6_blockOf (a1 : Int32) (a2 : Int32) (σ : Sg) : Option ((Int32 ⊕ Nat) × Sg) := bx (fX6_refuseUnlessBlock a1 σ) fun r2 s3 => if a2 < 0 then (some (.inr 0, s3)) else (if a2 < 6 then (if a2 = 0 then (bd (fX4_endOf 0 a1 s3) fun r10 => bd (fX4_startOf 0 a1 s3) fun r12 => some (.inl (r10 - r12), s3)) else (if a2 = 1 then (gd (¬ (a1 < 0 ∨ 32 ≤ (a1).toNatClampNeg)) <| some (.inl ((s3 (10 + 8 * 0 + 3) (a1).toNatClampNeg) + 10000), s3)) else (if a2 = 2 then (gd (¬ (a1 < 0 ∨ 32 ≤ (a1).toNatClampNeg)) <| some (.inl (s3 (10 + 8 * 0 + 4) (a1).toNatClampNeg), s3)) else (if a2 = 3 then (gd (¬ (a1 < 0 ∨ 32 ≤ (a1).toNatClampNeg)) <| if (s3 (10 + 8 * 0 + 5) (a1).toNatClampNeg) = 0 then (some (.inl 0, s3)) else (some (.inl 1, s3))) else (if a2 = 4 then (bd (fX2_decode 0 0 s3) fun s22 => bd (fX4_startOf 0 a1 s22) fun r24 => bd (fX4_endOf 0 a1 s22) fun r26 => bd (fX2_errorOf 0 0 r24 r26 s22) fun r28 => some (.inl r28, s22)) else (bd2 (fX6_leadOf a1 s3) fun r30 s31 => some (.inl r30, s31))))))) else (some (.inr 0, s3)))
set_option maxHeartbeats 4000000 in
set_option maxRecDepth 100000 in
theorem mX6_blockOf (l : Launch) (hfl : l.stackTraces = false) {E : En} {σ μ : Sg} {dg : Int64} {a1 : Int32} {a2 : Int32}  {res : Int32 ⊕ Nat} {σ' : Sg} (hf : fX6_blockOf a1 a2 σ = some (res, σ')) : vx_Met l yX6_blockOf [.code yX6_blockOf cX6_blockOf 3 (some .int)] (RmX res 7 111) (va_Pc [.ref (eA E 0), .int a1, .int a2] (Wd E σ μ dg)) (Qxi E σ' μ dg res) (Xx E σ' μ dg res) (xc res) (xs6 res) (eP E) := by
  refine ss_ofX (by decide) (Nat.le_of_ble_eq_true rfl) (fun p e s m below meth c hx hb hr hlk hml hown hex hK hW ls hl => ?_)
  have hown : s.vm.findClass RX6 = some m.cls := hown
  have hl : lv_has ls 3 [(0, .ref (eA E 0)), (1, .int a1), (2, .int a2)] := hl
  unfold fX6_blockOf at hf
  refine lv_aload_n hx hb dX6_blockOf_0 rfl (lv_at hl 0 rfl) ?_
  refine lv_iload_n hx hb dX6_blockOf_1 rfl (lv_at hl 1 rfl) ?_
  rcases bx_inv hf with ⟨r2, s3, q1, hf⟩ | ⟨ex4, s5, q1, hf⟩
  rotate_left
  · cases hf
    exact ss_xthrVv (As := [.int a1]) hx hb hlk hex hml hown hK hW kb_X6_refuseUnlessBlock kM_RX6_161 rfl (by decide) (c_fx (by decide)) (mX6_refuseUnlessBlock l hfl (a1 := a1) q1) rfl dX6_blockOf_2 rfl hl.1 (Nat.le_of_ble_eq_true rfl) ⟨Nat.le_of_ble_eq_true rfl, Nat.le_of_ble_eq_true rfl⟩ ⟨Nat.le_refl 1, Nat.le_refl 6⟩
  refine ss_xcallVv (As := [.int a1]) hx hb hml hown hK hW kb_X6_refuseUnlessBlock kM_RX6_161 rfl (by decide) (c_fx (by decide)) (mX6_refuseUnlessBlock l hfl (a1 := a1) q1) rfl dX6_blockOf_2 rfl hl.1 (Nat.le_of_ble_eq_true rfl) ⟨Nat.le_of_ble_eq_true rfl, Nat.le_of_ble_eq_true rfl⟩ ⟨Nat.zero_le _, Nat.zero_le _⟩ (fun H locs hW => ?_)
  refine lv_iload_n hx hb dX6_blockOf_5 rfl (lv_at hl 2 rfl) ?_
  refine lv_if_lt (tgt := 15) hx hb dX6_blockOf_6 (by decide) (fun c6 => ?_) (fun c6 => ?_)
  · have hf := br_p c6 hf
    cases hf
    exact ss_throwS hx hb hfl hlk hex hml hl.1 hown hK hW (k0 := 0) (text := "no such property") (by simp [strs]) kL_RX6_62 kT_0_66 dX6_blockOf_15 dX6_blockOf_18 dX6_blockOf_19 dX6_blockOf_21 dX6_blockOf_24 (Nat.le_of_ble_eq_true rfl) (Nat.le_of_ble_eq_true rfl) ⟨Nat.le_refl 1, Nat.le_refl 6⟩
  · have hf := br_n c6 hf
    refine lv_iload_n hx hb dX6_blockOf_9 rfl (lv_at hl 2 rfl) ?_
    refine lv_bipush (v := 6) hx hb dX6_blockOf_10 (by decide) ?_
    refine lv_icmp_lt (tgt := 25) hx hb dX6_blockOf_12 (by decide) (fun c7 => ?_) (fun c7 => ?_)
    · have hf := br_p c7 hf
      refine lv_iload_n hx hb dX6_blockOf_25 rfl (lv_at hl 2 rfl) ?_
      by_cases c8 : a2 = 0
      · have hf := br_p c8 hf
        refine lv_tableIn (tgt := 60) hx hb dX6_blockOf_26 (by rw [c8]; decide) (by rw [c8]; decide) (by rw [c8]; rfl) (by decide) ?_
        refine lv_aload_n hx hb dX6_blockOf_60 rfl (lv_at hl 0 rfl) ?_
        refine g_X_now hx hb hown hK hW kF_RX6_12 dX6_blockOf_61 ?_
        refine lv_iload_n hx hb dX6_blockOf_64 rfl (lv_at hl 1 rfl) ?_
        obtain ⟨r10, q9, hf⟩ := bd_inv hf
        refine ss_callVi (As := [.int a1]) hx hb hml hown hK hW kb_X4_endOf kM_RX6_257 rfl (by omega) (c_st (i := 0) (by omega) 0 (by decide)) (mX4_endOf l (i0 := 0) (a1 := a1) (by omega) q9) rfl dX6_blockOf_65 rfl hl.1 (Nat.le_of_ble_eq_true rfl) ⟨Nat.le_of_ble_eq_true rfl, Nat.le_of_ble_eq_true rfl⟩ ⟨Nat.zero_le _, Nat.zero_le _⟩ (fun H locs hW => ?_)
        refine lv_aload_n hx hb dX6_blockOf_68 rfl (lv_at hl 0 rfl) ?_
        refine g_X_now hx hb hown hK hW kF_RX6_12 dX6_blockOf_69 ?_
        refine lv_iload_n hx hb dX6_blockOf_72 rfl (lv_at hl 1 rfl) ?_
        obtain ⟨r12, q11, hf⟩ := bd_inv hf
        refine ss_callVi (As := [.int a1]) hx hb hml hown hK hW kb_X4_startOf kM_RX6_260 rfl (by omega) (c_st (i := 0) (by omega) 0 (by decide)) (mX4_startOf l (i0 := 0) (a1 := a1) (by omega) q11) rfl dX6_blockOf_73 rfl hl.1 (Nat.le_of_ble_eq_true rfl) ⟨Nat.le_of_ble_eq_true rfl, Nat.le_of_ble_eq_true rfl⟩ ⟨Nat.zero_le _, Nat.zero_le _⟩ (fun H locs hW => ?_)
        refine lv_isub hx hb dX6_blockOf_76 ?_
        cases hf
        exact ss_ixret hx hb hr hlk hW dX6_blockOf_77
      have hf := br_n c8 hf
      by_cases c13 : a2 = 1
      · have hf := br_p c13 hf
        refine lv_tableIn (tgt := 78) hx hb dX6_blockOf_26 (by rw [c13]; decide) (by rw [c13]; decide) (by rw [c13]; rfl) (by decide) ?_
        refine lv_aload_n hx hb dX6_blockOf_78 rfl (lv_at hl 0 rfl) ?_
        refine g_X_now hx hb hown hK hW kF_RX6_12 dX6_blockOf_79 ?_
        refine g_State_firsts (i := 0) hx hb hown hK hW (by omega) kF_RX6_263 dX6_blockOf_82 ?_
        refine lv_iload_n hx hb dX6_blockOf_85 rfl (lv_at hl 1 rfl) ?_
        obtain ⟨hk14, hf⟩ := gd_inv hf
        refine l_St3 (i := 0) hx hb hK hW (by omega) rfl hk14 dX6_blockOf_86 ?_
        refine lv_sipush (v := 10000) hx hb dX6_blockOf_87 (by decide) ?_
        refine lv_iadd hx hb dX6_blockOf_90 ?_
        cases hf
        exact ss_ixret hx hb hr hlk hW dX6_blockOf_91
      have hf := br_n c13 hf
      by_cases c15 : a2 = 2
      · have hf := br_p c15 hf
        refine lv_tableIn (tgt := 92) hx hb dX6_blockOf_26 (by rw [c15]; decide) (by rw [c15]; decide) (by rw [c15]; rfl) (by decide) ?_
        refine lv_aload_n hx hb dX6_blockOf_92 rfl (lv_at hl 0 rfl) ?_
        refine g_X_now hx hb hown hK hW kF_RX6_12 dX6_blockOf_93 ?_
        refine g_State_starts (i := 0) hx hb hown hK hW (by omega) kF_RX6_266 dX6_blockOf_96 ?_
        refine lv_iload_n hx hb dX6_blockOf_99 rfl (lv_at hl 1 rfl) ?_
        obtain ⟨hk16, hf⟩ := gd_inv hf
        refine l_St4 (i := 0) hx hb hK hW (by omega) rfl hk16 dX6_blockOf_100 ?_
        cases hf
        exact ss_ixret hx hb hr hlk hW dX6_blockOf_101
      have hf := br_n c15 hf
      by_cases c17 : a2 = 3
      · have hf := br_p c17 hf
        refine lv_tableIn (tgt := 102) hx hb dX6_blockOf_26 (by rw [c17]; decide) (by rw [c17]; decide) (by rw [c17]; rfl) (by decide) ?_
        refine lv_aload_n hx hb dX6_blockOf_102 rfl (lv_at hl 0 rfl) ?_
        refine g_X_now hx hb hown hK hW kF_RX6_12 dX6_blockOf_103 ?_
        refine g_State_lost (i := 0) hx hb hown hK hW (by omega) kF_RX6_164 dX6_blockOf_106 ?_
        refine lv_iload_n hx hb dX6_blockOf_109 rfl (lv_at hl 1 rfl) ?_
        obtain ⟨hk18, hf⟩ := gd_inv hf
        refine l_St5 (i := 0) hx hb hK hW (by omega) rfl hk18 dX6_blockOf_110 ?_
        refine lv_if_eq (tgt := 118) hx hb dX6_blockOf_111 (by decide) (fun c19 => ?_) (fun c19 => ?_)
        · have hf := br_p c19 hf
          refine lv_iconst (v := 0) hx hb dX6_blockOf_118 (by decide) ?_
          cases hf
          exact ss_ixret hx hb hr hlk hW dX6_blockOf_119
        · have hf := br_n c19 hf
          refine lv_iconst (v := 1) hx hb dX6_blockOf_114 (by decide) ?_
          refine lv_goto (tgt := 119) hx hb dX6_blockOf_115 (by decide) ?_
          cases hf
          exact ss_ixret hx hb hr hlk hW dX6_blockOf_119
      have hf := br_n c17 hf
      by_cases c20 : a2 = 4
      · have hf := br_p c20 hf
        refine lv_tableIn (tgt := 120) hx hb dX6_blockOf_26 (by rw [c20]; decide) (by rw [c20]; decide) (by rw [c20]; rfl) (by decide) ?_
        refine lv_aload_n hx hb dX6_blockOf_120 rfl (lv_at hl 0 rfl) ?_
        refine g_X_decoder hx hb hown hK hW kF_RX6_48 dX6_blockOf_121 ?_
        refine lv_aload_n hx hb dX6_blockOf_124 rfl (lv_at hl 0 rfl) ?_
        refine g_X_now hx hb hown hK hW kF_RX6_12 dX6_blockOf_125 ?_
        obtain ⟨s22, q21, hf⟩ := bd_inv hf
        refine ss_callVv (As := [.ref (eA E (10 + 8 * 0))]) hx hb hml hown hK hW kb_X2_decode kM_RX6_124 rfl (by omega) (c_dc (d := 0) (by omega) 0 (by decide)) (mX2_decode l (i0 := 0) (i1 := 0) (by omega) (by omega) q21) rfl dX6_blockOf_128 rfl hl.1 (Nat.le_of_ble_eq_true rfl) ⟨Nat.le_of_ble_eq_true rfl, Nat.le_of_ble_eq_true rfl⟩ ⟨Nat.zero_le _, Nat.zero_le _⟩ (fun H locs hW => ?_)
        refine lv_aload_n hx hb dX6_blockOf_131 rfl (lv_at hl 0 rfl) ?_
        refine g_X_decoder hx hb hown hK hW kF_RX6_48 dX6_blockOf_132 ?_
        refine lv_aload_n hx hb dX6_blockOf_135 rfl (lv_at hl 0 rfl) ?_
        refine g_X_now hx hb hown hK hW kF_RX6_12 dX6_blockOf_136 ?_
        refine lv_aload_n hx hb dX6_blockOf_139 rfl (lv_at hl 0 rfl) ?_
        refine g_X_now hx hb hown hK hW kF_RX6_12 dX6_blockOf_140 ?_
        refine lv_iload_n hx hb dX6_blockOf_143 rfl (lv_at hl 1 rfl) ?_
        obtain ⟨r24, q23, hf⟩ := bd_inv hf
        refine ss_callVi (As := [.int a1]) hx hb hml hown hK hW kb_X4_startOf kM_RX6_260 rfl (by omega) (c_st (i := 0) (by omega) 0 (by decide)) (mX4_startOf l (i0 := 0) (a1 := a1) (by omega) q23) rfl dX6_blockOf_144 rfl hl.1 (Nat.le_of_ble_eq_true rfl) ⟨Nat.le_of_ble_eq_true rfl, Nat.le_of_ble_eq_true rfl⟩ ⟨Nat.zero_le _, Nat.zero_le _⟩ (fun H locs hW => ?_)
        refine lv_aload_n hx hb dX6_blockOf_147 rfl (lv_at hl 0 rfl) ?_
        refine g_X_now hx hb hown hK hW kF_RX6_12 dX6_blockOf_148 ?_
        refine lv_iload_n hx hb dX6_blockOf_151 rfl (lv_at hl 1 rfl) ?_
        obtain ⟨r26, q25, hf⟩ := bd_inv hf
        refine ss_callVi (As := [.int a1]) hx hb hml hown hK hW kb_X4_endOf kM_RX6_257 rfl (by omega) (c_st (i := 0) (by omega) 0 (by decide)) (mX4_endOf l (i0 := 0) (a1 := a1) (by omega) q25) rfl dX6_blockOf_152 rfl hl.1 (Nat.le_of_ble_eq_true rfl) ⟨Nat.le_of_ble_eq_true rfl, Nat.le_of_ble_eq_true rfl⟩ ⟨Nat.zero_le _, Nat.zero_le _⟩ (fun H locs hW => ?_)
        obtain ⟨r28, q27, hf⟩ := bd_inv hf
        refine ss_callVi (As := [.ref (eA E (10 + 8 * 0)), .int r24, .int r26]) hx hb hml hown hK hW kb_X2_errorOf kM_RX6_269 rfl (by omega) (c_dc (d := 0) (by omega) 0 (by decide)) (mX2_errorOf l (i0 := 0) (i1 := 0) (a2 := r24) (a3 := r26) (by omega) (by omega) q27) rfl dX6_blockOf_155 rfl hl.1 (Nat.le_of_ble_eq_true rfl) ⟨Nat.le_of_ble_eq_true rfl, Nat.le_of_ble_eq_true rfl⟩ ⟨Nat.zero_le _, Nat.zero_le _⟩ (fun H locs hW => ?_)
        cases hf
        exact ss_ixret hx hb hr hlk hW dX6_blockOf_158
      have hf := br_n c20 hf
      have zc8 := sw_ne (n := 0) c8 (by decide)
      have zc13 := sw_ne (n := 1) c13 (by decide)
      have zc15 := sw_ne (n := 2) c15 (by decide)
      have zc17 := sw_ne (n := 3) c17 (by decide)
      have zc20 := sw_ne (n := 4) c20 (by decide)
      refine lv_tableOut (tgt := 159) hx hb dX6_blockOf_26 (by omega) (by decide) ?_
      refine lv_aload_n hx hb dX6_blockOf_159 rfl (lv_at hl 0 rfl) ?_
      refine lv_iload_n hx hb dX6_blockOf_160 rfl (lv_at hl 1 rfl) ?_
      obtain ⟨r30, s31, q29, hf⟩ := bd2_inv hf
      refine ss_callVi (As := [.int a1]) hx hb hml hown hK hW kb_X6_leadOf kM_RX6_273 rfl (by decide) (c_fx (by decide)) (mX6_leadOf l (a1 := a1) q29) rfl dX6_blockOf_161 rfl hl.1 (Nat.le_of_ble_eq_true rfl) ⟨Nat.le_of_ble_eq_true rfl, Nat.le_of_ble_eq_true rfl⟩ ⟨Nat.zero_le _, Nat.zero_le _⟩ (fun H locs hW => ?_)
      cases hf
      exact ss_ixret hx hb hr hlk hW dX6_blockOf_164
    · have hf := br_n c7 hf
      cases hf
      exact ss_throwS hx hb hfl hlk hex hml hl.1 hown hK hW (k0 := 0) (text := "no such property") (by simp [strs]) kL_RX6_62 kT_0_66 dX6_blockOf_15 dX6_blockOf_18 dX6_blockOf_19 dX6_blockOf_21 dX6_blockOf_24 (Nat.le_of_ble_eq_true rfl) (Nat.le_of_ble_eq_true rfl) ⟨Nat.le_refl 1, Nat.le_refl 6⟩
def fX6_count (a1 : Int32) (σ : Sg) : Option ((Int32 ⊕ Nat) × Sg) := if a1 < 0 then (some (.inr 0, σ)) else (if a1 < 12 then (if a1 = 0 then (some (.inl (σ (10 + 8 * 0) 0), σ)) else (if a1 = 1 then (bd (fX4_isCoded 0 σ) fun r6 => if r6 = 0 then (some (.inl 0, σ)) else (some (.inl 1, σ))) else (if a1 = 2 then (some (.inl (σ (10 + 8 * 0) 3), σ)) else (if a1 = 3 then (bd (fX4_lostBlocks 0 σ) fun r11 => some (.inl r11, σ)) else (if a1 = 9 then (some (.inl (σ (10 + 8 * 0) 9), σ)) else (if a1 = 10 then (some (.inl (σ (10 + 8 * 0) 10), σ)) else (if a1 = 11 then (some (.inl (σ 1 1), σ)) else (bd (fX4_isCoded 0 σ) fun r16 => if r16 = 0 then (some (.inl 0, σ)) else (bd2 (fX6_codedCount a1 σ) fun r19 s20 => some (.inl r19, s20)))))))))) else (some (.inr 0, σ)))
set_option maxHeartbeats 4000000 in
set_option maxRecDepth 100000 in
theorem mX6_count (l : Launch) (hfl : l.stackTraces = false) {E : En} {σ μ : Sg} {dg : Int64} {a1 : Int32}  {res : Int32 ⊕ Nat} {σ' : Sg} (hf : fX6_count a1 σ = some (res, σ')) : vx_Met l yX6_count [.code yX6_count cX6_count 2 (some .int)] (RmX res 6 132) (va_Pc [.ref (eA E 0), .int a1] (Wd E σ μ dg)) (Qxi E σ' μ dg res) (Xx E σ' μ dg res) (xc res) (xs6 res) (eP E) := by
  refine ss_ofX (by decide) (Nat.le_of_ble_eq_true rfl) (fun p e s m below meth c hx hb hr hlk hml hown hex hK hW ls hl => ?_)
  have hown : s.vm.findClass RX6 = some m.cls := hown
  have hl : lv_has ls 2 [(0, .ref (eA E 0)), (1, .int a1)] := hl
  unfold fX6_count at hf
  refine lv_iload_n hx hb dX6_count_0 rfl (lv_at hl 1 rfl) ?_
  refine lv_if_lt (tgt := 10) hx hb dX6_count_1 (by decide) (fun c1 => ?_) (fun c1 => ?_)
  · have hf := br_p c1 hf
    cases hf
    exact ss_throwW hx hb hfl hlk hex hml hl.1 hown hK hW (k0 := 0) (text := "no such number") (by simp [strs]) kL_RX6_62 kT_0_66 dX6_count_10 dX6_count_13 dX6_count_14 dX6_count_17 dX6_count_20 (Nat.le_of_ble_eq_true rfl) (Nat.le_of_ble_eq_true rfl) ⟨Nat.le_refl 1, Nat.le_refl 6⟩
  · have hf := br_n c1 hf
    refine lv_iload_n hx hb dX6_count_4 rfl (lv_at hl 1 rfl) ?_
    refine lv_bipush (v := 12) hx hb dX6_count_5 (by decide) ?_
    refine lv_icmp_lt (tgt := 21) hx hb dX6_count_7 (by decide) (fun c2 => ?_) (fun c2 => ?_)
    · have hf := br_p c2 hf
      refine lv_iload_n hx hb dX6_count_21 rfl (lv_at hl 1 rfl) ?_
      by_cases c3 : a1 = 0
      · have hf := br_p c3 hf
        refine lv_tableIn (tgt := 84) hx hb dX6_count_22 (by rw [c3]; decide) (by rw [c3]; decide) (by rw [c3]; rfl) (by decide) ?_
        refine lv_aload_n hx hb dX6_count_84 rfl (lv_at hl 0 rfl) ?_
        refine g_X_now hx hb hown hK hW kF_RX6_12 dX6_count_85 ?_
        refine g_State_many (i := 0) hx hb hown hK hW (by omega) kF_RX6_72 dX6_count_88 ?_
        cases hf
        exact ss_ixret hx hb hr hlk hW dX6_count_91
      have hf := br_n c3 hf
      by_cases c4 : a1 = 1
      · have hf := br_p c4 hf
        refine lv_tableIn (tgt := 92) hx hb dX6_count_22 (by rw [c4]; decide) (by rw [c4]; decide) (by rw [c4]; rfl) (by decide) ?_
        refine lv_aload_n hx hb dX6_count_92 rfl (lv_at hl 0 rfl) ?_
        refine g_X_now hx hb hown hK hW kF_RX6_12 dX6_count_93 ?_
        obtain ⟨r6, q5, hf⟩ := bd_inv hf
        refine ss_callVi (As := []) hx hb hml hown hK hW kb_X4_isCoded kM_RX6_115 rfl (by omega) (c_st (i := 0) (by omega) 0 (by decide)) (mX4_isCoded l (i0 := 0) (by omega) q5) rfl dX6_count_96 rfl hl.1 (Nat.le_of_ble_eq_true rfl) ⟨Nat.le_of_ble_eq_true rfl, Nat.le_of_ble_eq_true rfl⟩ ⟨Nat.zero_le _, Nat.zero_le _⟩ (fun H locs hW => ?_)
        refine lv_if_eq (tgt := 106) hx hb dX6_count_99 (by decide) (fun c7 => ?_) (fun c7 => ?_)
        · have hf := br_p c7 hf
          refine lv_iconst (v := 0) hx hb dX6_count_106 (by decide) ?_
          cases hf
          exact ss_ixret hx hb hr hlk hW dX6_count_107
        · have hf := br_n c7 hf
          refine lv_iconst (v := 1) hx hb dX6_count_102 (by decide) ?_
          refine lv_goto (tgt := 107) hx hb dX6_count_103 (by decide) ?_
          cases hf
          exact ss_ixret hx hb hr hlk hW dX6_count_107
      have hf := br_n c4 hf
      by_cases c8 : a1 = 2
      · have hf := br_p c8 hf
        refine lv_tableIn (tgt := 108) hx hb dX6_count_22 (by rw [c8]; decide) (by rw [c8]; decide) (by rw [c8]; rfl) (by decide) ?_
        refine lv_aload_n hx hb dX6_count_108 rfl (lv_at hl 0 rfl) ?_
        refine g_X_now hx hb hown hK hW kF_RX6_12 dX6_count_109 ?_
        refine g_State_blocks (i := 0) hx hb hown hK hW (by omega) kF_RX6_158 dX6_count_112 ?_
        cases hf
        exact ss_ixret hx hb hr hlk hW dX6_count_115
      have hf := br_n c8 hf
      by_cases c9 : a1 = 3
      · have hf := br_p c9 hf
        refine lv_tableIn (tgt := 116) hx hb dX6_count_22 (by rw [c9]; decide) (by rw [c9]; decide) (by rw [c9]; rfl) (by decide) ?_
        refine lv_aload_n hx hb dX6_count_116 rfl (lv_at hl 0 rfl) ?_
        refine g_X_now hx hb hown hK hW kF_RX6_12 dX6_count_117 ?_
        obtain ⟨r11, q10, hf⟩ := bd_inv hf
        refine ss_callVi (As := []) hx hb hml hown hK hW kb_X4_lostBlocks kM_RX6_167 rfl (by omega) (c_st (i := 0) (by omega) 0 (by decide)) (mX4_lostBlocks l (i0 := 0) (by omega) q10) rfl dX6_count_120 rfl hl.1 (Nat.le_of_ble_eq_true rfl) ⟨Nat.le_of_ble_eq_true rfl, Nat.le_of_ble_eq_true rfl⟩ ⟨Nat.zero_le _, Nat.zero_le _⟩ (fun H locs hW => ?_)
        cases hf
        exact ss_ixret hx hb hr hlk hW dX6_count_123
      have hf := br_n c9 hf
      by_cases c12 : a1 = 9
      · have hf := br_p c12 hf
        refine lv_tableIn (tgt := 124) hx hb dX6_count_22 (by rw [c12]; decide) (by rw [c12]; decide) (by rw [c12]; rfl) (by decide) ?_
        refine lv_aload_n hx hb dX6_count_124 rfl (lv_at hl 0 rfl) ?_
        refine g_X_now hx hb hown hK hW kF_RX6_12 dX6_count_125 ?_
        refine g_State_codings (i := 0) hx hb hown hK hW (by omega) kF_RX6_278 dX6_count_128 ?_
        cases hf
        exact ss_ixret hx hb hr hlk hW dX6_count_131
      have hf := br_n c12 hf
      by_cases c13 : a1 = 10
      · have hf := br_p c13 hf
        refine lv_tableIn (tgt := 132) hx hb dX6_count_22 (by rw [c13]; decide) (by rw [c13]; decide) (by rw [c13]; rfl) (by decide) ?_
        refine lv_aload_n hx hb dX6_count_132 rfl (lv_at hl 0 rfl) ?_
        refine g_X_now hx hb hown hK hW kF_RX6_12 dX6_count_133 ?_
        refine g_State_turned (i := 0) hx hb hown hK hW (by omega) kF_RX6_178 dX6_count_136 ?_
        cases hf
        exact ss_ixret hx hb hr hlk hW dX6_count_139
      have hf := br_n c13 hf
      by_cases c14 : a1 = 11
      · have hf := br_p c14 hf
        refine lv_tableIn (tgt := 140) hx hb dX6_count_22 (by rw [c14]; decide) (by rw [c14]; decide) (by rw [c14]; rfl) (by decide) ?_
        refine lv_aload_n hx hb dX6_count_140 rfl (lv_at hl 0 rfl) ?_
        refine g_X_history hx hb hown hK hW kF_RX6_19 dX6_count_141 ?_
        refine g_Hist_many hx hb hown hK hW kF_RX6_235 dX6_count_144 ?_
        cases hf
        exact ss_ixret hx hb hr hlk hW dX6_count_147
      have hf := br_n c14 hf
      have zc3 := sw_ne (n := 0) c3 (by decide)
      have zc4 := sw_ne (n := 1) c4 (by decide)
      have zc8 := sw_ne (n := 2) c8 (by decide)
      have zc9 := sw_ne (n := 3) c9 (by decide)
      have zc12 := sw_ne (n := 9) c12 (by decide)
      have zc13 := sw_ne (n := 10) c13 (by decide)
      have zc14 := sw_ne (n := 11) c14 (by decide)
      refine Or.elim (Classical.em (a1 = 4)) (fun c21 => lv_tableIn (tgt := 148) hx hb dX6_count_22 (by rw [c21]; decide) (by rw [c21]; decide) (by rw [c21]; rfl) (by decide) ?_) (fun c21 => ?_)
      · skip
        refine lv_aload_n hx hb dX6_count_148 rfl (lv_at hl 0 rfl) ?_
        refine g_X_now hx hb hown hK hW kF_RX6_12 dX6_count_149 ?_
        obtain ⟨r16, q15, hf⟩ := bd_inv hf
        refine ss_callVi (As := []) hx hb hml hown hK hW kb_X4_isCoded kM_RX6_115 rfl (by omega) (c_st (i := 0) (by omega) 0 (by decide)) (mX4_isCoded l (i0 := 0) (by omega) q15) rfl dX6_count_152 rfl hl.1 (Nat.le_of_ble_eq_true rfl) ⟨Nat.le_of_ble_eq_true rfl, Nat.le_of_ble_eq_true rfl⟩ ⟨Nat.zero_le _, Nat.zero_le _⟩ (fun H locs hW => ?_)
        refine lv_if_eq (tgt := 166) hx hb dX6_count_155 (by decide) (fun c17 => ?_) (fun c17 => ?_)
        · have hf := br_p c17 hf
          refine lv_iconst (v := 0) hx hb dX6_count_166 (by decide) ?_
          cases hf
          exact ss_ixret hx hb hr hlk hW dX6_count_167
        · have hf := br_n c17 hf
          refine lv_aload_n hx hb dX6_count_158 rfl (lv_at hl 0 rfl) ?_
          refine lv_iload_n hx hb dX6_count_159 rfl (lv_at hl 1 rfl) ?_
          obtain ⟨r19, s20, q18, hf⟩ := bd2_inv hf
          refine ss_callVi (As := [.int a1]) hx hb hml hown hK hW kb_X6_codedCount kM_RX6_281 rfl (by decide) (c_fx (by decide)) (mX6_codedCount l (a1 := a1) q18) rfl dX6_count_160 rfl hl.1 (Nat.le_of_ble_eq_true rfl) ⟨Nat.le_of_ble_eq_true rfl, Nat.le_of_ble_eq_true rfl⟩ ⟨Nat.zero_le _, Nat.zero_le _⟩ (fun H locs hW => ?_)
          refine lv_goto (tgt := 167) hx hb dX6_count_163 (by decide) ?_
          cases hf
          exact ss_ixret hx hb hr hlk hW dX6_count_167
      have zc21 := sw_ne (n := 4) c21 (by decide)
      refine Or.elim (Classical.em (a1 = 5)) (fun c22 => lv_tableIn (tgt := 148) hx hb dX6_count_22 (by rw [c22]; decide) (by rw [c22]; decide) (by rw [c22]; rfl) (by decide) ?_) (fun c22 => ?_)
      · skip
        refine lv_aload_n hx hb dX6_count_148 rfl (lv_at hl 0 rfl) ?_
        refine g_X_now hx hb hown hK hW kF_RX6_12 dX6_count_149 ?_
        obtain ⟨r16, q15, hf⟩ := bd_inv hf
        refine ss_callVi (As := []) hx hb hml hown hK hW kb_X4_isCoded kM_RX6_115 rfl (by omega) (c_st (i := 0) (by omega) 0 (by decide)) (mX4_isCoded l (i0 := 0) (by omega) q15) rfl dX6_count_152 rfl hl.1 (Nat.le_of_ble_eq_true rfl) ⟨Nat.le_of_ble_eq_true rfl, Nat.le_of_ble_eq_true rfl⟩ ⟨Nat.zero_le _, Nat.zero_le _⟩ (fun H locs hW => ?_)
        refine lv_if_eq (tgt := 166) hx hb dX6_count_155 (by decide) (fun c17 => ?_) (fun c17 => ?_)
        · have hf := br_p c17 hf
          refine lv_iconst (v := 0) hx hb dX6_count_166 (by decide) ?_
          cases hf
          exact ss_ixret hx hb hr hlk hW dX6_count_167
        · have hf := br_n c17 hf
          refine lv_aload_n hx hb dX6_count_158 rfl (lv_at hl 0 rfl) ?_
          refine lv_iload_n hx hb dX6_count_159 rfl (lv_at hl 1 rfl) ?_
          obtain ⟨r19, s20, q18, hf⟩ := bd2_inv hf
          refine ss_callVi (As := [.int a1]) hx hb hml hown hK hW kb_X6_codedCount kM_RX6_281 rfl (by decide) (c_fx (by decide)) (mX6_codedCount l (a1 := a1) q18) rfl dX6_count_160 rfl hl.1 (Nat.le_of_ble_eq_true rfl) ⟨Nat.le_of_ble_eq_true rfl, Nat.le_of_ble_eq_true rfl⟩ ⟨Nat.zero_le _, Nat.zero_le _⟩ (fun H locs hW => ?_)
          refine lv_goto (tgt := 167) hx hb dX6_count_163 (by decide) ?_
          cases hf
          exact ss_ixret hx hb hr hlk hW dX6_count_167
      have zc22 := sw_ne (n := 5) c22 (by decide)
      refine Or.elim (Classical.em (a1 = 6)) (fun c23 => lv_tableIn (tgt := 148) hx hb dX6_count_22 (by rw [c23]; decide) (by rw [c23]; decide) (by rw [c23]; rfl) (by decide) ?_) (fun c23 => ?_)
      · skip
        refine lv_aload_n hx hb dX6_count_148 rfl (lv_at hl 0 rfl) ?_
        refine g_X_now hx hb hown hK hW kF_RX6_12 dX6_count_149 ?_
        obtain ⟨r16, q15, hf⟩ := bd_inv hf
        refine ss_callVi (As := []) hx hb hml hown hK hW kb_X4_isCoded kM_RX6_115 rfl (by omega) (c_st (i := 0) (by omega) 0 (by decide)) (mX4_isCoded l (i0 := 0) (by omega) q15) rfl dX6_count_152 rfl hl.1 (Nat.le_of_ble_eq_true rfl) ⟨Nat.le_of_ble_eq_true rfl, Nat.le_of_ble_eq_true rfl⟩ ⟨Nat.zero_le _, Nat.zero_le _⟩ (fun H locs hW => ?_)
        refine lv_if_eq (tgt := 166) hx hb dX6_count_155 (by decide) (fun c17 => ?_) (fun c17 => ?_)
        · have hf := br_p c17 hf
          refine lv_iconst (v := 0) hx hb dX6_count_166 (by decide) ?_
          cases hf
          exact ss_ixret hx hb hr hlk hW dX6_count_167
        · have hf := br_n c17 hf
          refine lv_aload_n hx hb dX6_count_158 rfl (lv_at hl 0 rfl) ?_
          refine lv_iload_n hx hb dX6_count_159 rfl (lv_at hl 1 rfl) ?_
          obtain ⟨r19, s20, q18, hf⟩ := bd2_inv hf
          refine ss_callVi (As := [.int a1]) hx hb hml hown hK hW kb_X6_codedCount kM_RX6_281 rfl (by decide) (c_fx (by decide)) (mX6_codedCount l (a1 := a1) q18) rfl dX6_count_160 rfl hl.1 (Nat.le_of_ble_eq_true rfl) ⟨Nat.le_of_ble_eq_true rfl, Nat.le_of_ble_eq_true rfl⟩ ⟨Nat.zero_le _, Nat.zero_le _⟩ (fun H locs hW => ?_)
          refine lv_goto (tgt := 167) hx hb dX6_count_163 (by decide) ?_
          cases hf
          exact ss_ixret hx hb hr hlk hW dX6_count_167
      have zc23 := sw_ne (n := 6) c23 (by decide)
      refine Or.elim (Classical.em (a1 = 7)) (fun c24 => lv_tableIn (tgt := 148) hx hb dX6_count_22 (by rw [c24]; decide) (by rw [c24]; decide) (by rw [c24]; rfl) (by decide) ?_) (fun c24 => ?_)
      · skip
        refine lv_aload_n hx hb dX6_count_148 rfl (lv_at hl 0 rfl) ?_
        refine g_X_now hx hb hown hK hW kF_RX6_12 dX6_count_149 ?_
        obtain ⟨r16, q15, hf⟩ := bd_inv hf
        refine ss_callVi (As := []) hx hb hml hown hK hW kb_X4_isCoded kM_RX6_115 rfl (by omega) (c_st (i := 0) (by omega) 0 (by decide)) (mX4_isCoded l (i0 := 0) (by omega) q15) rfl dX6_count_152 rfl hl.1 (Nat.le_of_ble_eq_true rfl) ⟨Nat.le_of_ble_eq_true rfl, Nat.le_of_ble_eq_true rfl⟩ ⟨Nat.zero_le _, Nat.zero_le _⟩ (fun H locs hW => ?_)
        refine lv_if_eq (tgt := 166) hx hb dX6_count_155 (by decide) (fun c17 => ?_) (fun c17 => ?_)
        · have hf := br_p c17 hf
          refine lv_iconst (v := 0) hx hb dX6_count_166 (by decide) ?_
          cases hf
          exact ss_ixret hx hb hr hlk hW dX6_count_167
        · have hf := br_n c17 hf
          refine lv_aload_n hx hb dX6_count_158 rfl (lv_at hl 0 rfl) ?_
          refine lv_iload_n hx hb dX6_count_159 rfl (lv_at hl 1 rfl) ?_
          obtain ⟨r19, s20, q18, hf⟩ := bd2_inv hf
          refine ss_callVi (As := [.int a1]) hx hb hml hown hK hW kb_X6_codedCount kM_RX6_281 rfl (by decide) (c_fx (by decide)) (mX6_codedCount l (a1 := a1) q18) rfl dX6_count_160 rfl hl.1 (Nat.le_of_ble_eq_true rfl) ⟨Nat.le_of_ble_eq_true rfl, Nat.le_of_ble_eq_true rfl⟩ ⟨Nat.zero_le _, Nat.zero_le _⟩ (fun H locs hW => ?_)
          refine lv_goto (tgt := 167) hx hb dX6_count_163 (by decide) ?_
          cases hf
          exact ss_ixret hx hb hr hlk hW dX6_count_167
      have zc24 := sw_ne (n := 7) c24 (by decide)
      refine Or.elim (Classical.em (a1 = 8)) (fun c25 => lv_tableIn (tgt := 148) hx hb dX6_count_22 (by rw [c25]; decide) (by rw [c25]; decide) (by rw [c25]; rfl) (by decide) ?_) (fun c25 => ?_)
      · skip
        refine lv_aload_n hx hb dX6_count_148 rfl (lv_at hl 0 rfl) ?_
        refine g_X_now hx hb hown hK hW kF_RX6_12 dX6_count_149 ?_
        obtain ⟨r16, q15, hf⟩ := bd_inv hf
        refine ss_callVi (As := []) hx hb hml hown hK hW kb_X4_isCoded kM_RX6_115 rfl (by omega) (c_st (i := 0) (by omega) 0 (by decide)) (mX4_isCoded l (i0 := 0) (by omega) q15) rfl dX6_count_152 rfl hl.1 (Nat.le_of_ble_eq_true rfl) ⟨Nat.le_of_ble_eq_true rfl, Nat.le_of_ble_eq_true rfl⟩ ⟨Nat.zero_le _, Nat.zero_le _⟩ (fun H locs hW => ?_)
        refine lv_if_eq (tgt := 166) hx hb dX6_count_155 (by decide) (fun c17 => ?_) (fun c17 => ?_)
        · have hf := br_p c17 hf
          refine lv_iconst (v := 0) hx hb dX6_count_166 (by decide) ?_
          cases hf
          exact ss_ixret hx hb hr hlk hW dX6_count_167
        · have hf := br_n c17 hf
          refine lv_aload_n hx hb dX6_count_158 rfl (lv_at hl 0 rfl) ?_
          refine lv_iload_n hx hb dX6_count_159 rfl (lv_at hl 1 rfl) ?_
          obtain ⟨r19, s20, q18, hf⟩ := bd2_inv hf
          refine ss_callVi (As := [.int a1]) hx hb hml hown hK hW kb_X6_codedCount kM_RX6_281 rfl (by decide) (c_fx (by decide)) (mX6_codedCount l (a1 := a1) q18) rfl dX6_count_160 rfl hl.1 (Nat.le_of_ble_eq_true rfl) ⟨Nat.le_of_ble_eq_true rfl, Nat.le_of_ble_eq_true rfl⟩ ⟨Nat.zero_le _, Nat.zero_le _⟩ (fun H locs hW => ?_)
          refine lv_goto (tgt := 167) hx hb dX6_count_163 (by decide) ?_
          cases hf
          exact ss_ixret hx hb hr hlk hW dX6_count_167
      have zc25 := sw_ne (n := 8) c25 (by decide)
      refine lv_tableOut (tgt := 148) hx hb dX6_count_22 (by omega) (by decide) ?_
      refine lv_aload_n hx hb dX6_count_148 rfl (lv_at hl 0 rfl) ?_
      refine g_X_now hx hb hown hK hW kF_RX6_12 dX6_count_149 ?_
      obtain ⟨r16, q15, hf⟩ := bd_inv hf
      refine ss_callVi (As := []) hx hb hml hown hK hW kb_X4_isCoded kM_RX6_115 rfl (by omega) (c_st (i := 0) (by omega) 0 (by decide)) (mX4_isCoded l (i0 := 0) (by omega) q15) rfl dX6_count_152 rfl hl.1 (Nat.le_of_ble_eq_true rfl) ⟨Nat.le_of_ble_eq_true rfl, Nat.le_of_ble_eq_true rfl⟩ ⟨Nat.zero_le _, Nat.zero_le _⟩ (fun H locs hW => ?_)
      refine lv_if_eq (tgt := 166) hx hb dX6_count_155 (by decide) (fun c17 => ?_) (fun c17 => ?_)
      · have hf := br_p c17 hf
        refine lv_iconst (v := 0) hx hb dX6_count_166 (by decide) ?_
        cases hf
        exact ss_ixret hx hb hr hlk hW dX6_count_167
      · have hf := br_n c17 hf
        refine lv_aload_n hx hb dX6_count_158 rfl (lv_at hl 0 rfl) ?_
        refine lv_iload_n hx hb dX6_count_159 rfl (lv_at hl 1 rfl) ?_
        obtain ⟨r19, s20, q18, hf⟩ := bd2_inv hf
        refine ss_callVi (As := [.int a1]) hx hb hml hown hK hW kb_X6_codedCount kM_RX6_281 rfl (by decide) (c_fx (by decide)) (mX6_codedCount l (a1 := a1) q18) rfl dX6_count_160 rfl hl.1 (Nat.le_of_ble_eq_true rfl) ⟨Nat.le_of_ble_eq_true rfl, Nat.le_of_ble_eq_true rfl⟩ ⟨Nat.zero_le _, Nat.zero_le _⟩ (fun H locs hW => ?_)
        refine lv_goto (tgt := 167) hx hb dX6_count_163 (by decide) ?_
        cases hf
        exact ss_ixret hx hb hr hlk hW dX6_count_167
    · have hf := br_n c2 hf
      cases hf
      exact ss_throwW hx hb hfl hlk hex hml hl.1 hown hK hW (k0 := 0) (text := "no such number") (by simp [strs]) kL_RX6_62 kT_0_66 dX6_count_10 dX6_count_13 dX6_count_14 dX6_count_17 dX6_count_20 (Nat.le_of_ble_eq_true rfl) (Nat.le_of_ble_eq_true rfl) ⟨Nat.le_refl 1, Nat.le_refl 6⟩
def fX6_sampleOf (a1 : Int32) (a2 : Int32) (σ : Sg) : Option ((Int32 ⊕ Nat) × Sg) := bd (fX4_hasSample 0 a1 σ) fun r2 => if r2 = 0 then (some (.inr 1, σ)) else (if a2 < 0 then (some (.inr 0, σ)) else (if a2 < 6 then (if a2 = 0 then (gd (¬ (a1 < 0 ∨ 64 ≤ (a1).toNatClampNeg)) <| some (.inl ((σ (10 + 8 * 0 + 1) (a1).toNatClampNeg) + 10000), σ)) else (bd (fX4_isCoded 0 σ) fun r8 => if r8 = 0 then (some (.inl (-1), σ)) else (bd (fX2_decode 0 0 σ) fun s11 => if a2 = 1 then (gd (¬ (a1 < 0 ∨ 64 ≤ (a1).toNatClampNeg)) <| some (.inl ((s11 (86 + 3 * 0 + 1) (a1).toNatClampNeg) + 10000), s11)) else (if a2 = 2 then (gd (¬ (a1 < 0 ∨ 64 ≤ (a1).toNatClampNeg)) <| some (.inl ((s11 (10 + 8 * 0 + 7) (a1).toNatClampNeg) + 10000), s11)) else (if a2 = 3 then (gd (¬ (a1 < 0 ∨ 64 ≤ (a1).toNatClampNeg)) <| some (.inl (s11 (10 + 8 * 0 + 6) (a1).toNatClampNeg), s11)) else (if a2 = 4 then (gd (¬ (a1 < 0 ∨ 64 ≤ (a1).toNatClampNeg)) <| some (.inl (s11 (86 + 3 * 0 + 2) (a1).toNatClampNeg), s11)) else (gd (¬ (a1 < 0 ∨ 64 ≤ (a1).toNatClampNeg)) <| gd (¬ (a1 < 0 ∨ 64 ≤ (a1).toNatClampNeg)) <| some (.inl (((s11 (10 + 8 * 0 + 1) (a1).toNatClampNeg) - (s11 (86 + 3 * 0 + 1) (a1).toNatClampNeg)) + 10000), s11)))))))) else (some (.inr 0, σ))))
set_option maxHeartbeats 4000000 in
set_option maxRecDepth 100000 in
theorem mX6_sampleOf (l : Launch) (hfl : l.stackTraces = false) {E : En} {σ μ : Sg} {dg : Int64} {a1 : Int32} {a2 : Int32}  {res : Int32 ⊕ Nat} {σ' : Sg} (hf : fX6_sampleOf a1 a2 σ = some (res, σ')) : vx_Met l yX6_sampleOf [.code yX6_sampleOf cX6_sampleOf 3 (some .int)] (RmX res 6 111) (va_Pc [.ref (eA E 0), .int a1, .int a2] (Wd E σ μ dg)) (Qxi E σ' μ dg res) (Xx E σ' μ dg res) (xc res) (xs6 res) (eP E) := by
  refine ss_ofX (by decide) (Nat.le_of_ble_eq_true rfl) (fun p e s m below meth c hx hb hr hlk hml hown hex hK hW ls hl => ?_)
  have hown : s.vm.findClass RX6 = some m.cls := hown
  have hl : lv_has ls 3 [(0, .ref (eA E 0)), (1, .int a1), (2, .int a2)] := hl
  unfold fX6_sampleOf at hf
  refine lv_aload_n hx hb dX6_sampleOf_0 rfl (lv_at hl 0 rfl) ?_
  refine g_X_now hx hb hown hK hW kF_RX6_12 dX6_sampleOf_1 ?_
  refine lv_iload_n hx hb dX6_sampleOf_4 rfl (lv_at hl 1 rfl) ?_
  obtain ⟨r2, q1, hf⟩ := bd_inv hf
  refine ss_callVi (As := [.int a1]) hx hb hml hown hK hW kb_X4_hasSample kM_RX6_80 rfl (by omega) (c_st (i := 0) (by omega) 0 (by decide)) (mX4_hasSample l (i0 := 0) (a1 := a1) (by omega) q1) rfl dX6_sampleOf_5 rfl hl.1 (Nat.le_of_ble_eq_true rfl) ⟨Nat.le_of_ble_eq_true rfl, Nat.le_of_ble_eq_true rfl⟩ ⟨Nat.zero_le _, Nat.zero_le _⟩ (fun H locs hW => ?_)
  refine lv_if_ne (tgt := 21) hx hb dX6_sampleOf_8 (by decide) (fun c3 => ?_) (fun c3 => ?_)
  · have hf := br_n c3 hf
    refine lv_iload_n hx hb dX6_sampleOf_21 rfl (lv_at hl 2 rfl) ?_
    refine lv_if_lt (tgt := 31) hx hb dX6_sampleOf_22 (by decide) (fun c4 => ?_) (fun c4 => ?_)
    · have hf := br_p c4 hf
      cases hf
      exact ss_throwS hx hb hfl hlk hex hml hl.1 hown hK hW (k0 := 0) (text := "no such property") (by simp [strs]) kL_RX6_62 kT_0_66 dX6_sampleOf_31 dX6_sampleOf_34 dX6_sampleOf_35 dX6_sampleOf_37 dX6_sampleOf_40 (Nat.le_of_ble_eq_true rfl) (Nat.le_of_ble_eq_true rfl) ⟨Nat.le_refl 1, Nat.le_refl 6⟩
    · have hf := br_n c4 hf
      refine lv_iload_n hx hb dX6_sampleOf_25 rfl (lv_at hl 2 rfl) ?_
      refine lv_bipush (v := 6) hx hb dX6_sampleOf_26 (by decide) ?_
      refine lv_icmp_lt (tgt := 41) hx hb dX6_sampleOf_28 (by decide) (fun c5 => ?_) (fun c5 => ?_)
      · have hf := br_p c5 hf
        refine lv_iload_n hx hb dX6_sampleOf_41 rfl (lv_at hl 2 rfl) ?_
        refine lv_if_ne (tgt := 59) hx hb dX6_sampleOf_42 (by decide) (fun c6 => ?_) (fun c6 => ?_)
        · have hf := br_n c6 hf
          refine lv_aload_n hx hb dX6_sampleOf_59 rfl (lv_at hl 0 rfl) ?_
          refine g_X_now hx hb hown hK hW kF_RX6_12 dX6_sampleOf_60 ?_
          obtain ⟨r8, q7, hf⟩ := bd_inv hf
          refine ss_callVi (As := []) hx hb hml hown hK hW kb_X4_isCoded kM_RX6_115 rfl (by omega) (c_st (i := 0) (by omega) 0 (by decide)) (mX4_isCoded l (i0 := 0) (by omega) q7) rfl dX6_sampleOf_63 rfl hl.1 (Nat.le_of_ble_eq_true rfl) ⟨Nat.le_of_ble_eq_true rfl, Nat.le_of_ble_eq_true rfl⟩ ⟨Nat.zero_le _, Nat.zero_le _⟩ (fun H locs hW => ?_)
          refine lv_if_ne (tgt := 71) hx hb dX6_sampleOf_66 (by decide) (fun c9 => ?_) (fun c9 => ?_)
          · have hf := br_n c9 hf
            refine lv_aload_n hx hb dX6_sampleOf_71 rfl (lv_at hl 0 rfl) ?_
            refine g_X_decoder hx hb hown hK hW kF_RX6_48 dX6_sampleOf_72 ?_
            refine lv_aload_n hx hb dX6_sampleOf_75 rfl (lv_at hl 0 rfl) ?_
            refine g_X_now hx hb hown hK hW kF_RX6_12 dX6_sampleOf_76 ?_
            obtain ⟨s11, q10, hf⟩ := bd_inv hf
            refine ss_callVv (As := [.ref (eA E (10 + 8 * 0))]) hx hb hml hown hK hW kb_X2_decode kM_RX6_124 rfl (by omega) (c_dc (d := 0) (by omega) 0 (by decide)) (mX2_decode l (i0 := 0) (i1 := 0) (by omega) (by omega) q10) rfl dX6_sampleOf_79 rfl hl.1 (Nat.le_of_ble_eq_true rfl) ⟨Nat.le_of_ble_eq_true rfl, Nat.le_of_ble_eq_true rfl⟩ ⟨Nat.zero_le _, Nat.zero_le _⟩ (fun H locs hW => ?_)
            refine lv_iload_n hx hb dX6_sampleOf_82 rfl (lv_at hl 2 rfl) ?_
            by_cases c12 : a2 = 1
            · have hf := br_p c12 hf
              refine lv_tableIn (tgt := 112) hx hb dX6_sampleOf_83 (by rw [c12]; decide) (by rw [c12]; decide) (by rw [c12]; rfl) (by decide) ?_
              refine lv_aload_n hx hb dX6_sampleOf_112 rfl (lv_at hl 0 rfl) ?_
              refine g_X_decoder hx hb hown hK hW kF_RX6_48 dX6_sampleOf_113 ?_
              refine g_Dec_made (i := 0) hx hb hown hK hW (by omega) kF_RX6_132 dX6_sampleOf_116 ?_
              refine lv_iload_n hx hb dX6_sampleOf_119 rfl (lv_at hl 1 rfl) ?_
              obtain ⟨hk13, hf⟩ := gd_inv hf
              refine l_De1 (i := 0) hx hb hK hW (by omega) rfl hk13 dX6_sampleOf_120 ?_
              refine lv_sipush (v := 10000) hx hb dX6_sampleOf_121 (by decide) ?_
              refine lv_iadd hx hb dX6_sampleOf_124 ?_
              cases hf
              exact ss_ixret hx hb hr hlk hW dX6_sampleOf_125
            have hf := br_n c12 hf
            by_cases c14 : a2 = 2
            · have hf := br_p c14 hf
              refine lv_tableIn (tgt := 126) hx hb dX6_sampleOf_83 (by rw [c14]; decide) (by rw [c14]; decide) (by rw [c14]; rfl) (by decide) ?_
              refine lv_aload_n hx hb dX6_sampleOf_126 rfl (lv_at hl 0 rfl) ?_
              refine g_X_now hx hb hown hK hW kF_RX6_12 dX6_sampleOf_127 ?_
              refine g_State_guesses (i := 0) hx hb hown hK hW (by omega) kF_RX6_251 dX6_sampleOf_130 ?_
              refine lv_iload_n hx hb dX6_sampleOf_133 rfl (lv_at hl 1 rfl) ?_
              obtain ⟨hk15, hf⟩ := gd_inv hf
              refine l_St7 (i := 0) hx hb hK hW (by omega) rfl hk15 dX6_sampleOf_134 ?_
              refine lv_sipush (v := 10000) hx hb dX6_sampleOf_135 (by decide) ?_
              refine lv_iadd hx hb dX6_sampleOf_138 ?_
              cases hf
              exact ss_ixret hx hb hr hlk hW dX6_sampleOf_139
            have hf := br_n c14 hf
            by_cases c16 : a2 = 3
            · have hf := br_p c16 hf
              refine lv_tableIn (tgt := 140) hx hb dX6_sampleOf_83 (by rw [c16]; decide) (by rw [c16]; decide) (by rw [c16]; rfl) (by decide) ?_
              refine lv_aload_n hx hb dX6_sampleOf_140 rfl (lv_at hl 0 rfl) ?_
              refine g_X_now hx hb hown hK hW kF_RX6_12 dX6_sampleOf_141 ?_
              refine g_State_codes (i := 0) hx hb hown hK hW (by omega) kF_RX6_181 dX6_sampleOf_144 ?_
              refine lv_iload_n hx hb dX6_sampleOf_147 rfl (lv_at hl 1 rfl) ?_
              obtain ⟨hk17, hf⟩ := gd_inv hf
              refine l_St6 (i := 0) hx hb hK hW (by omega) rfl hk17 dX6_sampleOf_148 ?_
              cases hf
              exact ss_ixret hx hb hr hlk hW dX6_sampleOf_149
            have hf := br_n c16 hf
            by_cases c18 : a2 = 4
            · have hf := br_p c18 hf
              refine lv_tableIn (tgt := 150) hx hb dX6_sampleOf_83 (by rw [c18]; decide) (by rw [c18]; decide) (by rw [c18]; rfl) (by decide) ?_
              refine lv_aload_n hx hb dX6_sampleOf_150 rfl (lv_at hl 0 rfl) ?_
              refine g_X_decoder hx hb hown hK hW kF_RX6_48 dX6_sampleOf_151 ?_
              refine g_Dec_numbers (i := 0) hx hb hown hK hW (by omega) kF_RX6_254 dX6_sampleOf_154 ?_
              refine lv_iload_n hx hb dX6_sampleOf_157 rfl (lv_at hl 1 rfl) ?_
              obtain ⟨hk19, hf⟩ := gd_inv hf
              refine l_De2 (i := 0) hx hb hK hW (by omega) rfl hk19 dX6_sampleOf_158 ?_
              cases hf
              exact ss_ixret hx hb hr hlk hW dX6_sampleOf_159
            have hf := br_n c18 hf
            have zc12 := sw_ne (n := 1) c12 (by decide)
            have zc14 := sw_ne (n := 2) c14 (by decide)
            have zc16 := sw_ne (n := 3) c16 (by decide)
            have zc18 := sw_ne (n := 4) c18 (by decide)
            refine lv_tableOut (tgt := 160) hx hb dX6_sampleOf_83 (by omega) (by decide) ?_
            refine lv_aload_n hx hb dX6_sampleOf_160 rfl (lv_at hl 0 rfl) ?_
            refine g_X_now hx hb hown hK hW kF_RX6_12 dX6_sampleOf_161 ?_
            refine g_State_values (i := 0) hx hb hown hK hW (by omega) kF_RX6_94 dX6_sampleOf_164 ?_
            refine lv_iload_n hx hb dX6_sampleOf_167 rfl (lv_at hl 1 rfl) ?_
            obtain ⟨hk20, hf⟩ := gd_inv hf
            refine l_St1 (i := 0) hx hb hK hW (by omega) rfl hk20 dX6_sampleOf_168 ?_
            refine lv_aload_n hx hb dX6_sampleOf_169 rfl (lv_at hl 0 rfl) ?_
            refine g_X_decoder hx hb hown hK hW kF_RX6_48 dX6_sampleOf_170 ?_
            refine g_Dec_made (i := 0) hx hb hown hK hW (by omega) kF_RX6_132 dX6_sampleOf_173 ?_
            refine lv_iload_n hx hb dX6_sampleOf_176 rfl (lv_at hl 1 rfl) ?_
            obtain ⟨hk21, hf⟩ := gd_inv hf
            refine l_De1 (i := 0) hx hb hK hW (by omega) rfl hk21 dX6_sampleOf_177 ?_
            refine lv_isub hx hb dX6_sampleOf_178 ?_
            refine lv_sipush (v := 10000) hx hb dX6_sampleOf_179 (by decide) ?_
            refine lv_iadd hx hb dX6_sampleOf_182 ?_
            cases hf
            exact ss_ixret hx hb hr hlk hW dX6_sampleOf_183
          · have hf := br_p c9 hf
            refine lv_iconst (v := (-1)) hx hb dX6_sampleOf_69 (by decide) ?_
            cases hf
            exact ss_ixret hx hb hr hlk hW dX6_sampleOf_70
        · have hf := br_p c6 hf
          refine lv_aload_n hx hb dX6_sampleOf_45 rfl (lv_at hl 0 rfl) ?_
          refine g_X_now hx hb hown hK hW kF_RX6_12 dX6_sampleOf_46 ?_
          refine g_State_values (i := 0) hx hb hown hK hW (by omega) kF_RX6_94 dX6_sampleOf_49 ?_
          refine lv_iload_n hx hb dX6_sampleOf_52 rfl (lv_at hl 1 rfl) ?_
          obtain ⟨hk22, hf⟩ := gd_inv hf
          refine l_St1 (i := 0) hx hb hK hW (by omega) rfl hk22 dX6_sampleOf_53 ?_
          refine lv_sipush (v := 10000) hx hb dX6_sampleOf_54 (by decide) ?_
          refine lv_iadd hx hb dX6_sampleOf_57 ?_
          cases hf
          exact ss_ixret hx hb hr hlk hW dX6_sampleOf_58
      · have hf := br_n c5 hf
        cases hf
        exact ss_throwS hx hb hfl hlk hex hml hl.1 hown hK hW (k0 := 0) (text := "no such property") (by simp [strs]) kL_RX6_62 kT_0_66 dX6_sampleOf_31 dX6_sampleOf_34 dX6_sampleOf_35 dX6_sampleOf_37 dX6_sampleOf_40 (Nat.le_of_ble_eq_true rfl) (Nat.le_of_ble_eq_true rfl) ⟨Nat.le_refl 1, Nat.le_refl 6⟩
  · have hf := br_p c3 hf
    cases hf
    exact ss_throwS hx hb hfl hlk hex hml hl.1 hown hK hW (k0 := 1) (text := "no such sample") (by simp [strs]) kL_RX6_84 kT_1_88 dX6_sampleOf_11 dX6_sampleOf_14 dX6_sampleOf_15 dX6_sampleOf_17 dX6_sampleOf_20 (Nat.le_of_ble_eq_true rfl) (Nat.le_of_ble_eq_true rfl) ⟨Nat.le_refl 1, Nat.le_refl 6⟩
def fX6_mixSamplesAndBlocks_L71 (k56 : Int64 → Int32 → Sg → Option (Int64 × Sg)) (n : Nat) (x3 : Int64) (x5 : Int32) (x6 : Int32) (σ : Sg) : Option (Int64 × Sg) := match n with
  | 0 => none
  | n + 1 => if 6 ≤ x6 then (nm (x5 + 1) fun x5_2 => k56 x3 x5_2 σ) else (bo (fX6_blockOf x5 x6 σ) fun r4 s5 => bd (fX6_mix x3 ((r4).toInt64)) fun r7 => nm (x6 + 1) fun x6_8 => (fun x3 x5 x6 σ => fX6_mixSamplesAndBlocks_L71 k56 n x3 x5 x6 σ) r7 x5 x6_8 s5)
def fX6_mixSamplesAndBlocks_L56  (n : Nat) (x3 : Int64) (x5 : Int32) (σ : Sg) : Option (Int64 × Sg) := match n with
  | 0 => none
  | n + 1 => if (σ (10 + 8 * 0) 3) ≤ x5 then (some (x3, σ)) else (fX6_mixSamplesAndBlocks_L71 (fun x3 x5 σ => fX6_mixSamplesAndBlocks_L56 n x3 x5 σ) 80 x3 x5 0 σ)
def fX6_mixSamplesAndBlocks_L20 (k5 : Int64 → Int32 → Sg → Option (Int64 × Sg)) (n : Nat) (x3 : Int64) (x5 : Int32) (x6 : Int32) (σ : Sg) : Option (Int64 × Sg) := match n with
  | 0 => none
  | n + 1 => if 6 ≤ x6 then (nm (x5 + 1) fun x5_11 => k5 x3 x5_11 σ) else (bo (fX6_sampleOf x5 x6 σ) fun r13 s14 => bd (fX6_mix x3 ((r13).toInt64)) fun r16 => nm (x6 + 1) fun x6_17 => (fun x3 x5 x6 σ => fX6_mixSamplesAndBlocks_L20 k5 n x3 x5 x6 σ) r16 x5 x6_17 s14)
def fX6_mixSamplesAndBlocks_L5  (n : Nat) (x3 : Int64) (x5 : Int32) (σ : Sg) : Option (Int64 × Sg) := match n with
  | 0 => none
  | n + 1 => if (σ (10 + 8 * 0) 0) ≤ x5 then (fX6_mixSamplesAndBlocks_L56 80 x3 0 σ) else (fX6_mixSamplesAndBlocks_L20 (fun x3 x5 σ => fX6_mixSamplesAndBlocks_L5 n x3 x5 σ) 80 x3 x5 0 σ)
def fX6_mixSamplesAndBlocks (a1 : Int64) (σ : Sg) : Option (Int64 × Sg) := fX6_mixSamplesAndBlocks_L5 80 a1 0 σ
set_option maxHeartbeats 4000000 in
set_option maxRecDepth 100000 in
theorem mX6_mixSamplesAndBlocks (l : Launch) (hfl : l.stackTraces = false) {E : En} {σ μ : Sg} {dg : Int64} {a1 : Int64}  {r : Int64} {σ' : Sg} (hf : fX6_mixSamplesAndBlocks a1 σ = some (r, σ')) : Met l yX6_mixSamplesAndBlocks [.code yX6_mixSamplesAndBlocks cX6_mixSamplesAndBlocks 7 (some .long)] (Rm 8 133) (va_Pc [.ref (eA E 0), .long a1] (Wd E σ μ dg)) (Ql E σ' μ dg r) 0 0 (eP E) := by
  refine ss_of (by decide) (Nat.le_of_ble_eq_true rfl) (fun p e s m below meth c hx hb hr hlk hml hown hK hW ls hl => ?_)
  have hown : s.vm.findClass RX6 = some m.cls := hown
  have hl : lv_has ls 7 [(0, .ref (eA E 0)), (1, .long a1)] := hl
  unfold fX6_mixSamplesAndBlocks at hf
  have h56 : ∀ (n56 : Nat) (x3 : Int64) (x5 : Int32) (σ : Sg) (H : Heap) (locs : List Loc) (ls : Array Slot), Wk E σ μ dg s H locs → lv_has ls 7 [(0, .ref (eA E 0)), (3, .long x3), (5, .int x5)] → fX6_mixSamplesAndBlocks_L56 n56 x3 x5 σ = some (r, σ') → W p l e (Rm 8 133) s m [.ref (eA E 0), .long a1].toArray below meth c H locs 0 0 (MQ below (Ql E σ' μ dg r) [.ref (eA E 0), .long a1].toArray s 0 0 (eP E)) (F0 m 56 ls []) := by
    intro n56
    induction n56 with
    | zero =>
      intro x3 x5 σ  H locs ls hW hl hf
      exact absurd hf (by simp [fX6_mixSamplesAndBlocks_L56])
    | succ n56 ih56 =>
      have h71 : ∀ (n71 : Nat) (x3 : Int64) (x5 : Int32) (x6 : Int32) (σ : Sg) (H : Heap) (locs : List Loc) (ls : Array Slot), Wk E σ μ dg s H locs → lv_has ls 7 [(0, .ref (eA E 0)), (3, .long x3), (5, .int x5), (6, .int x6)] → fX6_mixSamplesAndBlocks_L71 (fun x3 x5 σ => fX6_mixSamplesAndBlocks_L56 n56 x3 x5 σ) n71 x3 x5 x6 σ = some (r, σ') → W p l e (Rm 8 133) s m [.ref (eA E 0), .long a1].toArray below meth c H locs 0 0 (MQ below (Ql E σ' μ dg r) [.ref (eA E 0), .long a1].toArray s 0 0 (eP E)) (F0 m 71 ls []) := by
        intro n71
        induction n71 with
        | zero =>
          intro x3 x5 x6 σ  H locs ls hW hl hf
          exact absurd hf (by simp [fX6_mixSamplesAndBlocks_L71])
        | succ n71 ih71 =>
          intro x3 x5 x6 σ  H locs ls hW hl hf
          rw [fX6_mixSamplesAndBlocks_L71] at hf
          refine lv_iload hx hb dX6_mixSamplesAndBlocks_71 (lv_at hl 3 rfl) ?_
          refine lv_bipush (v := 6) hx hb dX6_mixSamplesAndBlocks_73 (by decide) ?_
          refine lv_icmp_ge (tgt := 98) hx hb dX6_mixSamplesAndBlocks_75 (by decide) (fun c1 => ?_) (fun c1 => ?_)
          · have hf := br_p c1 hf
            obtain ⟨x5_2, ex5_2⟩ : ∃ y : Int32, y = (x5 + 1) := ⟨_, rfl⟩
            have hf := nm_use ex5_2 hf
            refine lv_iinc (v := x5_2) (lv' := [(5, .int x5_2), (0, .ref (eA E 0)), (3, .long x3), (6, .int x6)]) hx hb dX6_mixSamplesAndBlocks_98 hl (k := 2) rfl (by rw [ex5_2]; rfl) (by decide) rfl (fun ls hl => ?_)
            refine lv_goto (tgt := 56) hx hb dX6_mixSamplesAndBlocks_101 (by decide) ?_
            exact ih56 x3 x5_2 σ _ _ _ hW (lv_sub hl [1, 2, 0] rfl) hf
          · have hf := br_n c1 hf
            refine lv_lload_n hx hb dX6_mixSamplesAndBlocks_78 rfl (lv_at hl 1 rfl) ?_
            refine lv_aload_n hx hb dX6_mixSamplesAndBlocks_79 rfl (lv_at hl 0 rfl) ?_
            refine lv_iload hx hb dX6_mixSamplesAndBlocks_80 (lv_at hl 2 rfl) ?_
            refine lv_iload hx hb dX6_mixSamplesAndBlocks_82 (lv_at hl 3 rfl) ?_
            obtain ⟨r4, s5, q3, hf⟩ := bo_inv hf
            refine ss_xcallVi (As := [.int x5, .int x6]) hx hb hml hown hK hW kb_X6_blockOf kM_RX6_402 rfl (by decide) (c_fx (by decide)) (mX6_blockOf l hfl (a1 := x5) (a2 := x6) q3) rfl dX6_mixSamplesAndBlocks_84 rfl hl.1 (Nat.le_of_ble_eq_true rfl) ⟨Nat.le_of_ble_eq_true rfl, Nat.le_of_ble_eq_true rfl⟩ ⟨Nat.zero_le _, Nat.zero_le _⟩ (fun H locs hW => ?_)
            refine lv_i2l (v := (r4).toInt64) hx hb dX6_mixSamplesAndBlocks_87 rfl ?_
            obtain ⟨r7, q6, hf⟩ := bd_inv hf
            refine ss_callSl (As := [.long x3, .long ((r4).toInt64)]) hx hb hml hown hK hW kb_X6_mix kM_RX6_324 (mX6_mix l (a0 := x3) (a2 := ((r4).toInt64)) q6) rfl dX6_mixSamplesAndBlocks_88 rfl hl.1 (Nat.le_of_ble_eq_true rfl) ⟨Nat.le_of_ble_eq_true rfl, Nat.le_of_ble_eq_true rfl⟩ ⟨Nat.zero_le _, Nat.zero_le _⟩ (fun H locs hW => ?_)
            refine lv_lstore_n (lv' := [(3, .long r7), (0, .ref (eA E 0)), (5, .int x5), (6, .int x6)]) hx hb dX6_mixSamplesAndBlocks_91 rfl hl (by decide) rfl (fun ls hl => ?_)
            obtain ⟨x6_8, ex6_8⟩ : ∃ y : Int32, y = (x6 + 1) := ⟨_, rfl⟩
            have hf := nm_use ex6_8 hf
            refine lv_iinc (v := x6_8) (lv' := [(6, .int x6_8), (3, .long r7), (0, .ref (eA E 0)), (5, .int x5)]) hx hb dX6_mixSamplesAndBlocks_92 hl (k := 3) rfl (by rw [ex6_8]; rfl) (by decide) rfl (fun ls hl => ?_)
            refine lv_goto (tgt := 71) hx hb dX6_mixSamplesAndBlocks_95 (by decide) ?_
            exact ih71 r7 x5 x6_8 s5 _ _ _ hW (lv_sub hl [2, 1, 3, 0] rfl) hf
      intro x3 x5 σ  H locs ls hW hl hf
      rw [fX6_mixSamplesAndBlocks_L56] at hf
      refine lv_iload hx hb dX6_mixSamplesAndBlocks_56 (lv_at hl 2 rfl) ?_
      refine lv_aload_n hx hb dX6_mixSamplesAndBlocks_58 rfl (lv_at hl 0 rfl) ?_
      refine g_X_now hx hb hown hK hW kF_RX6_12 dX6_mixSamplesAndBlocks_59 ?_
      refine g_State_blocks (i := 0) hx hb hown hK hW (by omega) kF_RX6_158 dX6_mixSamplesAndBlocks_62 ?_
      refine lv_icmp_ge (tgt := 104) hx hb dX6_mixSamplesAndBlocks_65 (by decide) (fun c9 => ?_) (fun c9 => ?_)
      · have hf := br_p c9 hf
        refine lv_lload_n hx hb dX6_mixSamplesAndBlocks_104 rfl (lv_at hl 1 rfl) ?_
        cases hf
        exact ss_lret hx hb hr hlk hW rfl dX6_mixSamplesAndBlocks_105
      · have hf := br_n c9 hf
        refine lv_iconst (v := 0) hx hb dX6_mixSamplesAndBlocks_68 (by decide) ?_
        refine lv_istore (lv' := [(6, .int 0), (0, .ref (eA E 0)), (3, .long x3), (5, .int x5)]) hx hb dX6_mixSamplesAndBlocks_69 hl (by decide) rfl (fun ls hl => ?_)
        exact h71 80 x3 x5 0 σ _ _ _ hW (lv_sub hl [1, 2, 3, 0] rfl) hf
  have h5 : ∀ (n5 : Nat) (x3 : Int64) (x5 : Int32) (σ : Sg) (H : Heap) (locs : List Loc) (ls : Array Slot), Wk E σ μ dg s H locs → lv_has ls 7 [(0, .ref (eA E 0)), (3, .long x3), (5, .int x5)] → fX6_mixSamplesAndBlocks_L5 n5 x3 x5 σ = some (r, σ') → W p l e (Rm 8 133) s m [.ref (eA E 0), .long a1].toArray below meth c H locs 0 0 (MQ below (Ql E σ' μ dg r) [.ref (eA E 0), .long a1].toArray s 0 0 (eP E)) (F0 m 5 ls []) := by
    intro n5
    induction n5 with
    | zero =>
      intro x3 x5 σ  H locs ls hW hl hf
      exact absurd hf (by simp [fX6_mixSamplesAndBlocks_L5])
    | succ n5 ih5 =>
      have h20 : ∀ (n20 : Nat) (x3 : Int64) (x5 : Int32) (x6 : Int32) (σ : Sg) (H : Heap) (locs : List Loc) (ls : Array Slot), Wk E σ μ dg s H locs → lv_has ls 7 [(0, .ref (eA E 0)), (3, .long x3), (5, .int x5), (6, .int x6)] → fX6_mixSamplesAndBlocks_L20 (fun x3 x5 σ => fX6_mixSamplesAndBlocks_L5 n5 x3 x5 σ) n20 x3 x5 x6 σ = some (r, σ') → W p l e (Rm 8 133) s m [.ref (eA E 0), .long a1].toArray below meth c H locs 0 0 (MQ below (Ql E σ' μ dg r) [.ref (eA E 0), .long a1].toArray s 0 0 (eP E)) (F0 m 20 ls []) := by
        intro n20
        induction n20 with
        | zero =>
          intro x3 x5 x6 σ  H locs ls hW hl hf
          exact absurd hf (by simp [fX6_mixSamplesAndBlocks_L20])
        | succ n20 ih20 =>
          intro x3 x5 x6 σ  H locs ls hW hl hf
          rw [fX6_mixSamplesAndBlocks_L20] at hf
          refine lv_iload hx hb dX6_mixSamplesAndBlocks_20 (lv_at hl 3 rfl) ?_
          refine lv_bipush (v := 6) hx hb dX6_mixSamplesAndBlocks_22 (by decide) ?_
          refine lv_icmp_ge (tgt := 47) hx hb dX6_mixSamplesAndBlocks_24 (by decide) (fun c10 => ?_) (fun c10 => ?_)
          · have hf := br_p c10 hf
            obtain ⟨x5_11, ex5_11⟩ : ∃ y : Int32, y = (x5 + 1) := ⟨_, rfl⟩
            have hf := nm_use ex5_11 hf
            refine lv_iinc (v := x5_11) (lv' := [(5, .int x5_11), (0, .ref (eA E 0)), (3, .long x3), (6, .int x6)]) hx hb dX6_mixSamplesAndBlocks_47 hl (k := 2) rfl (by rw [ex5_11]; rfl) (by decide) rfl (fun ls hl => ?_)
            refine lv_goto (tgt := 5) hx hb dX6_mixSamplesAndBlocks_50 (by decide) ?_
            exact ih5 x3 x5_11 σ _ _ _ hW (lv_sub hl [1, 2, 0] rfl) hf
          · have hf := br_n c10 hf
            refine lv_lload_n hx hb dX6_mixSamplesAndBlocks_27 rfl (lv_at hl 1 rfl) ?_
            refine lv_aload_n hx hb dX6_mixSamplesAndBlocks_28 rfl (lv_at hl 0 rfl) ?_
            refine lv_iload hx hb dX6_mixSamplesAndBlocks_29 (lv_at hl 2 rfl) ?_
            refine lv_iload hx hb dX6_mixSamplesAndBlocks_31 (lv_at hl 3 rfl) ?_
            obtain ⟨r13, s14, q12, hf⟩ := bo_inv hf
            refine ss_xcallVi (As := [.int x5, .int x6]) hx hb hml hown hK hW kb_X6_sampleOf kM_RX6_399 rfl (by decide) (c_fx (by decide)) (mX6_sampleOf l hfl (a1 := x5) (a2 := x6) q12) rfl dX6_mixSamplesAndBlocks_33 rfl hl.1 (Nat.le_of_ble_eq_true rfl) ⟨Nat.le_of_ble_eq_true rfl, Nat.le_of_ble_eq_true rfl⟩ ⟨Nat.zero_le _, Nat.zero_le _⟩ (fun H locs hW => ?_)
            refine lv_i2l (v := (r13).toInt64) hx hb dX6_mixSamplesAndBlocks_36 rfl ?_
            obtain ⟨r16, q15, hf⟩ := bd_inv hf
            refine ss_callSl (As := [.long x3, .long ((r13).toInt64)]) hx hb hml hown hK hW kb_X6_mix kM_RX6_324 (mX6_mix l (a0 := x3) (a2 := ((r13).toInt64)) q15) rfl dX6_mixSamplesAndBlocks_37 rfl hl.1 (Nat.le_of_ble_eq_true rfl) ⟨Nat.le_of_ble_eq_true rfl, Nat.le_of_ble_eq_true rfl⟩ ⟨Nat.zero_le _, Nat.zero_le _⟩ (fun H locs hW => ?_)
            refine lv_lstore_n (lv' := [(3, .long r16), (0, .ref (eA E 0)), (5, .int x5), (6, .int x6)]) hx hb dX6_mixSamplesAndBlocks_40 rfl hl (by decide) rfl (fun ls hl => ?_)
            obtain ⟨x6_17, ex6_17⟩ : ∃ y : Int32, y = (x6 + 1) := ⟨_, rfl⟩
            have hf := nm_use ex6_17 hf
            refine lv_iinc (v := x6_17) (lv' := [(6, .int x6_17), (3, .long r16), (0, .ref (eA E 0)), (5, .int x5)]) hx hb dX6_mixSamplesAndBlocks_41 hl (k := 3) rfl (by rw [ex6_17]; rfl) (by decide) rfl (fun ls hl => ?_)
            refine lv_goto (tgt := 20) hx hb dX6_mixSamplesAndBlocks_44 (by decide) ?_
            exact ih20 r16 x5 x6_17 s14 _ _ _ hW (lv_sub hl [2, 1, 3, 0] rfl) hf
      intro x3 x5 σ  H locs ls hW hl hf
      rw [fX6_mixSamplesAndBlocks_L5] at hf
      refine lv_iload hx hb dX6_mixSamplesAndBlocks_5 (lv_at hl 2 rfl) ?_
      refine lv_aload_n hx hb dX6_mixSamplesAndBlocks_7 rfl (lv_at hl 0 rfl) ?_
      refine g_X_now hx hb hown hK hW kF_RX6_12 dX6_mixSamplesAndBlocks_8 ?_
      refine g_State_many (i := 0) hx hb hown hK hW (by omega) kF_RX6_72 dX6_mixSamplesAndBlocks_11 ?_
      refine lv_icmp_ge (tgt := 53) hx hb dX6_mixSamplesAndBlocks_14 (by decide) (fun c18 => ?_) (fun c18 => ?_)
      · have hf := br_p c18 hf
        refine lv_iconst (v := 0) hx hb dX6_mixSamplesAndBlocks_53 (by decide) ?_
        refine lv_istore (lv' := [(5, .int 0), (0, .ref (eA E 0)), (3, .long x3)]) hx hb dX6_mixSamplesAndBlocks_54 hl (by decide) rfl (fun ls hl => ?_)
        exact h56 80 x3 0 σ _ _ _ hW (lv_sub hl [1, 2, 0] rfl) hf
      · have hf := br_n c18 hf
        refine lv_iconst (v := 0) hx hb dX6_mixSamplesAndBlocks_17 (by decide) ?_
        refine lv_istore (lv' := [(6, .int 0), (0, .ref (eA E 0)), (3, .long x3), (5, .int x5)]) hx hb dX6_mixSamplesAndBlocks_18 hl (by decide) rfl (fun ls hl => ?_)
        exact h20 80 x3 x5 0 σ _ _ _ hW (lv_sub hl [1, 2, 3, 0] rfl) hf
  refine lv_lload_n hx hb dX6_mixSamplesAndBlocks_0 rfl (lv_at hl 1 rfl) ?_
  refine lv_lstore_n (lv' := [(3, .long a1), (0, .ref (eA E 0)), (1, .long a1)]) hx hb dX6_mixSamplesAndBlocks_1 rfl hl (by decide) rfl (fun ls hl => ?_)
  refine lv_iconst (v := 0) hx hb dX6_mixSamplesAndBlocks_2 (by decide) ?_
  refine lv_istore (lv' := [(5, .int 0), (3, .long a1), (0, .ref (eA E 0)), (1, .long a1)]) hx hb dX6_mixSamplesAndBlocks_3 hl (by decide) rfl (fun ls hl => ?_)
  exact h5 80 a1 0 σ _ _ _ hW (lv_sub hl [2, 1, 0] rfl) hf
def fX6_refuseUnlessCodeBit (a1 : Int32) (a2 : Int32) (σ : Sg) : Option ((Unit ⊕ Nat) × Sg) := bd (fX4_hasCode 0 a1 σ) fun r2 => if r2 = 0 then (some (.inr 1, σ)) else (if a2 < 0 then (some (.inr 0, σ)) else (if a2 < 4 then (some (.inl (), σ)) else (some (.inr 0, σ))))
set_option maxHeartbeats 4000000 in
set_option maxRecDepth 100000 in
theorem mX6_refuseUnlessCodeBit (l : Launch) (hfl : l.stackTraces = false) {E : En} {σ μ : Sg} {dg : Int64} {a1 : Int32} {a2 : Int32}  {res : Unit ⊕ Nat} {σ' : Sg} (hf : fX6_refuseUnlessCodeBit a1 a2 σ = some (res, σ')) : vx_Met l yX6_refuseUnlessCodeBit [.code yX6_refuseUnlessCodeBit cX6_refuseUnlessCodeBit 3 none] (RmX res 6 90) (va_Pc [.ref (eA E 0), .int a1, .int a2] (Wd E σ μ dg)) (Qxv E σ' μ dg res) (Xx E σ' μ dg res) (xc res) (xs6 res) (eP E) := by
  refine ss_ofX (by decide) (Nat.le_of_ble_eq_true rfl) (fun p e s m below meth c hx hb hr hlk hml hown hex hK hW ls hl => ?_)
  have hown : s.vm.findClass RX6 = some m.cls := hown
  have hl : lv_has ls 3 [(0, .ref (eA E 0)), (1, .int a1), (2, .int a2)] := hl
  unfold fX6_refuseUnlessCodeBit at hf
  refine lv_aload_n hx hb dX6_refuseUnlessCodeBit_0 rfl (lv_at hl 0 rfl) ?_
  refine g_X_now hx hb hown hK hW kF_RX6_12 dX6_refuseUnlessCodeBit_1 ?_
  refine lv_iload_n hx hb dX6_refuseUnlessCodeBit_4 rfl (lv_at hl 1 rfl) ?_
  obtain ⟨r2, q1, hf⟩ := bd_inv hf
  refine ss_callVi (As := [.int a1]) hx hb hml hown hK hW kb_X4_hasCode kM_RX6_362 rfl (by omega) (c_st (i := 0) (by omega) 0 (by decide)) (mX4_hasCode l (i0 := 0) (a1 := a1) (by omega) q1) rfl dX6_refuseUnlessCodeBit_5 rfl hl.1 (Nat.le_of_ble_eq_true rfl) ⟨Nat.le_of_ble_eq_true rfl, Nat.le_of_ble_eq_true rfl⟩ ⟨Nat.zero_le _, Nat.zero_le _⟩ (fun H locs hW => ?_)
  refine lv_if_ne (tgt := 22) hx hb dX6_refuseUnlessCodeBit_8 (by decide) (fun c3 => ?_) (fun c3 => ?_)
  · have hf := br_n c3 hf
    refine lv_iload_n hx hb dX6_refuseUnlessCodeBit_22 rfl (lv_at hl 2 rfl) ?_
    refine lv_if_lt (tgt := 31) hx hb dX6_refuseUnlessCodeBit_23 (by decide) (fun c4 => ?_) (fun c4 => ?_)
    · have hf := br_p c4 hf
      cases hf
      exact ss_throwW hx hb hfl hlk hex hml hl.1 hown hK hW (k0 := 0) (text := "a bit is 0 to 3") (by simp [strs]) kL_RX6_62 kT_0_66 dX6_refuseUnlessCodeBit_31 dX6_refuseUnlessCodeBit_34 dX6_refuseUnlessCodeBit_35 dX6_refuseUnlessCodeBit_38 dX6_refuseUnlessCodeBit_41 (Nat.le_of_ble_eq_true rfl) (Nat.le_of_ble_eq_true rfl) ⟨Nat.le_refl 1, Nat.le_refl 6⟩
    · have hf := br_n c4 hf
      refine lv_iload_n hx hb dX6_refuseUnlessCodeBit_26 rfl (lv_at hl 2 rfl) ?_
      refine lv_iconst (v := 4) hx hb dX6_refuseUnlessCodeBit_27 (by decide) ?_
      refine lv_icmp_lt (tgt := 42) hx hb dX6_refuseUnlessCodeBit_28 (by decide) (fun c5 => ?_) (fun c5 => ?_)
      · have hf := br_p c5 hf
        cases hf
        exact ss_vxret hx hb hr hlk hW dX6_refuseUnlessCodeBit_42
      · have hf := br_n c5 hf
        cases hf
        exact ss_throwW hx hb hfl hlk hex hml hl.1 hown hK hW (k0 := 0) (text := "a bit is 0 to 3") (by simp [strs]) kL_RX6_62 kT_0_66 dX6_refuseUnlessCodeBit_31 dX6_refuseUnlessCodeBit_34 dX6_refuseUnlessCodeBit_35 dX6_refuseUnlessCodeBit_38 dX6_refuseUnlessCodeBit_41 (Nat.le_of_ble_eq_true rfl) (Nat.le_of_ble_eq_true rfl) ⟨Nat.le_refl 1, Nat.le_refl 6⟩
  · have hf := br_p c3 hf
    cases hf
    exact ss_throwW hx hb hfl hlk hex hml hl.1 hown hK hW (k0 := 1) (text := "no such sample, or it has no code") (by simp [strs]) kL_RX6_84 kT_1_88 dX6_refuseUnlessCodeBit_11 dX6_refuseUnlessCodeBit_14 dX6_refuseUnlessCodeBit_15 dX6_refuseUnlessCodeBit_18 dX6_refuseUnlessCodeBit_21 (Nat.le_of_ble_eq_true rfl) (Nat.le_of_ble_eq_true rfl) ⟨Nat.le_refl 1, Nat.le_refl 6⟩
def fX6_ifSpoiled (a1 : Int32) (a2 : Int32) (σ : Sg) : Option ((Int32 ⊕ Nat) × Sg) := bx (fX6_refuseUnlessCodeBit a1 a2 σ) fun r2 s3 => bd (fX2_decode 0 0 s3) fun s7 => bd (fX4_turnOver 0 a1 a2 s7) fun s9 => nm (up2 s9 (86 + 3 * 1) 3 0) fun s10 => bd (fX2_decode 1 0 s10) fun s12 => bd (fX4_turnOver 0 a1 a2 s12) fun s14 => bd (fX2_othersThan 1 0 (s14 (10 + 8 * 0) 0) s14) fun r16 => some (.inl r16, s14)
set_option maxHeartbeats 4000000 in
set_option maxRecDepth 100000 in
theorem mX6_ifSpoiled (l : Launch) (hfl : l.stackTraces = false) {E : En} {σ μ : Sg} {dg : Int64} {a1 : Int32} {a2 : Int32}  {res : Int32 ⊕ Nat} {σ' : Sg} (hf : fX6_ifSpoiled a1 a2 σ = some (res, σ')) : vx_Met l yX6_ifSpoiled [.code yX6_ifSpoiled cX6_ifSpoiled 3 (some .int)] (RmX res 7 112) (va_Pc [.ref (eA E 0), .int a1, .int a2] (Wd E σ μ dg)) (Qxi E σ' μ dg res) (Xx E σ' μ dg res) (xc res) (xs6 res) (eP E) := by
  refine ss_ofX (by decide) (Nat.le_of_ble_eq_true rfl) (fun p e s m below meth c hx hb hr hlk hml hown hex hK hW ls hl => ?_)
  have hown : s.vm.findClass RX6 = some m.cls := hown
  have hl : lv_has ls 3 [(0, .ref (eA E 0)), (1, .int a1), (2, .int a2)] := hl
  unfold fX6_ifSpoiled at hf
  refine lv_aload_n hx hb dX6_ifSpoiled_0 rfl (lv_at hl 0 rfl) ?_
  refine lv_iload_n hx hb dX6_ifSpoiled_1 rfl (lv_at hl 1 rfl) ?_
  refine lv_iload_n hx hb dX6_ifSpoiled_2 rfl (lv_at hl 2 rfl) ?_
  rcases bx_inv hf with ⟨r2, s3, q1, hf⟩ | ⟨ex4, s5, q1, hf⟩
  rotate_left
  · cases hf
    exact ss_xthrVv (As := [.int a1, .int a2]) hx hb hlk hex hml hown hK hW kb_X6_refuseUnlessCodeBit kM_RX6_171 rfl (by decide) (c_fx (by decide)) (mX6_refuseUnlessCodeBit l hfl (a1 := a1) (a2 := a2) q1) rfl dX6_ifSpoiled_3 rfl hl.1 (Nat.le_of_ble_eq_true rfl) ⟨Nat.le_of_ble_eq_true rfl, Nat.le_of_ble_eq_true rfl⟩ ⟨Nat.le_refl 1, Nat.le_refl 6⟩
  refine ss_xcallVv (As := [.int a1, .int a2]) hx hb hml hown hK hW kb_X6_refuseUnlessCodeBit kM_RX6_171 rfl (by decide) (c_fx (by decide)) (mX6_refuseUnlessCodeBit l hfl (a1 := a1) (a2 := a2) q1) rfl dX6_ifSpoiled_3 rfl hl.1 (Nat.le_of_ble_eq_true rfl) ⟨Nat.le_of_ble_eq_true rfl, Nat.le_of_ble_eq_true rfl⟩ ⟨Nat.zero_le _, Nat.zero_le _⟩ (fun H locs hW => ?_)
  refine lv_aload_n hx hb dX6_ifSpoiled_6 rfl (lv_at hl 0 rfl) ?_
  refine g_X_decoder hx hb hown hK hW kF_RX6_48 dX6_ifSpoiled_7 ?_
  refine lv_aload_n hx hb dX6_ifSpoiled_10 rfl (lv_at hl 0 rfl) ?_
  refine g_X_now hx hb hown hK hW kF_RX6_12 dX6_ifSpoiled_11 ?_
  obtain ⟨s7, q6, hf⟩ := bd_inv hf
  refine ss_callVv (As := [.ref (eA E (10 + 8 * 0))]) hx hb hml hown hK hW kb_X2_decode kM_RX6_124 rfl (by omega) (c_dc (d := 0) (by omega) 0 (by decide)) (mX2_decode l (i0 := 0) (i1 := 0) (by omega) (by omega) q6) rfl dX6_ifSpoiled_14 rfl hl.1 (Nat.le_of_ble_eq_true rfl) ⟨Nat.le_of_ble_eq_true rfl, Nat.le_of_ble_eq_true rfl⟩ ⟨Nat.zero_le _, Nat.zero_le _⟩ (fun H locs hW => ?_)
  refine lv_aload_n hx hb dX6_ifSpoiled_17 rfl (lv_at hl 0 rfl) ?_
  refine g_X_now hx hb hown hK hW kF_RX6_12 dX6_ifSpoiled_18 ?_
  refine lv_iload_n hx hb dX6_ifSpoiled_21 rfl (lv_at hl 1 rfl) ?_
  refine lv_iload_n hx hb dX6_ifSpoiled_22 rfl (lv_at hl 2 rfl) ?_
  obtain ⟨s9, q8, hf⟩ := bd_inv hf
  refine ss_callVv (As := [.int a1, .int a2]) hx hb hml hown hK hW kb_X4_turnOver kM_RX6_175 rfl (by omega) (c_st (i := 0) (by omega) 0 (by decide)) (mX4_turnOver l (i0 := 0) (a1 := a1) (a2 := a2) (by omega) q8) rfl dX6_ifSpoiled_23 rfl hl.1 (Nat.le_of_ble_eq_true rfl) ⟨Nat.le_of_ble_eq_true rfl, Nat.le_of_ble_eq_true rfl⟩ ⟨Nat.zero_le _, Nat.zero_le _⟩ (fun H locs hW => ?_)
  refine lv_aload_n hx hb dX6_ifSpoiled_26 rfl (lv_at hl 0 rfl) ?_
  refine g_X_decoderAfter hx hb hown hK hW kF_RX6_52 dX6_ifSpoiled_27 ?_
  refine lv_iconst (v := 0) hx hb dX6_ifSpoiled_30 (by decide) ?_
  refine p_Dec_upToDate (i := 1) hx hb hown hK hW (by omega) (by decide) kF_RX6_215 dX6_ifSpoiled_31 (fun H locs hW => ?_)
  obtain ⟨s10, es10⟩ : ∃ y : Sg, y = (up2 s9 (86 + 3 * 1) 3 0) := ⟨_, rfl⟩
  have hf := nm_use es10 hf
  rw [← es10] at hW
  refine lv_aload_n hx hb dX6_ifSpoiled_34 rfl (lv_at hl 0 rfl) ?_
  refine g_X_decoderAfter hx hb hown hK hW kF_RX6_52 dX6_ifSpoiled_35 ?_
  refine lv_aload_n hx hb dX6_ifSpoiled_38 rfl (lv_at hl 0 rfl) ?_
  refine g_X_now hx hb hown hK hW kF_RX6_12 dX6_ifSpoiled_39 ?_
  obtain ⟨s12, q11, hf⟩ := bd_inv hf
  refine ss_callVv (As := [.ref (eA E (10 + 8 * 0))]) hx hb hml hown hK hW kb_X2_decode kM_RX6_124 rfl (by omega) (c_dc (d := 1) (by omega) 0 (by decide)) (mX2_decode l (i0 := 1) (i1 := 0) (by omega) (by omega) q11) rfl dX6_ifSpoiled_42 rfl hl.1 (Nat.le_of_ble_eq_true rfl) ⟨Nat.le_of_ble_eq_true rfl, Nat.le_of_ble_eq_true rfl⟩ ⟨Nat.zero_le _, Nat.zero_le _⟩ (fun H locs hW => ?_)
  refine lv_aload_n hx hb dX6_ifSpoiled_45 rfl (lv_at hl 0 rfl) ?_
  refine g_X_now hx hb hown hK hW kF_RX6_12 dX6_ifSpoiled_46 ?_
  refine lv_iload_n hx hb dX6_ifSpoiled_49 rfl (lv_at hl 1 rfl) ?_
  refine lv_iload_n hx hb dX6_ifSpoiled_50 rfl (lv_at hl 2 rfl) ?_
  obtain ⟨s14, q13, hf⟩ := bd_inv hf
  refine ss_callVv (As := [.int a1, .int a2]) hx hb hml hown hK hW kb_X4_turnOver kM_RX6_175 rfl (by omega) (c_st (i := 0) (by omega) 0 (by decide)) (mX4_turnOver l (i0 := 0) (a1 := a1) (a2 := a2) (by omega) q13) rfl dX6_ifSpoiled_51 rfl hl.1 (Nat.le_of_ble_eq_true rfl) ⟨Nat.le_of_ble_eq_true rfl, Nat.le_of_ble_eq_true rfl⟩ ⟨Nat.zero_le _, Nat.zero_le _⟩ (fun H locs hW => ?_)
  refine lv_aload_n hx hb dX6_ifSpoiled_54 rfl (lv_at hl 0 rfl) ?_
  refine g_X_decoderAfter hx hb hown hK hW kF_RX6_52 dX6_ifSpoiled_55 ?_
  refine lv_aload_n hx hb dX6_ifSpoiled_58 rfl (lv_at hl 0 rfl) ?_
  refine g_X_decoder hx hb hown hK hW kF_RX6_48 dX6_ifSpoiled_59 ?_
  refine lv_aload_n hx hb dX6_ifSpoiled_62 rfl (lv_at hl 0 rfl) ?_
  refine g_X_now hx hb hown hK hW kF_RX6_12 dX6_ifSpoiled_63 ?_
  refine g_State_many (i := 0) hx hb hown hK hW (by omega) kF_RX6_72 dX6_ifSpoiled_66 ?_
  obtain ⟨r16, q15, hf⟩ := bd_inv hf
  refine ss_callVi (As := [.ref (eA E (86 + 3 * 0)), .int (s14 (10 + 8 * 0) 0)]) hx hb hml hown hK hW kb_X2_othersThan kM_RX6_219 rfl (by omega) (c_dc (d := 1) (by omega) 0 (by decide)) (mX2_othersThan l (i0 := 1) (i1 := 0) (a2 := (s14 (10 + 8 * 0) 0)) (by omega) (by omega) q15) rfl dX6_ifSpoiled_69 rfl hl.1 (Nat.le_of_ble_eq_true rfl) ⟨Nat.le_of_ble_eq_true rfl, Nat.le_of_ble_eq_true rfl⟩ ⟨Nat.zero_le _, Nat.zero_le _⟩ (fun H locs hW => ?_)
  cases hf
  exact ss_ixret hx hb hr hlk hW dX6_ifSpoiled_72
def fX6_mixWhatWouldBe_L21  (n : Nat) (x3 : Int64) (x5 : Int32) (σ : Sg) : Option (Int64 × Sg) := match n with
  | 0 => none
  | n + 1 => if (σ (10 + 8 * 0) 0) ≤ x5 then (some (x3, σ)) else (bd (fX4_hasCode 0 x5 σ) fun r3 => if r3 = 0 then (nm (x5 + 1) fun x5_5 => (fun x3 x5 σ => fX6_mixWhatWouldBe_L21 n x3 x5 σ) x3 x5_5 σ) else (bo (fX6_ifSpoiled x5 3 σ) fun r7 s8 => bd (fX6_mix x3 ((r7).toInt64)) fun r10 => nm (x5 + 1) fun x5_11 => (fun x3 x5 σ => fX6_mixWhatWouldBe_L21 n x3 x5 σ) r10 x5_11 s8))
def fX6_mixWhatWouldBe (a1 : Int64) (σ : Sg) : Option (Int64 × Sg) := bo (fX6_bestStep 0 (σ (10 + 8 * 0) 0) σ) fun r13 s14 => bd (fX6_mix a1 ((r13).toInt64)) fun r16 => fX6_mixWhatWouldBe_L21 80 r16 0 s14
set_option maxHeartbeats 4000000 in
set_option maxRecDepth 100000 in
theorem mX6_mixWhatWouldBe (l : Launch) (hfl : l.stackTraces = false) {E : En} {σ μ : Sg} {dg : Int64} {a1 : Int64}  {r : Int64} {σ' : Sg} (hf : fX6_mixWhatWouldBe a1 σ = some (r, σ')) : Met l yX6_mixWhatWouldBe [.code yX6_mixWhatWouldBe cX6_mixWhatWouldBe 6 (some .long)] (Rm 8 141) (va_Pc [.ref (eA E 0), .long a1] (Wd E σ μ dg)) (Ql E σ' μ dg r) 0 0 (eP E) := by
  refine ss_of (by decide) (Nat.le_of_ble_eq_true rfl) (fun p e s m below meth c hx hb hr hlk hml hown hK hW ls hl => ?_)
  have hown : s.vm.findClass RX6 = some m.cls := hown
  have hl : lv_has ls 6 [(0, .ref (eA E 0)), (1, .long a1)] := hl
  unfold fX6_mixWhatWouldBe at hf
  have h21 : ∀ (n21 : Nat) (x3 : Int64) (x5 : Int32) (σ : Sg) (H : Heap) (locs : List Loc) (ls : Array Slot), Wk E σ μ dg s H locs → lv_has ls 6 [(0, .ref (eA E 0)), (3, .long x3), (5, .int x5)] → fX6_mixWhatWouldBe_L21 n21 x3 x5 σ = some (r, σ') → W p l e (Rm 8 141) s m [.ref (eA E 0), .long a1].toArray below meth c H locs 0 0 (MQ below (Ql E σ' μ dg r) [.ref (eA E 0), .long a1].toArray s 0 0 (eP E)) (F0 m 21 ls []) := by
    intro n21
    induction n21 with
    | zero =>
      intro x3 x5 σ  H locs ls hW hl hf
      exact absurd hf (by simp [fX6_mixWhatWouldBe_L21])
    | succ n21 ih21 =>
      intro x3 x5 σ  H locs ls hW hl hf
      rw [fX6_mixWhatWouldBe_L21] at hf
      refine lv_iload hx hb dX6_mixWhatWouldBe_21 (lv_at hl 2 rfl) ?_
      refine lv_aload_n hx hb dX6_mixWhatWouldBe_23 rfl (lv_at hl 0 rfl) ?_
      refine g_X_now hx hb hown hK hW kF_RX6_12 dX6_mixWhatWouldBe_24 ?_
      refine g_State_many (i := 0) hx hb hown hK hW (by omega) kF_RX6_72 dX6_mixWhatWouldBe_27 ?_
      refine lv_icmp_ge (tgt := 64) hx hb dX6_mixWhatWouldBe_30 (by decide) (fun c1 => ?_) (fun c1 => ?_)
      · have hf := br_p c1 hf
        refine lv_lload_n hx hb dX6_mixWhatWouldBe_64 rfl (lv_at hl 1 rfl) ?_
        cases hf
        exact ss_lret hx hb hr hlk hW rfl dX6_mixWhatWouldBe_65
      · have hf := br_n c1 hf
        refine lv_aload_n hx hb dX6_mixWhatWouldBe_33 rfl (lv_at hl 0 rfl) ?_
        refine g_X_now hx hb hown hK hW kF_RX6_12 dX6_mixWhatWouldBe_34 ?_
        refine lv_iload hx hb dX6_mixWhatWouldBe_37 (lv_at hl 2 rfl) ?_
        obtain ⟨r3, q2, hf⟩ := bd_inv hf
        refine ss_callVi (As := [.int x5]) hx hb hml hown hK hW kb_X4_hasCode kM_RX6_362 rfl (by omega) (c_st (i := 0) (by omega) 0 (by decide)) (mX4_hasCode l (i0 := 0) (a1 := x5) (by omega) q2) rfl dX6_mixWhatWouldBe_39 rfl hl.1 (Nat.le_of_ble_eq_true rfl) ⟨Nat.le_of_ble_eq_true rfl, Nat.le_of_ble_eq_true rfl⟩ ⟨Nat.zero_le _, Nat.zero_le _⟩ (fun H locs hW => ?_)
        refine lv_if_eq (tgt := 58) hx hb dX6_mixWhatWouldBe_42 (by decide) (fun c4 => ?_) (fun c4 => ?_)
        · have hf := br_p c4 hf
          obtain ⟨x5_5, ex5_5⟩ : ∃ y : Int32, y = (x5 + 1) := ⟨_, rfl⟩
          have hf := nm_use ex5_5 hf
          refine lv_iinc (v := x5_5) (lv' := [(5, .int x5_5), (0, .ref (eA E 0)), (3, .long x3)]) hx hb dX6_mixWhatWouldBe_58 hl (k := 2) rfl (by rw [ex5_5]; rfl) (by decide) rfl (fun ls hl => ?_)
          refine lv_goto (tgt := 21) hx hb dX6_mixWhatWouldBe_61 (by decide) ?_
          exact ih21 x3 x5_5 σ _ _ _ hW (lv_sub hl [1, 2, 0] rfl) hf
        · have hf := br_n c4 hf
          refine lv_lload_n hx hb dX6_mixWhatWouldBe_45 rfl (lv_at hl 1 rfl) ?_
          refine lv_aload_n hx hb dX6_mixWhatWouldBe_46 rfl (lv_at hl 0 rfl) ?_
          refine lv_iload hx hb dX6_mixWhatWouldBe_47 (lv_at hl 2 rfl) ?_
          refine lv_iconst (v := 3) hx hb dX6_mixWhatWouldBe_49 (by decide) ?_
          obtain ⟨r7, s8, q6, hf⟩ := bo_inv hf
          refine ss_xcallVi (As := [.int x5, .int 3]) hx hb hml hown hK hW kb_X6_ifSpoiled kM_RX6_408 rfl (by decide) (c_fx (by decide)) (mX6_ifSpoiled l hfl (a1 := x5) (a2 := 3) q6) rfl dX6_mixWhatWouldBe_50 rfl hl.1 (Nat.le_of_ble_eq_true rfl) ⟨Nat.le_of_ble_eq_true rfl, Nat.le_of_ble_eq_true rfl⟩ ⟨Nat.zero_le _, Nat.zero_le _⟩ (fun H locs hW => ?_)
          refine lv_i2l (v := (r7).toInt64) hx hb dX6_mixWhatWouldBe_53 rfl ?_
          obtain ⟨r10, q9, hf⟩ := bd_inv hf
          refine ss_callSl (As := [.long x3, .long ((r7).toInt64)]) hx hb hml hown hK hW kb_X6_mix kM_RX6_324 (mX6_mix l (a0 := x3) (a2 := ((r7).toInt64)) q9) rfl dX6_mixWhatWouldBe_54 rfl hl.1 (Nat.le_of_ble_eq_true rfl) ⟨Nat.le_of_ble_eq_true rfl, Nat.le_of_ble_eq_true rfl⟩ ⟨Nat.zero_le _, Nat.zero_le _⟩ (fun H locs hW => ?_)
          refine lv_lstore_n (lv' := [(3, .long r10), (0, .ref (eA E 0)), (5, .int x5)]) hx hb dX6_mixWhatWouldBe_57 rfl hl (by decide) rfl (fun ls hl => ?_)
          obtain ⟨x5_11, ex5_11⟩ : ∃ y : Int32, y = (x5 + 1) := ⟨_, rfl⟩
          have hf := nm_use ex5_11 hf
          refine lv_iinc (v := x5_11) (lv' := [(5, .int x5_11), (3, .long r10), (0, .ref (eA E 0))]) hx hb dX6_mixWhatWouldBe_58 hl (k := 2) rfl (by rw [ex5_11]; rfl) (by decide) rfl (fun ls hl => ?_)
          refine lv_goto (tgt := 21) hx hb dX6_mixWhatWouldBe_61 (by decide) ?_
          exact ih21 r10 x5_11 s8 _ _ _ hW (lv_sub hl [2, 1, 0] rfl) hf
  refine lv_lload_n hx hb dX6_mixWhatWouldBe_0 rfl (lv_at hl 1 rfl) ?_
  refine lv_aload_n hx hb dX6_mixWhatWouldBe_1 rfl (lv_at hl 0 rfl) ?_
  refine lv_iconst (v := 0) hx hb dX6_mixWhatWouldBe_2 (by decide) ?_
  refine lv_aload_n hx hb dX6_mixWhatWouldBe_3 rfl (lv_at hl 0 rfl) ?_
  refine g_X_now hx hb hown hK hW kF_RX6_12 dX6_mixWhatWouldBe_4 ?_
  refine g_State_many (i := 0) hx hb hown hK hW (by omega) kF_RX6_72 dX6_mixWhatWouldBe_7 ?_
  obtain ⟨r13, s14, q12, hf⟩ := bo_inv hf
  refine ss_xcallVi (As := [.int 0, .int (σ (10 + 8 * 0) 0)]) hx hb hml hown hK hW kb_X6_bestStep kM_RX6_405 rfl (by decide) (c_fx (by decide)) (mX6_bestStep l hfl (a1 := 0) (a2 := (σ (10 + 8 * 0) 0)) q12) rfl dX6_mixWhatWouldBe_10 rfl hl.1 (Nat.le_of_ble_eq_true rfl) ⟨Nat.le_of_ble_eq_true rfl, Nat.le_of_ble_eq_true rfl⟩ ⟨Nat.zero_le _, Nat.zero_le _⟩ (fun H locs hW => ?_)
  refine lv_i2l (v := (r13).toInt64) hx hb dX6_mixWhatWouldBe_13 rfl ?_
  obtain ⟨r16, q15, hf⟩ := bd_inv hf
  refine ss_callSl (As := [.long a1, .long ((r13).toInt64)]) hx hb hml hown hK hW kb_X6_mix kM_RX6_324 (mX6_mix l (a0 := a1) (a2 := ((r13).toInt64)) q15) rfl dX6_mixWhatWouldBe_14 rfl hl.1 (Nat.le_of_ble_eq_true rfl) ⟨Nat.le_of_ble_eq_true rfl, Nat.le_of_ble_eq_true rfl⟩ ⟨Nat.zero_le _, Nat.zero_le _⟩ (fun H locs hW => ?_)
  refine lv_lstore_n (lv' := [(3, .long r16), (0, .ref (eA E 0)), (1, .long a1)]) hx hb dX6_mixWhatWouldBe_17 rfl hl (by decide) rfl (fun ls hl => ?_)
  refine lv_iconst (v := 0) hx hb dX6_mixWhatWouldBe_18 (by decide) ?_
  refine lv_istore (lv' := [(5, .int 0), (3, .long r16), (0, .ref (eA E 0)), (1, .long a1)]) hx hb dX6_mixWhatWouldBe_19 hl (by decide) rfl (fun ls hl => ?_)
  exact h21 80 r16 0 s14 _ _ _ hW (lv_sub hl [2, 1, 0] rfl) hf
def fX6_digest_L141  (n : Nat) (x1 : Int64) (x3 : Int32) (σ : Sg) : Option (Int64 × Sg) := match n with
  | 0 => none
  | n + 1 => if (σ 5 1) ≤ x3 then (some (x1, σ)) else (gd (¬ (x3 < 0 ∨ 40 ≤ (x3).toNatClampNeg)) <| bd (fX6_mix x1 (((σ 6 (x3).toNatClampNeg)).toInt64)) fun r4 => nm (x3 + 1) fun x3_5 => (fun x1 x3 σ => fX6_digest_L141 n x1 x3 σ) r4 x3_5 σ)
def fX6_digest_L96  (n : Nat) (x1 : Int64) (x3 : Int32) (σ : Sg) : Option (Int64 × Sg) := match n with
  | 0 => none
  | n + 1 => if 2 ≤ x3 then (bd (fX6_mix x1 (((σ 5 1)).toInt64)) fun r8 => fX6_digest_L141 80 r8 0 σ) else (gd (¬ (x3 < 0 ∨ 2 ≤ (x3).toNatClampNeg)) <| if (σ 4 (x3).toNatClampNeg) = 0 then (bd (fX6_mix x1 0) fun r12 => nm (x3 + 1) fun x3_13 => (fun x1 x3 σ => fX6_digest_L96 n x1 x3 σ) r12 x3_13 σ) else (bd (fX6_mix x1 1) fun r15 => nm (x3 + 1) fun x3_16 => (fun x1 x3 σ => fX6_digest_L96 n x1 x3 σ) r15 x3_16 σ))
def fX6_digest_L31  (n : Nat) (x1 : Int64) (x3 : Int32) (σ : Sg) : Option (Int64 × Sg) := match n with
  | 0 => none
  | n + 1 => if 3 ≤ x3 then (bd2 (fX6_mixSamplesAndBlocks x1 σ) fun r19 s20 => bd2 (fX6_mixWhatWouldBe r19 s20) fun r22 s23 => bd2 (fX6_meanSquare s23) fun r25 s26 => bd (fX6_bitsOfDouble r25) fun r28 => bd (fX6_mix r22 r28) fun r30 => bd2 (fX6_loudness s26) fun r32 s33 => bd (fX6_bitsOfFloat r32) fun r35 => bd (fX6_mix r30 ((r35).toInt64)) fun r37 => fX6_digest_L96 80 r37 0 s33) else (gd (¬ (x3 < 0 ∨ 3 ≤ (x3).toNatClampNeg)) <| bd (fX6_mix x1 (((σ (10 + 8 * 0 + 2) (x3).toNatClampNeg)).toInt64)) fun r40 => nm (x3 + 1) fun x3_41 => (fun x1 x3 σ => fX6_digest_L31 n x1 x3 σ) r40 x3_41 σ)
def fX6_digest_L6  (n : Nat) (x1 : Int64) (x3 : Int32) (σ : Sg) : Option (Int64 × Sg) := match n with
  | 0 => none
  | n + 1 => if 12 ≤ x3 then (fX6_digest_L31 80 x1 0 σ) else (bo (fX6_count x3 σ) fun r44 s45 => bd (fX6_mix x1 ((r44).toInt64)) fun r47 => nm (x3 + 1) fun x3_48 => (fun x1 x3 σ => fX6_digest_L6 n x1 x3 σ) r47 x3_48 s45)
def fX6_digest (σ : Sg) : Option (Int64 × Sg) := fX6_digest_L6 80 3329 0 σ
set_option maxHeartbeats 4000000 in
set_option maxRecDepth 100000 in
theorem mX6_digest (l : Launch) (hfl : l.stackTraces = false) {E : En} {σ μ : Sg} {dg : Int64}   {r : Int64} {σ' : Sg} (hf : fX6_digest σ = some (r, σ')) : Met l yX6_digest [.code yX6_digest cX6_digest 4 (some .long)] (Rm 9 166) (va_Pc [.ref (eA E 0)] (Wd E σ μ dg)) (Ql E σ' μ dg r) 0 0 (eP E) := by
  refine ss_of (by decide) (Nat.le_of_ble_eq_true rfl) (fun p e s m below meth c hx hb hr hlk hml hown hK hW ls hl => ?_)
  have hown : s.vm.findClass RX6 = some m.cls := hown
  have hl : lv_has ls 4 [(0, .ref (eA E 0))] := hl
  unfold fX6_digest at hf
  have h141 : ∀ (n141 : Nat) (x1 : Int64) (x3 : Int32) (σ : Sg) (H : Heap) (locs : List Loc) (ls : Array Slot), Wk E σ μ dg s H locs → lv_has ls 4 [(0, .ref (eA E 0)), (1, .long x1), (3, .int x3)] → fX6_digest_L141 n141 x1 x3 σ = some (r, σ') → W p l e (Rm 9 166) s m [.ref (eA E 0)].toArray below meth c H locs 0 0 (MQ below (Ql E σ' μ dg r) [.ref (eA E 0)].toArray s 0 0 (eP E)) (F0 m 141 ls []) := by
    intro n141
    induction n141 with
    | zero =>
      intro x1 x3 σ  H locs ls hW hl hf
      exact absurd hf (by simp [fX6_digest_L141])
    | succ n141 ih141 =>
      intro x1 x3 σ  H locs ls hW hl hf
      rw [fX6_digest_L141] at hf
      refine lv_iload_n hx hb dX6_digest_141 rfl (lv_at hl 2 rfl) ?_
      refine lv_aload_n hx hb dX6_digest_142 rfl (lv_at hl 0 rfl) ?_
      refine g_X_buffer hx hb hown hK hW kF_RX6_34 dX6_digest_143 ?_
      refine g_BT_length hx hb hown hK hW kF_RX6_194 dX6_digest_146 ?_
      refine lv_icmp_ge (tgt := 173) hx hb dX6_digest_149 (by decide) (fun c1 => ?_) (fun c1 => ?_)
      · have hf := br_p c1 hf
        refine lv_lload_n hx hb dX6_digest_173 rfl (lv_at hl 1 rfl) ?_
        cases hf
        exact ss_lret hx hb hr hlk hW rfl dX6_digest_174
      · have hf := br_n c1 hf
        refine lv_lload_n hx hb dX6_digest_152 rfl (lv_at hl 1 rfl) ?_
        refine lv_aload_n hx hb dX6_digest_153 rfl (lv_at hl 0 rfl) ?_
        refine g_X_buffer hx hb hown hK hW kF_RX6_34 dX6_digest_154 ?_
        refine g_BT_signs hx hb hown hK hW kF_RX6_351 dX6_digest_157 ?_
        refine lv_iload_n hx hb dX6_digest_160 rfl (lv_at hl 2 rfl) ?_
        obtain ⟨hk2, hf⟩ := gd_inv hf
        refine l_signs hx hb hK hW rfl hk2 dX6_digest_161 ?_
        refine lv_i2l (v := ((σ 6 (x3).toNatClampNeg)).toInt64) hx hb dX6_digest_162 rfl ?_
        obtain ⟨r4, q3, hf⟩ := bd_inv hf
        refine ss_callSl (As := [.long x1, .long (((σ 6 (x3).toNatClampNeg)).toInt64)]) hx hb hml hown hK hW kb_X6_mix kM_RX6_324 (mX6_mix l (a0 := x1) (a2 := (((σ 6 (x3).toNatClampNeg)).toInt64)) q3) rfl dX6_digest_163 rfl hl.1 (Nat.le_of_ble_eq_true rfl) ⟨Nat.le_of_ble_eq_true rfl, Nat.le_of_ble_eq_true rfl⟩ ⟨Nat.zero_le _, Nat.zero_le _⟩ (fun H locs hW => ?_)
        refine lv_lstore_n (lv' := [(1, .long r4), (0, .ref (eA E 0)), (3, .int x3)]) hx hb dX6_digest_166 rfl hl (by decide) rfl (fun ls hl => ?_)
        obtain ⟨x3_5, ex3_5⟩ : ∃ y : Int32, y = (x3 + 1) := ⟨_, rfl⟩
        have hf := nm_use ex3_5 hf
        refine lv_iinc (v := x3_5) (lv' := [(3, .int x3_5), (1, .long r4), (0, .ref (eA E 0))]) hx hb dX6_digest_167 hl (k := 2) rfl (by rw [ex3_5]; rfl) (by decide) rfl (fun ls hl => ?_)
        refine lv_goto (tgt := 141) hx hb dX6_digest_170 (by decide) ?_
        exact ih141 r4 x3_5 σ _ _ _ hW (lv_sub hl [2, 1, 0] rfl) hf
  have h96 : ∀ (n96 : Nat) (x1 : Int64) (x3 : Int32) (σ : Sg) (H : Heap) (locs : List Loc) (ls : Array Slot), Wk E σ μ dg s H locs → lv_has ls 4 [(0, .ref (eA E 0)), (1, .long x1), (3, .int x3)] → fX6_digest_L96 n96 x1 x3 σ = some (r, σ') → W p l e (Rm 9 166) s m [.ref (eA E 0)].toArray below meth c H locs 0 0 (MQ below (Ql E σ' μ dg r) [.ref (eA E 0)].toArray s 0 0 (eP E)) (F0 m 96 ls []) := by
    intro n96
    induction n96 with
    | zero =>
      intro x1 x3 σ  H locs ls hW hl hf
      exact absurd hf (by simp [fX6_digest_L96])
    | succ n96 ih96 =>
      intro x1 x3 σ  H locs ls hW hl hf
      rw [fX6_digest_L96] at hf
      refine lv_iload_n hx hb dX6_digest_96 rfl (lv_at hl 2 rfl) ?_
      refine lv_iconst (v := 2) hx hb dX6_digest_97 (by decide) ?_
      refine lv_icmp_ge (tgt := 126) hx hb dX6_digest_98 (by decide) (fun c6 => ?_) (fun c6 => ?_)
      · have hf := br_p c6 hf
        refine lv_lload_n hx hb dX6_digest_126 rfl (lv_at hl 1 rfl) ?_
        refine lv_aload_n hx hb dX6_digest_127 rfl (lv_at hl 0 rfl) ?_
        refine g_X_buffer hx hb hown hK hW kF_RX6_34 dX6_digest_128 ?_
        refine g_BT_length hx hb hown hK hW kF_RX6_194 dX6_digest_131 ?_
        refine lv_i2l (v := ((σ 5 1)).toInt64) hx hb dX6_digest_134 rfl ?_
        obtain ⟨r8, q7, hf⟩ := bd_inv hf
        refine ss_callSl (As := [.long x1, .long (((σ 5 1)).toInt64)]) hx hb hml hown hK hW kb_X6_mix kM_RX6_324 (mX6_mix l (a0 := x1) (a2 := (((σ 5 1)).toInt64)) q7) rfl dX6_digest_135 rfl hl.1 (Nat.le_of_ble_eq_true rfl) ⟨Nat.le_of_ble_eq_true rfl, Nat.le_of_ble_eq_true rfl⟩ ⟨Nat.zero_le _, Nat.zero_le _⟩ (fun H locs hW => ?_)
        refine lv_lstore_n (lv' := [(1, .long r8), (0, .ref (eA E 0)), (3, .int x3)]) hx hb dX6_digest_138 rfl hl (by decide) rfl (fun ls hl => ?_)
        refine lv_iconst (v := 0) hx hb dX6_digest_139 (by decide) ?_
        refine lv_istore_n (lv' := [(3, .int 0), (1, .long r8), (0, .ref (eA E 0))]) hx hb dX6_digest_140 rfl hl (by decide) rfl (fun ls hl => ?_)
        exact h141 80 r8 0 σ _ _ _ hW (lv_sub hl [2, 1, 0] rfl) hf
      · have hf := br_n c6 hf
        refine lv_lload_n hx hb dX6_digest_101 rfl (lv_at hl 1 rfl) ?_
        refine lv_aload_n hx hb dX6_digest_102 rfl (lv_at hl 0 rfl) ?_
        refine g_X_kept hx hb hown hK hW kF_RX6_27 dX6_digest_103 ?_
        refine lv_iload_n hx hb dX6_digest_106 rfl (lv_at hl 2 rfl) ?_
        obtain ⟨hk9, hf⟩ := gd_inv hf
        refine l_kept hx hb hK hW rfl hk9 dX6_digest_107 ?_
        refine lv_if_eq (tgt := 115) hx hb dX6_digest_108 (by decide) (fun c10 => ?_) (fun c10 => ?_)
        · have hf := br_p c10 hf
          refine lv_lconst (v := 0) hx hb dX6_digest_115 (by decide) ?_
          obtain ⟨r12, q11, hf⟩ := bd_inv hf
          refine ss_callSl (As := [.long x1, .long 0]) hx hb hml hown hK hW kb_X6_mix kM_RX6_324 (mX6_mix l (a0 := x1) (a2 := 0) q11) rfl dX6_digest_116 rfl hl.1 (Nat.le_of_ble_eq_true rfl) ⟨Nat.le_of_ble_eq_true rfl, Nat.le_of_ble_eq_true rfl⟩ ⟨Nat.zero_le _, Nat.zero_le _⟩ (fun H locs hW => ?_)
          refine lv_lstore_n (lv' := [(1, .long r12), (0, .ref (eA E 0)), (3, .int x3)]) hx hb dX6_digest_119 rfl hl (by decide) rfl (fun ls hl => ?_)
          obtain ⟨x3_13, ex3_13⟩ : ∃ y : Int32, y = (x3 + 1) := ⟨_, rfl⟩
          have hf := nm_use ex3_13 hf
          refine lv_iinc (v := x3_13) (lv' := [(3, .int x3_13), (1, .long r12), (0, .ref (eA E 0))]) hx hb dX6_digest_120 hl (k := 2) rfl (by rw [ex3_13]; rfl) (by decide) rfl (fun ls hl => ?_)
          refine lv_goto (tgt := 96) hx hb dX6_digest_123 (by decide) ?_
          exact ih96 r12 x3_13 σ _ _ _ hW (lv_sub hl [2, 1, 0] rfl) hf
        · have hf := br_n c10 hf
          refine lv_lconst (v := 1) hx hb dX6_digest_111 (by decide) ?_
          refine lv_goto (tgt := 116) hx hb dX6_digest_112 (by decide) ?_
          obtain ⟨r15, q14, hf⟩ := bd_inv hf
          refine ss_callSl (As := [.long x1, .long 1]) hx hb hml hown hK hW kb_X6_mix kM_RX6_324 (mX6_mix l (a0 := x1) (a2 := 1) q14) rfl dX6_digest_116 rfl hl.1 (Nat.le_of_ble_eq_true rfl) ⟨Nat.le_of_ble_eq_true rfl, Nat.le_of_ble_eq_true rfl⟩ ⟨Nat.zero_le _, Nat.zero_le _⟩ (fun H locs hW => ?_)
          refine lv_lstore_n (lv' := [(1, .long r15), (0, .ref (eA E 0)), (3, .int x3)]) hx hb dX6_digest_119 rfl hl (by decide) rfl (fun ls hl => ?_)
          obtain ⟨x3_16, ex3_16⟩ : ∃ y : Int32, y = (x3 + 1) := ⟨_, rfl⟩
          have hf := nm_use ex3_16 hf
          refine lv_iinc (v := x3_16) (lv' := [(3, .int x3_16), (1, .long r15), (0, .ref (eA E 0))]) hx hb dX6_digest_120 hl (k := 2) rfl (by rw [ex3_16]; rfl) (by decide) rfl (fun ls hl => ?_)
          refine lv_goto (tgt := 96) hx hb dX6_digest_123 (by decide) ?_
          exact ih96 r15 x3_16 σ _ _ _ hW (lv_sub hl [2, 1, 0] rfl) hf
  have h31 : ∀ (n31 : Nat) (x1 : Int64) (x3 : Int32) (σ : Sg) (H : Heap) (locs : List Loc) (ls : Array Slot), Wk E σ μ dg s H locs → lv_has ls 4 [(0, .ref (eA E 0)), (1, .long x1), (3, .int x3)] → fX6_digest_L31 n31 x1 x3 σ = some (r, σ') → W p l e (Rm 9 166) s m [.ref (eA E 0)].toArray below meth c H locs 0 0 (MQ below (Ql E σ' μ dg r) [.ref (eA E 0)].toArray s 0 0 (eP E)) (F0 m 31 ls []) := by
    intro n31
    induction n31 with
    | zero =>
      intro x1 x3 σ  H locs ls hW hl hf
      exact absurd hf (by simp [fX6_digest_L31])
    | succ n31 ih31 =>
      intro x1 x3 σ  H locs ls hW hl hf
      rw [fX6_digest_L31] at hf
      refine lv_iload_n hx hb dX6_digest_31 rfl (lv_at hl 2 rfl) ?_
      refine lv_iconst (v := 3) hx hb dX6_digest_32 (by decide) ?_
      refine lv_icmp_ge (tgt := 57) hx hb dX6_digest_33 (by decide) (fun c17 => ?_) (fun c17 => ?_)
      · have hf := br_p c17 hf
        refine lv_aload_n hx hb dX6_digest_57 rfl (lv_at hl 0 rfl) ?_
        refine lv_lload_n hx hb dX6_digest_58 rfl (lv_at hl 1 rfl) ?_
        obtain ⟨r19, s20, q18, hf⟩ := bd2_inv hf
        refine ss_callVl (As := [.long x1]) hx hb hml hown hK hW kb_X6_mixSamplesAndBlocks kM_RX6_328 rfl (by decide) (c_fx (by decide)) (mX6_mixSamplesAndBlocks l hfl (a1 := x1) q18) rfl dX6_digest_59 rfl hl.1 (Nat.le_of_ble_eq_true rfl) ⟨Nat.le_of_ble_eq_true rfl, Nat.le_of_ble_eq_true rfl⟩ ⟨Nat.zero_le _, Nat.zero_le _⟩ (fun H locs hW => ?_)
        refine lv_lstore_n (lv' := [(1, .long r19), (0, .ref (eA E 0)), (3, .int x3)]) hx hb dX6_digest_62 rfl hl (by decide) rfl (fun ls hl => ?_)
        refine lv_aload_n hx hb dX6_digest_63 rfl (lv_at hl 1 rfl) ?_
        refine lv_lload_n hx hb dX6_digest_64 rfl (lv_at hl 0 rfl) ?_
        obtain ⟨r22, s23, q21, hf⟩ := bd2_inv hf
        refine ss_callVl (As := [.long r19]) hx hb hml hown hK hW kb_X6_mixWhatWouldBe kM_RX6_332 rfl (by decide) (c_fx (by decide)) (mX6_mixWhatWouldBe l hfl (a1 := r19) q21) rfl dX6_digest_65 rfl hl.1 (Nat.le_of_ble_eq_true rfl) ⟨Nat.le_of_ble_eq_true rfl, Nat.le_of_ble_eq_true rfl⟩ ⟨Nat.zero_le _, Nat.zero_le _⟩ (fun H locs hW => ?_)
        refine lv_lstore_n (lv' := [(1, .long r22), (0, .ref (eA E 0)), (3, .int x3)]) hx hb dX6_digest_68 rfl hl (by decide) rfl (fun ls hl => ?_)
        refine lv_lload_n hx hb dX6_digest_69 rfl (lv_at hl 0 rfl) ?_
        refine lv_aload_n hx hb dX6_digest_70 rfl (lv_at hl 1 rfl) ?_
        obtain ⟨r25, s26, q24, hf⟩ := bd2_inv hf
        refine ss_callVd (As := []) hx hb hml hown hK hW kb_X6_meanSquare kM_RX6_335 rfl (by decide) (c_fx (by decide)) (mX6_meanSquare l  q24) rfl dX6_digest_71 rfl hl.1 (Nat.le_of_ble_eq_true rfl) ⟨Nat.le_of_ble_eq_true rfl, Nat.le_of_ble_eq_true rfl⟩ ⟨Nat.zero_le _, Nat.zero_le _⟩ (fun H locs hW => ?_)
        obtain ⟨r28, q27, hf⟩ := bd_inv hf
        refine ss_callSl (As := [.double r25]) hx hb hml hown hK hW kb_X6_bitsOfDouble kM_RX6_339 (mX6_bitsOfDouble l (a0 := r25) q27) rfl dX6_digest_74 rfl hl.1 (Nat.le_of_ble_eq_true rfl) ⟨Nat.le_of_ble_eq_true rfl, Nat.le_of_ble_eq_true rfl⟩ ⟨Nat.zero_le _, Nat.zero_le _⟩ (fun H locs hW => ?_)
        obtain ⟨r30, q29, hf⟩ := bd_inv hf
        refine ss_callSl (As := [.long r22, .long r28]) hx hb hml hown hK hW kb_X6_mix kM_RX6_324 (mX6_mix l (a0 := r22) (a2 := r28) q29) rfl dX6_digest_77 rfl hl.1 (Nat.le_of_ble_eq_true rfl) ⟨Nat.le_of_ble_eq_true rfl, Nat.le_of_ble_eq_true rfl⟩ ⟨Nat.zero_le _, Nat.zero_le _⟩ (fun H locs hW => ?_)
        refine lv_lstore_n (lv' := [(1, .long r30), (0, .ref (eA E 0)), (3, .int x3)]) hx hb dX6_digest_80 rfl hl (by decide) rfl (fun ls hl => ?_)
        refine lv_lload_n hx hb dX6_digest_81 rfl (lv_at hl 0 rfl) ?_
        refine lv_aload_n hx hb dX6_digest_82 rfl (lv_at hl 1 rfl) ?_
        obtain ⟨r32, s33, q31, hf⟩ := bd2_inv hf
        refine ss_callVf (As := []) hx hb hml hown hK hW kb_X6_loudness kM_RX6_343 rfl (by decide) (c_fx (by decide)) (mX6_loudness l  q31) rfl dX6_digest_83 rfl hl.1 (Nat.le_of_ble_eq_true rfl) ⟨Nat.le_of_ble_eq_true rfl, Nat.le_of_ble_eq_true rfl⟩ ⟨Nat.zero_le _, Nat.zero_le _⟩ (fun H locs hW => ?_)
        obtain ⟨r35, q34, hf⟩ := bd_inv hf
        refine ss_callSi (As := [.float r32]) hx hb hml hown hK hW kb_X6_bitsOfFloat kM_RX6_347 (mX6_bitsOfFloat l (a0 := r32) q34) rfl dX6_digest_86 rfl hl.1 (Nat.le_of_ble_eq_true rfl) ⟨Nat.le_of_ble_eq_true rfl, Nat.le_of_ble_eq_true rfl⟩ ⟨Nat.zero_le _, Nat.zero_le _⟩ (fun H locs hW => ?_)
        refine lv_i2l (v := (r35).toInt64) hx hb dX6_digest_89 rfl ?_
        obtain ⟨r37, q36, hf⟩ := bd_inv hf
        refine ss_callSl (As := [.long r30, .long ((r35).toInt64)]) hx hb hml hown hK hW kb_X6_mix kM_RX6_324 (mX6_mix l (a0 := r30) (a2 := ((r35).toInt64)) q36) rfl dX6_digest_90 rfl hl.1 (Nat.le_of_ble_eq_true rfl) ⟨Nat.le_of_ble_eq_true rfl, Nat.le_of_ble_eq_true rfl⟩ ⟨Nat.zero_le _, Nat.zero_le _⟩ (fun H locs hW => ?_)
        refine lv_lstore_n (lv' := [(1, .long r37), (0, .ref (eA E 0)), (3, .int x3)]) hx hb dX6_digest_93 rfl hl (by decide) rfl (fun ls hl => ?_)
        refine lv_iconst (v := 0) hx hb dX6_digest_94 (by decide) ?_
        refine lv_istore_n (lv' := [(3, .int 0), (1, .long r37), (0, .ref (eA E 0))]) hx hb dX6_digest_95 rfl hl (by decide) rfl (fun ls hl => ?_)
        exact h96 80 r37 0 s33 _ _ _ hW (lv_sub hl [2, 1, 0] rfl) hf
      · have hf := br_n c17 hf
        refine lv_lload_n hx hb dX6_digest_36 rfl (lv_at hl 1 rfl) ?_
        refine lv_aload_n hx hb dX6_digest_37 rfl (lv_at hl 0 rfl) ?_
        refine g_X_now hx hb hown hK hW kF_RX6_12 dX6_digest_38 ?_
        refine g_State_settings (i := 0) hx hb hown hK hW (by omega) kF_RX6_152 dX6_digest_41 ?_
        refine lv_iload_n hx hb dX6_digest_44 rfl (lv_at hl 2 rfl) ?_
        obtain ⟨hk38, hf⟩ := gd_inv hf
        refine l_St2 (i := 0) hx hb hK hW (by omega) rfl hk38 dX6_digest_45 ?_
        refine lv_i2l (v := ((σ (10 + 8 * 0 + 2) (x3).toNatClampNeg)).toInt64) hx hb dX6_digest_46 rfl ?_
        obtain ⟨r40, q39, hf⟩ := bd_inv hf
        refine ss_callSl (As := [.long x1, .long (((σ (10 + 8 * 0 + 2) (x3).toNatClampNeg)).toInt64)]) hx hb hml hown hK hW kb_X6_mix kM_RX6_324 (mX6_mix l (a0 := x1) (a2 := (((σ (10 + 8 * 0 + 2) (x3).toNatClampNeg)).toInt64)) q39) rfl dX6_digest_47 rfl hl.1 (Nat.le_of_ble_eq_true rfl) ⟨Nat.le_of_ble_eq_true rfl, Nat.le_of_ble_eq_true rfl⟩ ⟨Nat.zero_le _, Nat.zero_le _⟩ (fun H locs hW => ?_)
        refine lv_lstore_n (lv' := [(1, .long r40), (0, .ref (eA E 0)), (3, .int x3)]) hx hb dX6_digest_50 rfl hl (by decide) rfl (fun ls hl => ?_)
        obtain ⟨x3_41, ex3_41⟩ : ∃ y : Int32, y = (x3 + 1) := ⟨_, rfl⟩
        have hf := nm_use ex3_41 hf
        refine lv_iinc (v := x3_41) (lv' := [(3, .int x3_41), (1, .long r40), (0, .ref (eA E 0))]) hx hb dX6_digest_51 hl (k := 2) rfl (by rw [ex3_41]; rfl) (by decide) rfl (fun ls hl => ?_)
        refine lv_goto (tgt := 31) hx hb dX6_digest_54 (by decide) ?_
        exact ih31 r40 x3_41 σ _ _ _ hW (lv_sub hl [2, 1, 0] rfl) hf
  have h6 : ∀ (n6 : Nat) (x1 : Int64) (x3 : Int32) (σ : Sg) (H : Heap) (locs : List Loc) (ls : Array Slot), Wk E σ μ dg s H locs → lv_has ls 4 [(0, .ref (eA E 0)), (1, .long x1), (3, .int x3)] → fX6_digest_L6 n6 x1 x3 σ = some (r, σ') → W p l e (Rm 9 166) s m [.ref (eA E 0)].toArray below meth c H locs 0 0 (MQ below (Ql E σ' μ dg r) [.ref (eA E 0)].toArray s 0 0 (eP E)) (F0 m 6 ls []) := by
    intro n6
    induction n6 with
    | zero =>
      intro x1 x3 σ  H locs ls hW hl hf
      exact absurd hf (by simp [fX6_digest_L6])
    | succ n6 ih6 =>
      intro x1 x3 σ  H locs ls hW hl hf
      rw [fX6_digest_L6] at hf
      refine lv_iload_n hx hb dX6_digest_6 rfl (lv_at hl 2 rfl) ?_
      refine lv_bipush (v := 12) hx hb dX6_digest_7 (by decide) ?_
      refine lv_icmp_ge (tgt := 29) hx hb dX6_digest_9 (by decide) (fun c42 => ?_) (fun c42 => ?_)
      · have hf := br_p c42 hf
        refine lv_iconst (v := 0) hx hb dX6_digest_29 (by decide) ?_
        refine lv_istore_n (lv' := [(3, .int 0), (0, .ref (eA E 0)), (1, .long x1)]) hx hb dX6_digest_30 rfl hl (by decide) rfl (fun ls hl => ?_)
        exact h31 80 x1 0 σ _ _ _ hW (lv_sub hl [1, 2, 0] rfl) hf
      · have hf := br_n c42 hf
        refine lv_lload_n hx hb dX6_digest_12 rfl (lv_at hl 1 rfl) ?_
        refine lv_aload_n hx hb dX6_digest_13 rfl (lv_at hl 0 rfl) ?_
        refine lv_iload_n hx hb dX6_digest_14 rfl (lv_at hl 2 rfl) ?_
        obtain ⟨r44, s45, q43, hf⟩ := bo_inv hf
        refine ss_xcallVi (As := [.int x3]) hx hb hml hown hK hW kb_X6_count kM_RX6_321 rfl (by decide) (c_fx (by decide)) (mX6_count l hfl (a1 := x3) q43) rfl dX6_digest_15 rfl hl.1 (Nat.le_of_ble_eq_true rfl) ⟨Nat.le_of_ble_eq_true rfl, Nat.le_of_ble_eq_true rfl⟩ ⟨Nat.zero_le _, Nat.zero_le _⟩ (fun H locs hW => ?_)
        refine lv_i2l (v := (r44).toInt64) hx hb dX6_digest_18 rfl ?_
        obtain ⟨r47, q46, hf⟩ := bd_inv hf
        refine ss_callSl (As := [.long x1, .long ((r44).toInt64)]) hx hb hml hown hK hW kb_X6_mix kM_RX6_324 (mX6_mix l (a0 := x1) (a2 := ((r44).toInt64)) q46) rfl dX6_digest_19 rfl hl.1 (Nat.le_of_ble_eq_true rfl) ⟨Nat.le_of_ble_eq_true rfl, Nat.le_of_ble_eq_true rfl⟩ ⟨Nat.zero_le _, Nat.zero_le _⟩ (fun H locs hW => ?_)
        refine lv_lstore_n (lv' := [(1, .long r47), (0, .ref (eA E 0)), (3, .int x3)]) hx hb dX6_digest_22 rfl hl (by decide) rfl (fun ls hl => ?_)
        obtain ⟨x3_48, ex3_48⟩ : ∃ y : Int32, y = (x3 + 1) := ⟨_, rfl⟩
        have hf := nm_use ex3_48 hf
        refine lv_iinc (v := x3_48) (lv' := [(3, .int x3_48), (1, .long r47), (0, .ref (eA E 0))]) hx hb dX6_digest_23 hl (k := 2) rfl (by rw [ex3_48]; rfl) (by decide) rfl (fun ls hl => ?_)
        refine lv_goto (tgt := 6) hx hb dX6_digest_26 (by decide) ?_
        exact ih6 r47 x3_48 s45 _ _ _ hW (lv_sub hl [2, 1, 0] rfl) hf
  refine lv_ldc2 (own := RX6) hx hb hown (hK.2.1.at kC_RX6_319 _) dX6_digest_0 ?_
  refine lv_lstore_n (lv' := [(1, .long 3329), (0, .ref (eA E 0))]) hx hb dX6_digest_3 rfl hl (by decide) rfl (fun ls hl => ?_)
  refine lv_iconst (v := 0) hx hb dX6_digest_4 (by decide) ?_
  refine lv_istore_n (lv' := [(3, .int 0), (1, .long 3329), (0, .ref (eA E 0))]) hx hb dX6_digest_5 rfl hl (by decide) rfl (fun ls hl => ?_)
  exact h6 80 3329 0 σ _ _ _ hW (lv_sub hl [2, 1, 0] rfl) hf
def fX6_refuseUnlessSlot (a1 : Int32) (σ : Sg) : Option ((Unit ⊕ Nat) × Sg) := if a1 < 0 then (some (.inr 0, σ)) else (if a1 < 2 then (some (.inl (), σ)) else (some (.inr 0, σ)))
set_option maxHeartbeats 4000000 in
set_option maxRecDepth 100000 in
theorem mX6_refuseUnlessSlot (l : Launch) (hfl : l.stackTraces = false) {E : En} {σ μ : Sg} {dg : Int64} {a1 : Int32}  {res : Unit ⊕ Nat} {σ' : Sg} (hf : fX6_refuseUnlessSlot a1 σ = some (res, σ')) : vx_Met l yX6_refuseUnlessSlot [.code yX6_refuseUnlessSlot cX6_refuseUnlessSlot 2 none] (RmX res 6 90) (va_Pc [.ref (eA E 0), .int a1] (Wd E σ μ dg)) (Qxv E σ' μ dg res) (Xx E σ' μ dg res) (xc res) (xs6 res) (eP E) := by
  refine ss_ofX (by decide) (Nat.le_of_ble_eq_true rfl) (fun p e s m below meth c hx hb hr hlk hml hown hex hK hW ls hl => ?_)
  have hown : s.vm.findClass RX6 = some m.cls := hown
  have hl : lv_has ls 2 [(0, .ref (eA E 0)), (1, .int a1)] := hl
  unfold fX6_refuseUnlessSlot at hf
  refine lv_iload_n hx hb dX6_refuseUnlessSlot_0 rfl (lv_at hl 1 rfl) ?_
  refine lv_if_lt (tgt := 9) hx hb dX6_refuseUnlessSlot_1 (by decide) (fun c1 => ?_) (fun c1 => ?_)
  · have hf := br_p c1 hf
    cases hf
    exact ss_throwW hx hb hfl hlk hex hml hl.1 hown hK hW (k0 := 0) (text := "a slot is 0 or 1") (by simp [strs]) kL_RX6_62 kT_0_66 dX6_refuseUnlessSlot_9 dX6_refuseUnlessSlot_12 dX6_refuseUnlessSlot_13 dX6_refuseUnlessSlot_16 dX6_refuseUnlessSlot_19 (Nat.le_of_ble_eq_true rfl) (Nat.le_of_ble_eq_true rfl) ⟨Nat.le_refl 1, Nat.le_refl 6⟩
  · have hf := br_n c1 hf
    refine lv_iload_n hx hb dX6_refuseUnlessSlot_4 rfl (lv_at hl 1 rfl) ?_
    refine lv_iconst (v := 2) hx hb dX6_refuseUnlessSlot_5 (by decide) ?_
    refine lv_icmp_lt (tgt := 20) hx hb dX6_refuseUnlessSlot_6 (by decide) (fun c2 => ?_) (fun c2 => ?_)
    · have hf := br_p c2 hf
      cases hf
      exact ss_vxret hx hb hr hlk hW dX6_refuseUnlessSlot_20
    · have hf := br_n c2 hf
      cases hf
      exact ss_throwW hx hb hfl hlk hex hml hl.1 hown hK hW (k0 := 0) (text := "a slot is 0 or 1") (by simp [strs]) kL_RX6_62 kT_0_66 dX6_refuseUnlessSlot_9 dX6_refuseUnlessSlot_12 dX6_refuseUnlessSlot_13 dX6_refuseUnlessSlot_16 dX6_refuseUnlessSlot_19 (Nat.le_of_ble_eq_true rfl) (Nat.le_of_ble_eq_true rfl) ⟨Nat.le_refl 1, Nat.le_refl 6⟩
def fX6_goBack (a1 : Int32) (σ : Sg) : Option ((Int32 ⊕ Nat) × Sg) := bx (fX6_refuseUnlessSlot a1 σ) fun r2 s3 => gd (¬ (a1 < 0 ∨ 2 ≤ (a1).toNatClampNeg)) <| if (s3 4 (a1).toNatClampNeg) = 0 then (some (.inr 2, s3)) else (bd (fX6_beginChange s3) fun s9 => gd (¬ (a1 < 0 ∨ 2 ≤ (a1).toNatClampNeg)) <| nm (1 + (a1).toNatClampNeg) fun j11 => gd (j11 < 9) <| bd (fX4_copyFrom 0 j11 s9) fun s13 => some (.inl (s13 (10 + 8 * 0) 0), s13))
set_option maxHeartbeats 4000000 in
set_option maxRecDepth 100000 in
theorem mX6_goBack (l : Launch) (hfl : l.stackTraces = false) {E : En} {σ μ : Sg} {dg : Int64} {a1 : Int32}  {res : Int32 ⊕ Nat} {σ' : Sg} (hf : fX6_goBack a1 σ = some (res, σ')) : vx_Met l yX6_goBack [.code yX6_goBack cX6_goBack 2 (some .int)] (RmX res 7 144) (va_Pc [.ref (eA E 0), .int a1] (Wd E σ μ dg)) (Qxi E σ' μ dg res) (Xx E σ' μ dg res) (xc res) (xs6 res) (eP E) := by
  refine ss_ofX (by decide) (Nat.le_of_ble_eq_true rfl) (fun p e s m below meth c hx hb hr hlk hml hown hex hK hW ls hl => ?_)
  have hown : s.vm.findClass RX6 = some m.cls := hown
  have hl : lv_has ls 2 [(0, .ref (eA E 0)), (1, .int a1)] := hl
  unfold fX6_goBack at hf
  refine lv_aload_n hx hb dX6_goBack_0 rfl (lv_at hl 0 rfl) ?_
  refine lv_iload_n hx hb dX6_goBack_1 rfl (lv_at hl 1 rfl) ?_
  rcases bx_inv hf with ⟨r2, s3, q1, hf⟩ | ⟨ex4, s5, q1, hf⟩
  rotate_left
  · cases hf
    exact ss_xthrVv (As := [.int a1]) hx hb hlk hex hml hown hK hW kb_X6_refuseUnlessSlot kM_RX6_227 rfl (by decide) (c_fx (by decide)) (mX6_refuseUnlessSlot l hfl (a1 := a1) q1) rfl dX6_goBack_2 rfl hl.1 (Nat.le_of_ble_eq_true rfl) ⟨Nat.le_of_ble_eq_true rfl, Nat.le_of_ble_eq_true rfl⟩ ⟨Nat.le_refl 1, Nat.le_refl 6⟩
  refine ss_xcallVv (As := [.int a1]) hx hb hml hown hK hW kb_X6_refuseUnlessSlot kM_RX6_227 rfl (by decide) (c_fx (by decide)) (mX6_refuseUnlessSlot l hfl (a1 := a1) q1) rfl dX6_goBack_2 rfl hl.1 (Nat.le_of_ble_eq_true rfl) ⟨Nat.le_of_ble_eq_true rfl, Nat.le_of_ble_eq_true rfl⟩ ⟨Nat.zero_le _, Nat.zero_le _⟩ (fun H locs hW => ?_)
  refine lv_aload_n hx hb dX6_goBack_5 rfl (lv_at hl 0 rfl) ?_
  refine g_X_kept hx hb hown hK hW kF_RX6_27 dX6_goBack_6 ?_
  refine lv_iload_n hx hb dX6_goBack_9 rfl (lv_at hl 1 rfl) ?_
  obtain ⟨hk6, hf⟩ := gd_inv hf
  refine l_kept hx hb hK hW rfl hk6 dX6_goBack_10 ?_
  refine lv_if_ne (tgt := 24) hx hb dX6_goBack_11 (by decide) (fun c7 => ?_) (fun c7 => ?_)
  · have hf := br_n c7 hf
    refine lv_aload_n hx hb dX6_goBack_24 rfl (lv_at hl 0 rfl) ?_
    obtain ⟨s9, q8, hf⟩ := bd_inv hf
    refine ss_callVv (As := []) hx hb hml hown hK hW kb_X6_beginChange kM_RX6_69 rfl (by decide) (c_fx (by decide)) (mX6_beginChange l  q8) rfl dX6_goBack_25 rfl hl.1 (Nat.le_of_ble_eq_true rfl) ⟨Nat.le_of_ble_eq_true rfl, Nat.le_of_ble_eq_true rfl⟩ ⟨Nat.zero_le _, Nat.zero_le _⟩ (fun H locs hW => ?_)
    refine lv_aload_n hx hb dX6_goBack_28 rfl (lv_at hl 0 rfl) ?_
    refine g_X_now hx hb hown hK hW kF_RX6_12 dX6_goBack_29 ?_
    refine lv_aload_n hx hb dX6_goBack_32 rfl (lv_at hl 0 rfl) ?_
    refine g_X_slots hx hb hown hK hW kF_RX6_23 dX6_goBack_33 ?_
    refine lv_iload_n hx hb dX6_goBack_36 rfl (lv_at hl 1 rfl) ?_
    obtain ⟨hk10, hf⟩ := gd_inv hf
    refine ss_aald hx hb hK hW (q := 3) (b := eA _ (10 + 8 * (1 + (a1).toNatClampNeg))) (by decide) (c_fx (by decide)) hk10 rfl dX6_goBack_37 ?_
    obtain ⟨j11, ej11⟩ : ∃ y : Nat, y = (1 + (a1).toNatClampNeg) := ⟨_, rfl⟩
    have hf := nm_use ej11 hf
    rw [← ej11]
    obtain ⟨hj11, hf⟩ := gd_inv hf
    obtain ⟨s13, q12, hf⟩ := bd_inv hf
    refine ss_callVv (As := [.ref (eA E (10 + 8 * j11))]) hx hb hml hown hK hW kb_X4_copyFrom kM_RX6_230 rfl (by omega) (c_st (i := 0) (by omega) 0 (by decide)) (mX4_copyFrom l (i0 := 0) (i1 := j11) (by omega) (by omega) q12) rfl dX6_goBack_38 rfl hl.1 (Nat.le_of_ble_eq_true rfl) ⟨Nat.le_of_ble_eq_true rfl, Nat.le_of_ble_eq_true rfl⟩ ⟨Nat.zero_le _, Nat.zero_le _⟩ (fun H locs hW => ?_)
    refine lv_aload_n hx hb dX6_goBack_41 rfl (lv_at hl 0 rfl) ?_
    refine g_X_now hx hb hown hK hW kF_RX6_12 dX6_goBack_42 ?_
    refine g_State_many (i := 0) hx hb hown hK hW (by omega) kF_RX6_72 dX6_goBack_45 ?_
    cases hf
    exact ss_ixret hx hb hr hlk hW dX6_goBack_48
  · have hf := br_p c7 hf
    cases hf
    exact ss_throwS hx hb hfl hlk hex hml hl.1 hown hK hW (k0 := 2) (text := "there is no snapshot in the slot") (by simp [strs]) kL_RX6_119 kT_2_123 dX6_goBack_14 dX6_goBack_17 dX6_goBack_18 dX6_goBack_20 dX6_goBack_23 (Nat.le_of_ble_eq_true rfl) (Nat.le_of_ble_eq_true rfl) ⟨Nat.le_refl 1, Nat.le_refl 6⟩
def fX6_ifBlock (a1 : Int32) (a2 : Int32) (a3 : Int32) (σ : Sg) : Option ((Int32 ⊕ Nat) × Sg) := bx (fX6_refuseUnlessSamples a1 a2 σ) fun r2 s3 => bd (fX6_isNumber a3) fun r7 => if r7 = 0 then (some (.inr 0, s3)) else (bd2 (fX1_errorAsBlock 0 a1 (a1 + a2) a3 s3) fun r10 s11 => some (.inl r10, s11))
set_option maxHeartbeats 4000000 in
set_option maxRecDepth 100000 in
theorem mX6_ifBlock (l : Launch) (hfl : l.stackTraces = false) {E : En} {σ μ : Sg} {dg : Int64} {a1 : Int32} {a2 : Int32} {a3 : Int32}  {res : Int32 ⊕ Nat} {σ' : Sg} (hf : fX6_ifBlock a1 a2 a3 σ = some (res, σ')) : vx_Met l yX6_ifBlock [.code yX6_ifBlock cX6_ifBlock 4 (some .int)] (RmX res 7 112) (va_Pc [.ref (eA E 0), .int a1, .int a2, .int a3] (Wd E σ μ dg)) (Qxi E σ' μ dg res) (Xx E σ' μ dg res) (xc res) (xs6 res) (eP E) := by
  refine ss_ofX (by decide) (Nat.le_of_ble_eq_true rfl) (fun p e s m below meth c hx hb hr hlk hml hown hex hK hW ls hl => ?_)
  have hown : s.vm.findClass RX6 = some m.cls := hown
  have hl : lv_has ls 4 [(0, .ref (eA E 0)), (1, .int a1), (2, .int a2), (3, .int a3)] := hl
  unfold fX6_ifBlock at hf
  refine lv_aload_n hx hb dX6_ifBlock_0 rfl (lv_at hl 0 rfl) ?_
  refine lv_iload_n hx hb dX6_ifBlock_1 rfl (lv_at hl 1 rfl) ?_
  refine lv_iload_n hx hb dX6_ifBlock_2 rfl (lv_at hl 2 rfl) ?_
  rcases bx_inv hf with ⟨r2, s3, q1, hf⟩ | ⟨ex4, s5, q1, hf⟩
  rotate_left
  · cases hf
    exact ss_xthrVv (As := [.int a1, .int a2]) hx hb hlk hex hml hown hK hW kb_X6_refuseUnlessSamples kM_RX6_305 rfl (by decide) (c_fx (by decide)) (mX6_refuseUnlessSamples l hfl (a1 := a1) (a2 := a2) q1) rfl dX6_ifBlock_3 rfl hl.1 (Nat.le_of_ble_eq_true rfl) ⟨Nat.le_of_ble_eq_true rfl, Nat.le_of_ble_eq_true rfl⟩ ⟨Nat.le_refl 1, Nat.le_refl 6⟩
  refine ss_xcallVv (As := [.int a1, .int a2]) hx hb hml hown hK hW kb_X6_refuseUnlessSamples kM_RX6_305 rfl (by decide) (c_fx (by decide)) (mX6_refuseUnlessSamples l hfl (a1 := a1) (a2 := a2) q1) rfl dX6_ifBlock_3 rfl hl.1 (Nat.le_of_ble_eq_true rfl) ⟨Nat.le_of_ble_eq_true rfl, Nat.le_of_ble_eq_true rfl⟩ ⟨Nat.zero_le _, Nat.zero_le _⟩ (fun H locs hW => ?_)
  refine lv_iload_n hx hb dX6_ifBlock_6 rfl (lv_at hl 3 rfl) ?_
  obtain ⟨r7, q6, hf⟩ := bd_inv hf
  refine ss_callSi (As := [.int a3]) hx hb hml hown hK hW kb_X6_isNumber kM_RX6_241 (mX6_isNumber l (a0 := a3) q6) rfl dX6_ifBlock_7 rfl hl.1 (Nat.le_of_ble_eq_true rfl) ⟨Nat.le_of_ble_eq_true rfl, Nat.le_of_ble_eq_true rfl⟩ ⟨Nat.zero_le _, Nat.zero_le _⟩ (fun H locs hW => ?_)
  refine lv_if_ne (tgt := 24) hx hb dX6_ifBlock_10 (by decide) (fun c8 => ?_) (fun c8 => ?_)
  · have hf := br_n c8 hf
    refine lv_aload_n hx hb dX6_ifBlock_24 rfl (lv_at hl 0 rfl) ?_
    refine g_X_coder hx hb hown hK hW kF_RX6_41 dX6_ifBlock_25 ?_
    refine lv_aload_n hx hb dX6_ifBlock_28 rfl (lv_at hl 0 rfl) ?_
    refine g_X_now hx hb hown hK hW kF_RX6_12 dX6_ifBlock_29 ?_
    refine lv_iload_n hx hb dX6_ifBlock_32 rfl (lv_at hl 1 rfl) ?_
    refine lv_iload_n hx hb dX6_ifBlock_33 rfl (lv_at hl 1 rfl) ?_
    refine lv_iload_n hx hb dX6_ifBlock_34 rfl (lv_at hl 2 rfl) ?_
    refine lv_iadd hx hb dX6_ifBlock_35 ?_
    refine lv_iload_n hx hb dX6_ifBlock_36 rfl (lv_at hl 3 rfl) ?_
    obtain ⟨r10, s11, q9, hf⟩ := bd2_inv hf
    refine ss_callVi (As := [.ref (eA E (10 + 8 * 0)), .int a1, .int (a1 + a2), .int a3]) hx hb hml hown hK hW kb_X1_errorAsBlock kM_RX6_308 rfl (by decide) (c_fx (by decide)) (mX1_errorAsBlock l (i1 := 0) (a2 := a1) (a3 := (a1 + a2)) (a4 := a3) (by omega) q9) rfl dX6_ifBlock_37 rfl hl.1 (Nat.le_of_ble_eq_true rfl) ⟨Nat.le_of_ble_eq_true rfl, Nat.le_of_ble_eq_true rfl⟩ ⟨Nat.zero_le _, Nat.zero_le _⟩ (fun H locs hW => ?_)
    cases hf
    exact ss_ixret hx hb hr hlk hW dX6_ifBlock_40
  · have hf := br_p c8 hf
    cases hf
    exact ss_throwW hx hb hfl hlk hex hml hl.1 hown hK hW (k0 := 0) (text := "a step's number is 0 to 48") (by simp [strs]) kL_RX6_62 kT_0_66 dX6_ifBlock_13 dX6_ifBlock_16 dX6_ifBlock_17 dX6_ifBlock_20 dX6_ifBlock_23 (Nat.le_of_ble_eq_true rfl) (Nat.le_of_ble_eq_true rfl) ⟨Nat.le_refl 1, Nat.le_refl 6⟩
def fX6_ifCoded (a1 : Int32) (a2 : Int32) (a3 : Int32) (a4 : Int32) (σ : Sg) : Option ((Int32 ⊕ Nat) × Sg) := bd (fX6_isValue a1) fun r2 => if r2 = 0 then (some (.inr 0, σ)) else (bd (fX6_isValue a3) fun r5 => if r5 = 0 then (some (.inr 0, σ)) else (bd (fX6_isNumber a2) fun r8 => if r8 = 0 then (some (.inr 0, σ)) else (if a4 < 0 then (some (.inr 0, σ)) else (if a4 ≤ 2 then (bd (fX5_begin 3 a1 a2 σ) fun s13 => bd (fX5_codeTowards 3 a3 s13) fun r15 => bd (fX5_follow 3 r15 s13) fun s17 => if a4 = 0 then (some (.inl r15, s17)) else (if a4 = 1 then (some (.inl ((s17 (82 + 3) 0) + 10000), s17)) else (some (.inl (s17 (82 + 3) 1), s17)))) else (some (.inr 0, σ))))))
set_option maxHeartbeats 4000000 in
set_option maxRecDepth 100000 in
theorem mX6_ifCoded (l : Launch) (hfl : l.stackTraces = false) {E : En} {σ μ : Sg} {dg : Int64} {a1 : Int32} {a2 : Int32} {a3 : Int32} {a4 : Int32}  {res : Int32 ⊕ Nat} {σ' : Sg} (hf : fX6_ifCoded a1 a2 a3 a4 σ = some (res, σ')) : vx_Met l yX6_ifCoded [.code yX6_ifCoded cX6_ifCoded 6 (some .int)] (RmX res 6 90) (va_Pc [.ref (eA E 0), .int a1, .int a2, .int a3, .int a4] (Wd E σ μ dg)) (Qxi E σ' μ dg res) (Xx E σ' μ dg res) (xc res) (xs6 res) (eP E) := by
  refine ss_ofX (by decide) (Nat.le_of_ble_eq_true rfl) (fun p e s m below meth c hx hb hr hlk hml hown hex hK hW ls hl => ?_)
  have hown : s.vm.findClass RX6 = some m.cls := hown
  have hl : lv_has ls 6 [(0, .ref (eA E 0)), (1, .int a1), (2, .int a2), (3, .int a3), (4, .int a4)] := hl
  unfold fX6_ifCoded at hf
  refine lv_iload_n hx hb dX6_ifCoded_0 rfl (lv_at hl 1 rfl) ?_
  obtain ⟨r2, q1, hf⟩ := bd_inv hf
  refine ss_callSi (As := [.int a1]) hx hb hml hown hK hW kb_X6_isValue kM_RX6_89 (mX6_isValue l (a0 := a1) q1) rfl dX6_ifCoded_1 rfl hl.1 (Nat.le_of_ble_eq_true rfl) ⟨Nat.le_of_ble_eq_true rfl, Nat.le_of_ble_eq_true rfl⟩ ⟨Nat.zero_le _, Nat.zero_le _⟩ (fun H locs hW => ?_)
  refine lv_if_eq (tgt := 14) hx hb dX6_ifCoded_4 (by decide) (fun c3 => ?_) (fun c3 => ?_)
  · have hf := br_p c3 hf
    cases hf
    exact ss_throwW hx hb hfl hlk hex hml hl.1 hown hK hW (k0 := 0) (text := "a guess and a sample are -2048 to 2047") (by simp [strs]) kL_RX6_62 kT_0_66 dX6_ifCoded_14 dX6_ifCoded_17 dX6_ifCoded_18 dX6_ifCoded_21 dX6_ifCoded_24 (Nat.le_of_ble_eq_true rfl) (Nat.le_of_ble_eq_true rfl) ⟨Nat.le_refl 1, Nat.le_refl 6⟩
  · have hf := br_n c3 hf
    refine lv_iload_n hx hb dX6_ifCoded_7 rfl (lv_at hl 3 rfl) ?_
    obtain ⟨r5, q4, hf⟩ := bd_inv hf
    refine ss_callSi (As := [.int a3]) hx hb hml hown hK hW kb_X6_isValue kM_RX6_89 (mX6_isValue l (a0 := a3) q4) rfl dX6_ifCoded_8 rfl hl.1 (Nat.le_of_ble_eq_true rfl) ⟨Nat.le_of_ble_eq_true rfl, Nat.le_of_ble_eq_true rfl⟩ ⟨Nat.zero_le _, Nat.zero_le _⟩ (fun H locs hW => ?_)
    refine lv_if_ne (tgt := 25) hx hb dX6_ifCoded_11 (by decide) (fun c6 => ?_) (fun c6 => ?_)
    · have hf := br_n c6 hf
      refine lv_iload_n hx hb dX6_ifCoded_25 rfl (lv_at hl 2 rfl) ?_
      obtain ⟨r8, q7, hf⟩ := bd_inv hf
      refine ss_callSi (As := [.int a2]) hx hb hml hown hK hW kb_X6_isNumber kM_RX6_241 (mX6_isNumber l (a0 := a2) q7) rfl dX6_ifCoded_26 rfl hl.1 (Nat.le_of_ble_eq_true rfl) ⟨Nat.le_of_ble_eq_true rfl, Nat.le_of_ble_eq_true rfl⟩ ⟨Nat.zero_le _, Nat.zero_le _⟩ (fun H locs hW => ?_)
      refine lv_if_ne (tgt := 43) hx hb dX6_ifCoded_29 (by decide) (fun c9 => ?_) (fun c9 => ?_)
      · have hf := br_n c9 hf
        refine lv_iload hx hb dX6_ifCoded_43 (lv_at hl 4 rfl) ?_
        refine lv_if_lt (tgt := 54) hx hb dX6_ifCoded_45 (by decide) (fun c10 => ?_) (fun c10 => ?_)
        · have hf := br_p c10 hf
          cases hf
          exact ss_throwW hx hb hfl hlk hex hml hl.1 hown hK hW (k0 := 0) (text := "no such number to tell") (by simp [strs]) kL_RX6_62 kT_0_66 dX6_ifCoded_54 dX6_ifCoded_57 dX6_ifCoded_58 dX6_ifCoded_61 dX6_ifCoded_64 (Nat.le_of_ble_eq_true rfl) (Nat.le_of_ble_eq_true rfl) ⟨Nat.le_refl 1, Nat.le_refl 6⟩
        · have hf := br_n c10 hf
          refine lv_iload hx hb dX6_ifCoded_48 (lv_at hl 4 rfl) ?_
          refine lv_iconst (v := 2) hx hb dX6_ifCoded_50 (by decide) ?_
          refine lv_icmp_le (tgt := 65) hx hb dX6_ifCoded_51 (by decide) (fun c11 => ?_) (fun c11 => ?_)
          · have hf := br_p c11 hf
            refine lv_aload_n hx hb dX6_ifCoded_65 rfl (lv_at hl 0 rfl) ?_
            refine g_X_walk hx hb hown hK hW kF_RX6_58 dX6_ifCoded_66 ?_
            refine lv_iload_n hx hb dX6_ifCoded_69 rfl (lv_at hl 1 rfl) ?_
            refine lv_iload_n hx hb dX6_ifCoded_70 rfl (lv_at hl 2 rfl) ?_
            obtain ⟨s13, q12, hf⟩ := bd_inv hf
            refine ss_callVv (As := [.int a1, .int a2]) hx hb hml hown hK hW kb_X5_begin kM_RX6_290 rfl (by omega) (c_wk (w := 3) (by omega)) (mX5_begin l (i0 := 3) (a1 := a1) (a2 := a2) (by omega) q12) rfl dX6_ifCoded_71 rfl hl.1 (Nat.le_of_ble_eq_true rfl) ⟨Nat.le_of_ble_eq_true rfl, Nat.le_of_ble_eq_true rfl⟩ ⟨Nat.zero_le _, Nat.zero_le _⟩ (fun H locs hW => ?_)
            refine lv_aload_n hx hb dX6_ifCoded_74 rfl (lv_at hl 0 rfl) ?_
            refine g_X_walk hx hb hown hK hW kF_RX6_58 dX6_ifCoded_75 ?_
            refine lv_iload_n hx hb dX6_ifCoded_78 rfl (lv_at hl 3 rfl) ?_
            obtain ⟨r15, q14, hf⟩ := bd_inv hf
            refine ss_callVi (As := [.int a3]) hx hb hml hown hK hW kb_X5_codeTowards kM_RX6_293 rfl (by omega) (c_wk (w := 3) (by omega)) (mX5_codeTowards l (i0 := 3) (a1 := a3) (by omega) q14) rfl dX6_ifCoded_79 rfl hl.1 (Nat.le_of_ble_eq_true rfl) ⟨Nat.le_of_ble_eq_true rfl, Nat.le_of_ble_eq_true rfl⟩ ⟨Nat.zero_le _, Nat.zero_le _⟩ (fun H locs hW => ?_)
            refine lv_istore (lv' := [(5, .int r15), (0, .ref (eA E 0)), (1, .int a1), (2, .int a2), (3, .int a3), (4, .int a4)]) hx hb dX6_ifCoded_82 hl (by decide) rfl (fun ls hl => ?_)
            refine lv_aload_n hx hb dX6_ifCoded_84 rfl (lv_at hl 1 rfl) ?_
            refine g_X_walk hx hb hown hK hW kF_RX6_58 dX6_ifCoded_85 ?_
            refine lv_iload hx hb dX6_ifCoded_88 (lv_at hl 0 rfl) ?_
            obtain ⟨s17, q16, hf⟩ := bd_inv hf
            refine ss_callVv (As := [.int r15]) hx hb hml hown hK hW kb_X5_follow kM_RX6_296 rfl (by omega) (c_wk (w := 3) (by omega)) (mX5_follow l (i0 := 3) (a1 := r15) (by omega) q16) rfl dX6_ifCoded_90 rfl hl.1 (Nat.le_of_ble_eq_true rfl) ⟨Nat.le_of_ble_eq_true rfl, Nat.le_of_ble_eq_true rfl⟩ ⟨Nat.zero_le _, Nat.zero_le _⟩ (fun H locs hW => ?_)
            refine lv_iload hx hb dX6_ifCoded_93 (lv_at hl 5 rfl) ?_
            by_cases c18 : a4 = 0
            · have hf := br_p c18 hf
              refine lv_lookup (off := 25) (tgt := 120) hx hb dX6_ifCoded_95 (by decide) (by rw [c18]; rfl) (by decide) ?_
              refine lv_iload hx hb dX6_ifCoded_120 (lv_at hl 0 rfl) ?_
              cases hf
              exact ss_ixret hx hb hr hlk hW dX6_ifCoded_122
            have hf := br_n c18 hf
            by_cases c19 : a4 = 1
            · have hf := br_p c19 hf
              refine lv_lookup (off := 28) (tgt := 123) hx hb dX6_ifCoded_95 (by decide) (by rw [c19]; rfl) (by decide) ?_
              refine lv_aload_n hx hb dX6_ifCoded_123 rfl (lv_at hl 1 rfl) ?_
              refine g_X_walk hx hb hown hK hW kF_RX6_58 dX6_ifCoded_124 ?_
              refine g_Walk_guess (i := 3) hx hb hown hK hW (by omega) kF_RX6_299 dX6_ifCoded_127 ?_
              refine lv_sipush (v := 10000) hx hb dX6_ifCoded_130 (by decide) ?_
              refine lv_iadd hx hb dX6_ifCoded_133 ?_
              cases hf
              exact ss_ixret hx hb hr hlk hW dX6_ifCoded_134
            have hf := br_n c19 hf
            have zc18 := sw_ne (n := 0) c18 (by decide)
            have zc19 := sw_ne (n := 1) c19 (by decide)
            refine lv_lookup (off := 40) (tgt := 135) hx hb dX6_ifCoded_95 (by decide) (by simp only [Op.lookupswitch.offset]; simp [Ne.symm zc18, Ne.symm zc19, zc18, zc19]) (by decide) ?_
            refine lv_aload_n hx hb dX6_ifCoded_135 rfl (lv_at hl 1 rfl) ?_
            refine g_X_walk hx hb hown hK hW kF_RX6_58 dX6_ifCoded_136 ?_
            refine g_Walk_number (i := 3) hx hb hown hK hW (by omega) kF_RX6_302 dX6_ifCoded_139 ?_
            cases hf
            exact ss_ixret hx hb hr hlk hW dX6_ifCoded_142
          · have hf := br_n c11 hf
            cases hf
            exact ss_throwW hx hb hfl hlk hex hml hl.1 hown hK hW (k0 := 0) (text := "no such number to tell") (by simp [strs]) kL_RX6_62 kT_0_66 dX6_ifCoded_54 dX6_ifCoded_57 dX6_ifCoded_58 dX6_ifCoded_61 dX6_ifCoded_64 (Nat.le_of_ble_eq_true rfl) (Nat.le_of_ble_eq_true rfl) ⟨Nat.le_refl 1, Nat.le_refl 6⟩
      · have hf := br_p c9 hf
        cases hf
        exact ss_throwW hx hb hfl hlk hex hml hl.1 hown hK hW (k0 := 0) (text := "a step's number is 0 to 48") (by simp [strs]) kL_RX6_62 kT_0_66 dX6_ifCoded_32 dX6_ifCoded_35 dX6_ifCoded_36 dX6_ifCoded_39 dX6_ifCoded_42 (Nat.le_of_ble_eq_true rfl) (Nat.le_of_ble_eq_true rfl) ⟨Nat.le_refl 1, Nat.le_refl 6⟩
    · have hf := br_p c6 hf
      cases hf
      exact ss_throwW hx hb hfl hlk hex hml hl.1 hown hK hW (k0 := 0) (text := "a guess and a sample are -2048 to 2047") (by simp [strs]) kL_RX6_62 kT_0_66 dX6_ifCoded_14 dX6_ifCoded_17 dX6_ifCoded_18 dX6_ifCoded_21 dX6_ifCoded_24 (Nat.le_of_ble_eq_true rfl) (Nat.le_of_ble_eq_true rfl) ⟨Nat.le_refl 1, Nat.le_refl 6⟩
def fX6_keep (a1 : Int32) (σ : Sg) : Option ((Int32 ⊕ Nat) × Sg) := bx (fX6_refuseUnlessSlot a1 σ) fun r2 s3 => gd (¬ (a1 < 0 ∨ 2 ≤ (a1).toNatClampNeg)) <| nm (1 + (a1).toNatClampNeg) fun j7 => gd (j7 < 9) <| bd (fX4_copyFrom j7 0 s3) fun s9 => gd (¬ (a1 < 0 ∨ 2 ≤ (a1).toNatClampNeg)) <| nm (up2 s9 4 ((a1).toNatClampNeg) 1) fun s11 => some (.inl (s11 (10 + 8 * 0) 0), s11)
set_option maxHeartbeats 4000000 in
set_option maxRecDepth 100000 in
theorem mX6_keep (l : Launch) (hfl : l.stackTraces = false) {E : En} {σ μ : Sg} {dg : Int64} {a1 : Int32}  {res : Int32 ⊕ Nat} {σ' : Sg} (hf : fX6_keep a1 σ = some (res, σ')) : vx_Met l yX6_keep [.code yX6_keep cX6_keep 2 (some .int)] (RmX res 7 111) (va_Pc [.ref (eA E 0), .int a1] (Wd E σ μ dg)) (Qxi E σ' μ dg res) (Xx E σ' μ dg res) (xc res) (xs6 res) (eP E) := by
  refine ss_ofX (by decide) (Nat.le_of_ble_eq_true rfl) (fun p e s m below meth c hx hb hr hlk hml hown hex hK hW ls hl => ?_)
  have hown : s.vm.findClass RX6 = some m.cls := hown
  have hl : lv_has ls 2 [(0, .ref (eA E 0)), (1, .int a1)] := hl
  unfold fX6_keep at hf
  refine lv_aload_n hx hb dX6_keep_0 rfl (lv_at hl 0 rfl) ?_
  refine lv_iload_n hx hb dX6_keep_1 rfl (lv_at hl 1 rfl) ?_
  rcases bx_inv hf with ⟨r2, s3, q1, hf⟩ | ⟨ex4, s5, q1, hf⟩
  rotate_left
  · cases hf
    exact ss_xthrVv (As := [.int a1]) hx hb hlk hex hml hown hK hW kb_X6_refuseUnlessSlot kM_RX6_227 rfl (by decide) (c_fx (by decide)) (mX6_refuseUnlessSlot l hfl (a1 := a1) q1) rfl dX6_keep_2 rfl hl.1 (Nat.le_of_ble_eq_true rfl) ⟨Nat.le_of_ble_eq_true rfl, Nat.le_of_ble_eq_true rfl⟩ ⟨Nat.le_refl 1, Nat.le_refl 6⟩
  refine ss_xcallVv (As := [.int a1]) hx hb hml hown hK hW kb_X6_refuseUnlessSlot kM_RX6_227 rfl (by decide) (c_fx (by decide)) (mX6_refuseUnlessSlot l hfl (a1 := a1) q1) rfl dX6_keep_2 rfl hl.1 (Nat.le_of_ble_eq_true rfl) ⟨Nat.le_of_ble_eq_true rfl, Nat.le_of_ble_eq_true rfl⟩ ⟨Nat.zero_le _, Nat.zero_le _⟩ (fun H locs hW => ?_)
  refine lv_aload_n hx hb dX6_keep_5 rfl (lv_at hl 0 rfl) ?_
  refine g_X_slots hx hb hown hK hW kF_RX6_23 dX6_keep_6 ?_
  refine lv_iload_n hx hb dX6_keep_9 rfl (lv_at hl 1 rfl) ?_
  obtain ⟨hk6, hf⟩ := gd_inv hf
  refine ss_aald hx hb hK hW (q := 3) (b := eA _ (10 + 8 * (1 + (a1).toNatClampNeg))) (by decide) (c_fx (by decide)) hk6 rfl dX6_keep_10 ?_
  obtain ⟨j7, ej7⟩ : ∃ y : Nat, y = (1 + (a1).toNatClampNeg) := ⟨_, rfl⟩
  have hf := nm_use ej7 hf
  rw [← ej7]
  obtain ⟨hj7, hf⟩ := gd_inv hf
  refine lv_aload_n hx hb dX6_keep_11 rfl (lv_at hl 0 rfl) ?_
  refine g_X_now hx hb hown hK hW kF_RX6_12 dX6_keep_12 ?_
  obtain ⟨s9, q8, hf⟩ := bd_inv hf
  refine ss_callVv (As := [.ref (eA E (10 + 8 * 0))]) hx hb hml hown hK hW kb_X4_copyFrom kM_RX6_230 rfl (by omega) (c_st (i := j7) (by omega) 0 (by decide)) (mX4_copyFrom l (i0 := j7) (i1 := 0) (by omega) (by omega) q8) rfl dX6_keep_15 rfl hl.1 (Nat.le_of_ble_eq_true rfl) ⟨Nat.le_of_ble_eq_true rfl, Nat.le_of_ble_eq_true rfl⟩ ⟨Nat.zero_le _, Nat.zero_le _⟩ (fun H locs hW => ?_)
  refine lv_aload_n hx hb dX6_keep_18 rfl (lv_at hl 0 rfl) ?_
  refine g_X_kept hx hb hown hK hW kF_RX6_27 dX6_keep_19 ?_
  refine lv_iload_n hx hb dX6_keep_22 rfl (lv_at hl 1 rfl) ?_
  refine lv_iconst (v := 1) hx hb dX6_keep_23 (by decide) ?_
  obtain ⟨hk10, hf⟩ := gd_inv hf
  refine s_kept hx hb hK hW rfl hk10 (by decide) dX6_keep_24 (fun H locs hW => ?_)
  obtain ⟨s11, es11⟩ : ∃ y : Sg, y = (up2 s9 4 ((a1).toNatClampNeg) 1) := ⟨_, rfl⟩
  have hf := nm_use es11 hf
  rw [← es11] at hW
  refine lv_aload_n hx hb dX6_keep_25 rfl (lv_at hl 0 rfl) ?_
  refine g_X_now hx hb hown hK hW kF_RX6_12 dX6_keep_26 ?_
  refine g_State_many (i := 0) hx hb hown hK hW (by omega) kF_RX6_72 dX6_keep_29 ?_
  cases hf
  exact ss_ixret hx hb hr hlk hW dX6_keep_32
def fX6_load (a1 : Int32) (σ : Sg) : Option ((Int32 ⊕ Nat) × Sg) := bx (fX6_refuseUnlessBlock a1 σ) fun r2 s3 => bd2 (fX0_tellsBlock s3) fun r7 s8 => if r7 = 0 then (some (.inr 0, s8)) else (bd (fX4_codesOf 0 a1 s8) fun r11 => if (s8 5 5) = r11 then (bd (fX2_decode 0 0 s8) fun s14 => bd (fX6_beginChange s14) fun s16 => bd (fX4_putBlock 0 a1 s16) fun s18 => nm (up2 s18 5 1 0) fun s19 => nm (up2 s19 (86 + 3 * 1) 3 0) fun s20 => bd (fX2_decode 1 0 s20) fun s22 => bd (fX2_othersThan 1 0 (s22 (10 + 8 * 0) 0) s22) fun r24 => some (.inl r24, s22)) else (some (.inr 0, s8)))
set_option maxHeartbeats 4000000 in
set_option maxRecDepth 100000 in
theorem mX6_load (l : Launch) (hfl : l.stackTraces = false) {E : En} {σ μ : Sg} {dg : Int64} {a1 : Int32}  {res : Int32 ⊕ Nat} {σ' : Sg} (hf : fX6_load a1 σ = some (res, σ')) : vx_Met l yX6_load [.code yX6_load cX6_load 2 (some .int)] (RmX res 7 144) (va_Pc [.ref (eA E 0), .int a1] (Wd E σ μ dg)) (Qxi E σ' μ dg res) (Xx E σ' μ dg res) (xc res) (xs6 res) (eP E) := by
  refine ss_ofX (by decide) (Nat.le_of_ble_eq_true rfl) (fun p e s m below meth c hx hb hr hlk hml hown hex hK hW ls hl => ?_)
  have hown : s.vm.findClass RX6 = some m.cls := hown
  have hl : lv_has ls 2 [(0, .ref (eA E 0)), (1, .int a1)] := hl
  unfold fX6_load at hf
  refine lv_aload_n hx hb dX6_load_0 rfl (lv_at hl 0 rfl) ?_
  refine lv_iload_n hx hb dX6_load_1 rfl (lv_at hl 1 rfl) ?_
  rcases bx_inv hf with ⟨r2, s3, q1, hf⟩ | ⟨ex4, s5, q1, hf⟩
  rotate_left
  · cases hf
    exact ss_xthrVv (As := [.int a1]) hx hb hlk hex hml hown hK hW kb_X6_refuseUnlessBlock kM_RX6_161 rfl (by decide) (c_fx (by decide)) (mX6_refuseUnlessBlock l hfl (a1 := a1) q1) rfl dX6_load_2 rfl hl.1 (Nat.le_of_ble_eq_true rfl) ⟨Nat.le_of_ble_eq_true rfl, Nat.le_of_ble_eq_true rfl⟩ ⟨Nat.le_refl 1, Nat.le_refl 6⟩
  refine ss_xcallVv (As := [.int a1]) hx hb hml hown hK hW kb_X6_refuseUnlessBlock kM_RX6_161 rfl (by decide) (c_fx (by decide)) (mX6_refuseUnlessBlock l hfl (a1 := a1) q1) rfl dX6_load_2 rfl hl.1 (Nat.le_of_ble_eq_true rfl) ⟨Nat.le_of_ble_eq_true rfl, Nat.le_of_ble_eq_true rfl⟩ ⟨Nat.zero_le _, Nat.zero_le _⟩ (fun H locs hW => ?_)
  refine lv_aload_n hx hb dX6_load_5 rfl (lv_at hl 0 rfl) ?_
  refine g_X_buffer hx hb hown hK hW kF_RX6_34 dX6_load_6 ?_
  obtain ⟨r7, s8, q6, hf⟩ := bd2_inv hf
  refine ss_callVi (As := []) hx hb hml hown hK hW kb_X0_tellsBlock kM_RX6_200 rfl (by decide) (c_fx (by decide)) (mX0_tellsBlock l  q6) rfl dX6_load_9 rfl hl.1 (Nat.le_of_ble_eq_true rfl) ⟨Nat.le_of_ble_eq_true rfl, Nat.le_of_ble_eq_true rfl⟩ ⟨Nat.zero_le _, Nat.zero_le _⟩ (fun H locs hW => ?_)
  refine lv_if_eq (tgt := 33) hx hb dX6_load_12 (by decide) (fun c9 => ?_) (fun c9 => ?_)
  · have hf := br_p c9 hf
    cases hf
    exact ss_throwS hx hb hfl hlk hex hml hl.1 hown hK hW (k0 := 0) (text := "the buffer does not tell such a block") (by simp [strs]) kL_RX6_62 kT_0_66 dX6_load_33 dX6_load_36 dX6_load_37 dX6_load_39 dX6_load_42 (Nat.le_of_ble_eq_true rfl) (Nat.le_of_ble_eq_true rfl) ⟨Nat.le_refl 1, Nat.le_refl 6⟩
  · have hf := br_n c9 hf
    refine lv_aload_n hx hb dX6_load_15 rfl (lv_at hl 0 rfl) ?_
    refine g_X_buffer hx hb hown hK hW kF_RX6_34 dX6_load_16 ?_
    refine g_BT_codeCount hx hb hown hK hW kF_RX6_203 dX6_load_19 ?_
    refine lv_aload_n hx hb dX6_load_22 rfl (lv_at hl 0 rfl) ?_
    refine g_X_now hx hb hown hK hW kF_RX6_12 dX6_load_23 ?_
    refine lv_iload_n hx hb dX6_load_26 rfl (lv_at hl 1 rfl) ?_
    obtain ⟨r11, q10, hf⟩ := bd_inv hf
    refine ss_callVi (As := [.int a1]) hx hb hml hown hK hW kb_X4_codesOf kM_RX6_206 rfl (by omega) (c_st (i := 0) (by omega) 0 (by decide)) (mX4_codesOf l (i0 := 0) (a1 := a1) (by omega) q10) rfl dX6_load_27 rfl hl.1 (Nat.le_of_ble_eq_true rfl) ⟨Nat.le_of_ble_eq_true rfl, Nat.le_of_ble_eq_true rfl⟩ ⟨Nat.zero_le _, Nat.zero_le _⟩ (fun H locs hW => ?_)
    refine lv_icmp_eq (tgt := 43) hx hb dX6_load_30 (by decide) (fun c12 => ?_) (fun c12 => ?_)
    · have hf := br_p c12 hf
      refine lv_aload_n hx hb dX6_load_43 rfl (lv_at hl 0 rfl) ?_
      refine g_X_decoder hx hb hown hK hW kF_RX6_48 dX6_load_44 ?_
      refine lv_aload_n hx hb dX6_load_47 rfl (lv_at hl 0 rfl) ?_
      refine g_X_now hx hb hown hK hW kF_RX6_12 dX6_load_48 ?_
      obtain ⟨s14, q13, hf⟩ := bd_inv hf
      refine ss_callVv (As := [.ref (eA E (10 + 8 * 0))]) hx hb hml hown hK hW kb_X2_decode kM_RX6_124 rfl (by omega) (c_dc (d := 0) (by omega) 0 (by decide)) (mX2_decode l (i0 := 0) (i1 := 0) (by omega) (by omega) q13) rfl dX6_load_51 rfl hl.1 (Nat.le_of_ble_eq_true rfl) ⟨Nat.le_of_ble_eq_true rfl, Nat.le_of_ble_eq_true rfl⟩ ⟨Nat.zero_le _, Nat.zero_le _⟩ (fun H locs hW => ?_)
      refine lv_aload_n hx hb dX6_load_54 rfl (lv_at hl 0 rfl) ?_
      obtain ⟨s16, q15, hf⟩ := bd_inv hf
      refine ss_callVv (As := []) hx hb hml hown hK hW kb_X6_beginChange kM_RX6_69 rfl (by decide) (c_fx (by decide)) (mX6_beginChange l  q15) rfl dX6_load_55 rfl hl.1 (Nat.le_of_ble_eq_true rfl) ⟨Nat.le_of_ble_eq_true rfl, Nat.le_of_ble_eq_true rfl⟩ ⟨Nat.zero_le _, Nat.zero_le _⟩ (fun H locs hW => ?_)
      refine lv_aload_n hx hb dX6_load_58 rfl (lv_at hl 0 rfl) ?_
      refine g_X_now hx hb hown hK hW kF_RX6_12 dX6_load_59 ?_
      refine lv_iload_n hx hb dX6_load_62 rfl (lv_at hl 1 rfl) ?_
      refine lv_aload_n hx hb dX6_load_63 rfl (lv_at hl 0 rfl) ?_
      refine g_X_buffer hx hb hown hK hW kF_RX6_34 dX6_load_64 ?_
      obtain ⟨s18, q17, hf⟩ := bd_inv hf
      refine ss_callVv (As := [.int a1, .ref (eA E 5)]) hx hb hml hown hK hW kb_X4_putBlock kM_RX6_211 rfl (by omega) (c_st (i := 0) (by omega) 0 (by decide)) (mX4_putBlock l (i0 := 0) (a1 := a1) (by omega) q17) rfl dX6_load_67 rfl hl.1 (Nat.le_of_ble_eq_true rfl) ⟨Nat.le_of_ble_eq_true rfl, Nat.le_of_ble_eq_true rfl⟩ ⟨Nat.zero_le _, Nat.zero_le _⟩ (fun H locs hW => ?_)
      refine lv_aload_n hx hb dX6_load_70 rfl (lv_at hl 0 rfl) ?_
      refine g_X_buffer hx hb hown hK hW kF_RX6_34 dX6_load_71 ?_
      refine lv_iconst (v := 0) hx hb dX6_load_74 (by decide) ?_
      refine p_BT_length hx hb hown hK hW kF_RX6_194 dX6_load_75 (fun H locs hW => ?_)
      obtain ⟨s19, es19⟩ : ∃ y : Sg, y = (up2 s18 5 1 0) := ⟨_, rfl⟩
      have hf := nm_use es19 hf
      rw [← es19] at hW
      refine lv_aload_n hx hb dX6_load_78 rfl (lv_at hl 0 rfl) ?_
      refine g_X_decoderAfter hx hb hown hK hW kF_RX6_52 dX6_load_79 ?_
      refine lv_iconst (v := 0) hx hb dX6_load_82 (by decide) ?_
      refine p_Dec_upToDate (i := 1) hx hb hown hK hW (by omega) (by decide) kF_RX6_215 dX6_load_83 (fun H locs hW => ?_)
      obtain ⟨s20, es20⟩ : ∃ y : Sg, y = (up2 s19 (86 + 3 * 1) 3 0) := ⟨_, rfl⟩
      have hf := nm_use es20 hf
      rw [← es20] at hW
      refine lv_aload_n hx hb dX6_load_86 rfl (lv_at hl 0 rfl) ?_
      refine g_X_decoderAfter hx hb hown hK hW kF_RX6_52 dX6_load_87 ?_
      refine lv_aload_n hx hb dX6_load_90 rfl (lv_at hl 0 rfl) ?_
      refine g_X_now hx hb hown hK hW kF_RX6_12 dX6_load_91 ?_
      obtain ⟨s22, q21, hf⟩ := bd_inv hf
      refine ss_callVv (As := [.ref (eA E (10 + 8 * 0))]) hx hb hml hown hK hW kb_X2_decode kM_RX6_124 rfl (by omega) (c_dc (d := 1) (by omega) 0 (by decide)) (mX2_decode l (i0 := 1) (i1 := 0) (by omega) (by omega) q21) rfl dX6_load_94 rfl hl.1 (Nat.le_of_ble_eq_true rfl) ⟨Nat.le_of_ble_eq_true rfl, Nat.le_of_ble_eq_true rfl⟩ ⟨Nat.zero_le _, Nat.zero_le _⟩ (fun H locs hW => ?_)
      refine lv_aload_n hx hb dX6_load_97 rfl (lv_at hl 0 rfl) ?_
      refine g_X_decoderAfter hx hb hown hK hW kF_RX6_52 dX6_load_98 ?_
      refine lv_aload_n hx hb dX6_load_101 rfl (lv_at hl 0 rfl) ?_
      refine g_X_decoder hx hb hown hK hW kF_RX6_48 dX6_load_102 ?_
      refine lv_aload_n hx hb dX6_load_105 rfl (lv_at hl 0 rfl) ?_
      refine g_X_now hx hb hown hK hW kF_RX6_12 dX6_load_106 ?_
      refine g_State_many (i := 0) hx hb hown hK hW (by omega) kF_RX6_72 dX6_load_109 ?_
      obtain ⟨r24, q23, hf⟩ := bd_inv hf
      refine ss_callVi (As := [.ref (eA E (86 + 3 * 0)), .int (s22 (10 + 8 * 0) 0)]) hx hb hml hown hK hW kb_X2_othersThan kM_RX6_219 rfl (by omega) (c_dc (d := 1) (by omega) 0 (by decide)) (mX2_othersThan l (i0 := 1) (i1 := 0) (a2 := (s22 (10 + 8 * 0) 0)) (by omega) (by omega) q23) rfl dX6_load_112 rfl hl.1 (Nat.le_of_ble_eq_true rfl) ⟨Nat.le_of_ble_eq_true rfl, Nat.le_of_ble_eq_true rfl⟩ ⟨Nat.zero_le _, Nat.zero_le _⟩ (fun H locs hW => ?_)
      cases hf
      exact ss_ixret hx hb hr hlk hW dX6_load_115
    · have hf := br_n c12 hf
      cases hf
      exact ss_throwS hx hb hfl hlk hex hml hl.1 hown hK hW (k0 := 0) (text := "the buffer does not tell such a block") (by simp [strs]) kL_RX6_62 kT_0_66 dX6_load_33 dX6_load_36 dX6_load_37 dX6_load_39 dX6_load_42 (Nat.le_of_ble_eq_true rfl) (Nat.le_of_ble_eq_true rfl) ⟨Nat.le_refl 1, Nat.le_refl 6⟩
def fX6_lose (a1 : Int32) (σ : Sg) : Option ((Int32 ⊕ Nat) × Sg) := bx (fX6_refuseUnlessBlock a1 σ) fun r2 s3 => bd (fX6_beginChange s3) fun s7 => gd (¬ (a1 < 0 ∨ 32 ≤ (a1).toNatClampNeg)) <| if (s7 (10 + 8 * 0 + 5) (a1).toNatClampNeg) = 0 then (gd (¬ (a1 < 0 ∨ 32 ≤ (a1).toNatClampNeg)) <| nm (up2 s7 (10 + 8 * 0 + 5) ((a1).toNatClampNeg) 1) fun s15 => bd (fX4_lostBlocks 0 s15) fun r17 => some (.inl r17, s15)) else (gd (¬ (a1 < 0 ∨ 32 ≤ (a1).toNatClampNeg)) <| nm (up2 s7 (10 + 8 * 0 + 5) ((a1).toNatClampNeg) 0) fun s11 => bd (fX4_lostBlocks 0 s11) fun r13 => some (.inl r13, s11))
set_option maxHeartbeats 4000000 in
set_option maxRecDepth 100000 in
theorem mX6_lose (l : Launch) (hfl : l.stackTraces = false) {E : En} {σ μ : Sg} {dg : Int64} {a1 : Int32}  {res : Int32 ⊕ Nat} {σ' : Sg} (hf : fX6_lose a1 σ = some (res, σ')) : vx_Met l yX6_lose [.code yX6_lose cX6_lose 2 (some .int)] (RmX res 7 144) (va_Pc [.ref (eA E 0), .int a1] (Wd E σ μ dg)) (Qxi E σ' μ dg res) (Xx E σ' μ dg res) (xc res) (xs6 res) (eP E) := by
  refine ss_ofX (by decide) (Nat.le_of_ble_eq_true rfl) (fun p e s m below meth c hx hb hr hlk hml hown hex hK hW ls hl => ?_)
  have hown : s.vm.findClass RX6 = some m.cls := hown
  have hl : lv_has ls 2 [(0, .ref (eA E 0)), (1, .int a1)] := hl
  unfold fX6_lose at hf
  refine lv_aload_n hx hb dX6_lose_0 rfl (lv_at hl 0 rfl) ?_
  refine lv_iload_n hx hb dX6_lose_1 rfl (lv_at hl 1 rfl) ?_
  rcases bx_inv hf with ⟨r2, s3, q1, hf⟩ | ⟨ex4, s5, q1, hf⟩
  rotate_left
  · cases hf
    exact ss_xthrVv (As := [.int a1]) hx hb hlk hex hml hown hK hW kb_X6_refuseUnlessBlock kM_RX6_161 rfl (by decide) (c_fx (by decide)) (mX6_refuseUnlessBlock l hfl (a1 := a1) q1) rfl dX6_lose_2 rfl hl.1 (Nat.le_of_ble_eq_true rfl) ⟨Nat.le_of_ble_eq_true rfl, Nat.le_of_ble_eq_true rfl⟩ ⟨Nat.le_refl 1, Nat.le_refl 6⟩
  refine ss_xcallVv (As := [.int a1]) hx hb hml hown hK hW kb_X6_refuseUnlessBlock kM_RX6_161 rfl (by decide) (c_fx (by decide)) (mX6_refuseUnlessBlock l hfl (a1 := a1) q1) rfl dX6_lose_2 rfl hl.1 (Nat.le_of_ble_eq_true rfl) ⟨Nat.le_of_ble_eq_true rfl, Nat.le_of_ble_eq_true rfl⟩ ⟨Nat.zero_le _, Nat.zero_le _⟩ (fun H locs hW => ?_)
  refine lv_aload_n hx hb dX6_lose_5 rfl (lv_at hl 0 rfl) ?_
  obtain ⟨s7, q6, hf⟩ := bd_inv hf
  refine ss_callVv (As := []) hx hb hml hown hK hW kb_X6_beginChange kM_RX6_69 rfl (by decide) (c_fx (by decide)) (mX6_beginChange l  q6) rfl dX6_lose_6 rfl hl.1 (Nat.le_of_ble_eq_true rfl) ⟨Nat.le_of_ble_eq_true rfl, Nat.le_of_ble_eq_true rfl⟩ ⟨Nat.zero_le _, Nat.zero_le _⟩ (fun H locs hW => ?_)
  refine lv_aload_n hx hb dX6_lose_9 rfl (lv_at hl 0 rfl) ?_
  refine g_X_now hx hb hown hK hW kF_RX6_12 dX6_lose_10 ?_
  refine g_State_lost (i := 0) hx hb hown hK hW (by omega) kF_RX6_164 dX6_lose_13 ?_
  refine lv_iload_n hx hb dX6_lose_16 rfl (lv_at hl 1 rfl) ?_
  refine lv_aload_n hx hb dX6_lose_17 rfl (lv_at hl 0 rfl) ?_
  refine g_X_now hx hb hown hK hW kF_RX6_12 dX6_lose_18 ?_
  refine g_State_lost (i := 0) hx hb hown hK hW (by omega) kF_RX6_164 dX6_lose_21 ?_
  refine lv_iload_n hx hb dX6_lose_24 rfl (lv_at hl 1 rfl) ?_
  obtain ⟨hk8, hf⟩ := gd_inv hf
  refine l_St5 (i := 0) hx hb hK hW (by omega) rfl hk8 dX6_lose_25 ?_
  refine lv_if_ne (tgt := 33) hx hb dX6_lose_26 (by decide) (fun c9 => ?_) (fun c9 => ?_)
  · have hf := br_n c9 hf
    refine lv_iconst (v := 0) hx hb dX6_lose_33 (by decide) ?_
    obtain ⟨hk10, hf⟩ := gd_inv hf
    refine s_St5 (i := 0) hx hb hK hW (by omega) rfl hk10 (by decide) dX6_lose_34 (fun H locs hW => ?_)
    obtain ⟨s11, es11⟩ : ∃ y : Sg, y = (up2 s7 (10 + 8 * 0 + 5) ((a1).toNatClampNeg) 0) := ⟨_, rfl⟩
    have hf := nm_use es11 hf
    rw [← es11] at hW
    refine lv_aload_n hx hb dX6_lose_35 rfl (lv_at hl 0 rfl) ?_
    refine g_X_now hx hb hown hK hW kF_RX6_12 dX6_lose_36 ?_
    obtain ⟨r13, q12, hf⟩ := bd_inv hf
    refine ss_callVi (As := []) hx hb hml hown hK hW kb_X4_lostBlocks kM_RX6_167 rfl (by omega) (c_st (i := 0) (by omega) 0 (by decide)) (mX4_lostBlocks l (i0 := 0) (by omega) q12) rfl dX6_lose_39 rfl hl.1 (Nat.le_of_ble_eq_true rfl) ⟨Nat.le_of_ble_eq_true rfl, Nat.le_of_ble_eq_true rfl⟩ ⟨Nat.zero_le _, Nat.zero_le _⟩ (fun H locs hW => ?_)
    cases hf
    exact ss_ixret hx hb hr hlk hW dX6_lose_42
  · have hf := br_p c9 hf
    refine lv_iconst (v := 1) hx hb dX6_lose_29 (by decide) ?_
    refine lv_goto (tgt := 34) hx hb dX6_lose_30 (by decide) ?_
    obtain ⟨hk14, hf⟩ := gd_inv hf
    refine s_St5 (i := 0) hx hb hK hW (by omega) rfl hk14 (by decide) dX6_lose_34 (fun H locs hW => ?_)
    obtain ⟨s15, es15⟩ : ∃ y : Sg, y = (up2 s7 (10 + 8 * 0 + 5) ((a1).toNatClampNeg) 1) := ⟨_, rfl⟩
    have hf := nm_use es15 hf
    rw [← es15] at hW
    refine lv_aload_n hx hb dX6_lose_35 rfl (lv_at hl 0 rfl) ?_
    refine g_X_now hx hb hown hK hW kF_RX6_12 dX6_lose_36 ?_
    obtain ⟨r17, q16, hf⟩ := bd_inv hf
    refine ss_callVi (As := []) hx hb hml hown hK hW kb_X4_lostBlocks kM_RX6_167 rfl (by omega) (c_st (i := 0) (by omega) 0 (by decide)) (mX4_lostBlocks l (i0 := 0) (by omega) q16) rfl dX6_lose_39 rfl hl.1 (Nat.le_of_ble_eq_true rfl) ⟨Nat.le_of_ble_eq_true rfl, Nat.le_of_ble_eq_true rfl⟩ ⟨Nat.zero_le _, Nat.zero_le _⟩ (fun H locs hW => ?_)
    cases hf
    exact ss_ixret hx hb hr hlk hW dX6_lose_42
def fX6_sample (a1 : Int32) (a2 : Int32) (σ : Sg) : Option ((Int32 ⊕ Nat) × Sg) := bd (fX4_hasSample 0 a1 σ) fun r2 => if r2 = 0 then (some (.inr 1, σ)) else (bd (fX6_isValue a2) fun r5 => if r5 = 0 then (some (.inr 0, σ)) else (bd (fX6_beginChange σ) fun s8 => gd (¬ (a1 < 0 ∨ 64 ≤ (a1).toNatClampNeg)) <| nm (s8 (10 + 8 * 0 + 1) (a1).toNatClampNeg) fun x3_10 => gd (¬ (a1 < 0 ∨ 64 ≤ (a1).toNatClampNeg)) <| nm (up2 s8 (10 + 8 * 0 + 1) ((a1).toNatClampNeg) a2) fun s12 => bd (fX4_forgetBlocks 0 s12) fun s14 => some (.inl (x3_10 + 10000), s14)))
set_option maxHeartbeats 4000000 in
set_option maxRecDepth 100000 in
theorem mX6_sample (l : Launch) (hfl : l.stackTraces = false) {E : En} {σ μ : Sg} {dg : Int64} {a1 : Int32} {a2 : Int32}  {res : Int32 ⊕ Nat} {σ' : Sg} (hf : fX6_sample a1 a2 σ = some (res, σ')) : vx_Met l yX6_sample [.code yX6_sample cX6_sample 4 (some .int)] (RmX res 6 144) (va_Pc [.ref (eA E 0), .int a1, .int a2] (Wd E σ μ dg)) (Qxi E σ' μ dg res) (Xx E σ' μ dg res) (xc res) (xs6 res) (eP E) := by
  refine ss_ofX (by decide) (Nat.le_of_ble_eq_true rfl) (fun p e s m below meth c hx hb hr hlk hml hown hex hK hW ls hl => ?_)
  have hown : s.vm.findClass RX6 = some m.cls := hown
  have hl : lv_has ls 4 [(0, .ref (eA E 0)), (1, .int a1), (2, .int a2)] := hl
  unfold fX6_sample at hf
  refine lv_aload_n hx hb dX6_sample_0 rfl (lv_at hl 0 rfl) ?_
  refine g_X_now hx hb hown hK hW kF_RX6_12 dX6_sample_1 ?_
  refine lv_iload_n hx hb dX6_sample_4 rfl (lv_at hl 1 rfl) ?_
  obtain ⟨r2, q1, hf⟩ := bd_inv hf
  refine ss_callVi (As := [.int a1]) hx hb hml hown hK hW kb_X4_hasSample kM_RX6_80 rfl (by omega) (c_st (i := 0) (by omega) 0 (by decide)) (mX4_hasSample l (i0 := 0) (a1 := a1) (by omega) q1) rfl dX6_sample_5 rfl hl.1 (Nat.le_of_ble_eq_true rfl) ⟨Nat.le_of_ble_eq_true rfl, Nat.le_of_ble_eq_true rfl⟩ ⟨Nat.zero_le _, Nat.zero_le _⟩ (fun H locs hW => ?_)
  refine lv_if_ne (tgt := 21) hx hb dX6_sample_8 (by decide) (fun c3 => ?_) (fun c3 => ?_)
  · have hf := br_n c3 hf
    refine lv_iload_n hx hb dX6_sample_21 rfl (lv_at hl 2 rfl) ?_
    obtain ⟨r5, q4, hf⟩ := bd_inv hf
    refine ss_callSi (As := [.int a2]) hx hb hml hown hK hW kb_X6_isValue kM_RX6_89 (mX6_isValue l (a0 := a2) q4) rfl dX6_sample_22 rfl hl.1 (Nat.le_of_ble_eq_true rfl) ⟨Nat.le_of_ble_eq_true rfl, Nat.le_of_ble_eq_true rfl⟩ ⟨Nat.zero_le _, Nat.zero_le _⟩ (fun H locs hW => ?_)
    refine lv_if_ne (tgt := 38) hx hb dX6_sample_25 (by decide) (fun c6 => ?_) (fun c6 => ?_)
    · have hf := br_n c6 hf
      refine lv_aload_n hx hb dX6_sample_38 rfl (lv_at hl 0 rfl) ?_
      obtain ⟨s8, q7, hf⟩ := bd_inv hf
      refine ss_callVv (As := []) hx hb hml hown hK hW kb_X6_beginChange kM_RX6_69 rfl (by decide) (c_fx (by decide)) (mX6_beginChange l  q7) rfl dX6_sample_39 rfl hl.1 (Nat.le_of_ble_eq_true rfl) ⟨Nat.le_of_ble_eq_true rfl, Nat.le_of_ble_eq_true rfl⟩ ⟨Nat.zero_le _, Nat.zero_le _⟩ (fun H locs hW => ?_)
      refine lv_aload_n hx hb dX6_sample_42 rfl (lv_at hl 0 rfl) ?_
      refine g_X_now hx hb hown hK hW kF_RX6_12 dX6_sample_43 ?_
      refine g_State_values (i := 0) hx hb hown hK hW (by omega) kF_RX6_94 dX6_sample_46 ?_
      refine lv_iload_n hx hb dX6_sample_49 rfl (lv_at hl 1 rfl) ?_
      obtain ⟨hk9, hf⟩ := gd_inv hf
      refine l_St1 (i := 0) hx hb hK hW (by omega) rfl hk9 dX6_sample_50 ?_
      refine lv_topi (fun x3_10 ex3_10 => ?_)
      have hf := nm_use ex3_10 hf
      refine lv_istore_n (lv' := [(3, .int x3_10), (0, .ref (eA E 0)), (1, .int a1), (2, .int a2)]) hx hb dX6_sample_51 rfl hl (by decide) rfl (fun ls hl => ?_)
      refine lv_aload_n hx hb dX6_sample_52 rfl (lv_at hl 1 rfl) ?_
      refine g_X_now hx hb hown hK hW kF_RX6_12 dX6_sample_53 ?_
      refine g_State_values (i := 0) hx hb hown hK hW (by omega) kF_RX6_94 dX6_sample_56 ?_
      refine lv_iload_n hx hb dX6_sample_59 rfl (lv_at hl 2 rfl) ?_
      refine lv_iload_n hx hb dX6_sample_60 rfl (lv_at hl 3 rfl) ?_
      obtain ⟨hk11, hf⟩ := gd_inv hf
      refine s_St1 (i := 0) hx hb hK hW (by omega) rfl hk11 dX6_sample_61 (fun H locs hW => ?_)
      obtain ⟨s12, es12⟩ : ∃ y : Sg, y = (up2 s8 (10 + 8 * 0 + 1) ((a1).toNatClampNeg) a2) := ⟨_, rfl⟩
      have hf := nm_use es12 hf
      rw [← es12] at hW
      refine lv_aload_n hx hb dX6_sample_62 rfl (lv_at hl 1 rfl) ?_
      refine g_X_now hx hb hown hK hW kF_RX6_12 dX6_sample_63 ?_
      obtain ⟨s14, q13, hf⟩ := bd_inv hf
      refine ss_callVv (As := []) hx hb hml hown hK hW kb_X4_forgetBlocks kM_RX6_98 rfl (by omega) (c_st (i := 0) (by omega) 0 (by decide)) (mX4_forgetBlocks l (i0 := 0) (by omega) q13) rfl dX6_sample_66 rfl hl.1 (Nat.le_of_ble_eq_true rfl) ⟨Nat.le_of_ble_eq_true rfl, Nat.le_of_ble_eq_true rfl⟩ ⟨Nat.zero_le _, Nat.zero_le _⟩ (fun H locs hW => ?_)
      refine lv_iload_n hx hb dX6_sample_69 rfl (lv_at hl 0 rfl) ?_
      refine lv_sipush (v := 10000) hx hb dX6_sample_70 (by decide) ?_
      refine lv_iadd hx hb dX6_sample_73 ?_
      cases hf
      exact ss_ixret hx hb hr hlk hW dX6_sample_74
    · have hf := br_p c6 hf
      cases hf
      exact ss_throwS hx hb hfl hlk hex hml hl.1 hown hK hW (k0 := 0) (text := "a sample is -2048 to 2047") (by simp [strs]) kL_RX6_62 kT_0_66 dX6_sample_28 dX6_sample_31 dX6_sample_32 dX6_sample_34 dX6_sample_37 (Nat.le_of_ble_eq_true rfl) (Nat.le_of_ble_eq_true rfl) ⟨Nat.le_refl 1, Nat.le_refl 6⟩
  · have hf := br_p c3 hf
    cases hf
    exact ss_throwS hx hb hfl hlk hex hml hl.1 hown hK hW (k0 := 1) (text := "no such sample") (by simp [strs]) kL_RX6_84 kT_1_88 dX6_sample_11 dX6_sample_14 dX6_sample_15 dX6_sample_17 dX6_sample_20 (Nat.le_of_ble_eq_true rfl) (Nat.le_of_ble_eq_true rfl) ⟨Nat.le_refl 1, Nat.le_refl 6⟩
def fX6_set (a1 : Int32) (a2 : Int32) (σ : Sg) : Option ((Int32 ⊕ Nat) × Sg) := bd (fX6_isSetting a1) fun r2 => if r2 = 0 then (some (.inr 1, σ)) else (bd (fX6_leastOfSetting a1) fun r5 => if a2 < r5 then (some (.inr 0, σ)) else (bd (fX6_mostOfSetting a1) fun r8 => if a2 ≤ r8 then (bd (fX6_beginChange σ) fun s11 => gd (¬ (a1 < 0 ∨ 3 ≤ (a1).toNatClampNeg)) <| nm (s11 (10 + 8 * 0 + 2) (a1).toNatClampNeg) fun x3_13 => gd (¬ (a1 < 0 ∨ 3 ≤ (a1).toNatClampNeg)) <| nm (up2 s11 (10 + 8 * 0 + 2) ((a1).toNatClampNeg) a2) fun s15 => if a1 = 2 then (some (.inl x3_13, s15)) else (bd (fX4_forgetBlocks 0 s15) fun s18 => some (.inl x3_13, s18))) else (some (.inr 0, σ))))
set_option maxHeartbeats 4000000 in
set_option maxRecDepth 100000 in
theorem mX6_set (l : Launch) (hfl : l.stackTraces = false) {E : En} {σ μ : Sg} {dg : Int64} {a1 : Int32} {a2 : Int32}  {res : Int32 ⊕ Nat} {σ' : Sg} (hf : fX6_set a1 a2 σ = some (res, σ')) : vx_Met l yX6_set [.code yX6_set cX6_set 4 (some .int)] (RmX res 6 144) (va_Pc [.ref (eA E 0), .int a1, .int a2] (Wd E σ μ dg)) (Qxi E σ' μ dg res) (Xx E σ' μ dg res) (xc res) (xs6 res) (eP E) := by
  refine ss_ofX (by decide) (Nat.le_of_ble_eq_true rfl) (fun p e s m below meth c hx hb hr hlk hml hown hex hK hW ls hl => ?_)
  have hown : s.vm.findClass RX6 = some m.cls := hown
  have hl : lv_has ls 4 [(0, .ref (eA E 0)), (1, .int a1), (2, .int a2)] := hl
  unfold fX6_set at hf
  refine lv_iload_n hx hb dX6_set_0 rfl (lv_at hl 1 rfl) ?_
  obtain ⟨r2, q1, hf⟩ := bd_inv hf
  refine ss_callSi (As := [.int a1]) hx hb hml hown hK hW kb_X6_isSetting kM_RX6_139 (mX6_isSetting l (a0 := a1) q1) rfl dX6_set_1 rfl hl.1 (Nat.le_of_ble_eq_true rfl) ⟨Nat.le_of_ble_eq_true rfl, Nat.le_of_ble_eq_true rfl⟩ ⟨Nat.zero_le _, Nat.zero_le _⟩ (fun H locs hW => ?_)
  refine lv_if_ne (tgt := 17) hx hb dX6_set_4 (by decide) (fun c3 => ?_) (fun c3 => ?_)
  · have hf := br_n c3 hf
    refine lv_iload_n hx hb dX6_set_17 rfl (lv_at hl 2 rfl) ?_
    refine lv_iload_n hx hb dX6_set_18 rfl (lv_at hl 1 rfl) ?_
    obtain ⟨r5, q4, hf⟩ := bd_inv hf
    refine ss_callSi (As := [.int a1]) hx hb hml hown hK hW kb_X6_leastOfSetting kM_RX6_144 (mX6_leastOfSetting l (a0 := a1) q4) rfl dX6_set_19 rfl hl.1 (Nat.le_of_ble_eq_true rfl) ⟨Nat.le_of_ble_eq_true rfl, Nat.le_of_ble_eq_true rfl⟩ ⟨Nat.zero_le _, Nat.zero_le _⟩ (fun H locs hW => ?_)
    refine lv_icmp_lt (tgt := 33) hx hb dX6_set_22 (by decide) (fun c6 => ?_) (fun c6 => ?_)
    · have hf := br_p c6 hf
      cases hf
      exact ss_throwS hx hb hfl hlk hex hml hl.1 hown hK hW (k0 := 0) (text := "the value is out of the setting's range") (by simp [strs]) kL_RX6_62 kT_0_66 dX6_set_33 dX6_set_36 dX6_set_37 dX6_set_39 dX6_set_42 (Nat.le_of_ble_eq_true rfl) (Nat.le_of_ble_eq_true rfl) ⟨Nat.le_refl 1, Nat.le_refl 6⟩
    · have hf := br_n c6 hf
      refine lv_iload_n hx hb dX6_set_25 rfl (lv_at hl 2 rfl) ?_
      refine lv_iload_n hx hb dX6_set_26 rfl (lv_at hl 1 rfl) ?_
      obtain ⟨r8, q7, hf⟩ := bd_inv hf
      refine ss_callSi (As := [.int a1]) hx hb hml hown hK hW kb_X6_mostOfSetting kM_RX6_147 (mX6_mostOfSetting l (a0 := a1) q7) rfl dX6_set_27 rfl hl.1 (Nat.le_of_ble_eq_true rfl) ⟨Nat.le_of_ble_eq_true rfl, Nat.le_of_ble_eq_true rfl⟩ ⟨Nat.zero_le _, Nat.zero_le _⟩ (fun H locs hW => ?_)
      refine lv_icmp_le (tgt := 43) hx hb dX6_set_30 (by decide) (fun c9 => ?_) (fun c9 => ?_)
      · have hf := br_p c9 hf
        refine lv_aload_n hx hb dX6_set_43 rfl (lv_at hl 0 rfl) ?_
        obtain ⟨s11, q10, hf⟩ := bd_inv hf
        refine ss_callVv (As := []) hx hb hml hown hK hW kb_X6_beginChange kM_RX6_69 rfl (by decide) (c_fx (by decide)) (mX6_beginChange l  q10) rfl dX6_set_44 rfl hl.1 (Nat.le_of_ble_eq_true rfl) ⟨Nat.le_of_ble_eq_true rfl, Nat.le_of_ble_eq_true rfl⟩ ⟨Nat.zero_le _, Nat.zero_le _⟩ (fun H locs hW => ?_)
        refine lv_aload_n hx hb dX6_set_47 rfl (lv_at hl 0 rfl) ?_
        refine g_X_now hx hb hown hK hW kF_RX6_12 dX6_set_48 ?_
        refine g_State_settings (i := 0) hx hb hown hK hW (by omega) kF_RX6_152 dX6_set_51 ?_
        refine lv_iload_n hx hb dX6_set_54 rfl (lv_at hl 1 rfl) ?_
        obtain ⟨hk12, hf⟩ := gd_inv hf
        refine l_St2 (i := 0) hx hb hK hW (by omega) rfl hk12 dX6_set_55 ?_
        refine lv_topi (fun x3_13 ex3_13 => ?_)
        have hf := nm_use ex3_13 hf
        refine lv_istore_n (lv' := [(3, .int x3_13), (0, .ref (eA E 0)), (1, .int a1), (2, .int a2)]) hx hb dX6_set_56 rfl hl (by decide) rfl (fun ls hl => ?_)
        refine lv_aload_n hx hb dX6_set_57 rfl (lv_at hl 1 rfl) ?_
        refine g_X_now hx hb hown hK hW kF_RX6_12 dX6_set_58 ?_
        refine g_State_settings (i := 0) hx hb hown hK hW (by omega) kF_RX6_152 dX6_set_61 ?_
        refine lv_iload_n hx hb dX6_set_64 rfl (lv_at hl 2 rfl) ?_
        refine lv_iload_n hx hb dX6_set_65 rfl (lv_at hl 3 rfl) ?_
        obtain ⟨hk14, hf⟩ := gd_inv hf
        refine s_St2 (i := 0) hx hb hK hW (by omega) rfl hk14 dX6_set_66 (fun H locs hW => ?_)
        obtain ⟨s15, es15⟩ : ∃ y : Sg, y = (up2 s11 (10 + 8 * 0 + 2) ((a1).toNatClampNeg) a2) := ⟨_, rfl⟩
        have hf := nm_use es15 hf
        rw [← es15] at hW
        refine lv_iload_n hx hb dX6_set_67 rfl (lv_at hl 2 rfl) ?_
        refine lv_iconst (v := 2) hx hb dX6_set_68 (by decide) ?_
        refine lv_icmp_eq (tgt := 79) hx hb dX6_set_69 (by decide) (fun c16 => ?_) (fun c16 => ?_)
        · have hf := br_p c16 hf
          refine lv_iload_n hx hb dX6_set_79 rfl (lv_at hl 0 rfl) ?_
          cases hf
          exact ss_ixret hx hb hr hlk hW dX6_set_80
        · have hf := br_n c16 hf
          refine lv_aload_n hx hb dX6_set_72 rfl (lv_at hl 1 rfl) ?_
          refine g_X_now hx hb hown hK hW kF_RX6_12 dX6_set_73 ?_
          obtain ⟨s18, q17, hf⟩ := bd_inv hf
          refine ss_callVv (As := []) hx hb hml hown hK hW kb_X4_forgetBlocks kM_RX6_98 rfl (by omega) (c_st (i := 0) (by omega) 0 (by decide)) (mX4_forgetBlocks l (i0 := 0) (by omega) q17) rfl dX6_set_76 rfl hl.1 (Nat.le_of_ble_eq_true rfl) ⟨Nat.le_of_ble_eq_true rfl, Nat.le_of_ble_eq_true rfl⟩ ⟨Nat.zero_le _, Nat.zero_le _⟩ (fun H locs hW => ?_)
          refine lv_iload_n hx hb dX6_set_79 rfl (lv_at hl 0 rfl) ?_
          cases hf
          exact ss_ixret hx hb hr hlk hW dX6_set_80
      · have hf := br_n c9 hf
        cases hf
        exact ss_throwS hx hb hfl hlk hex hml hl.1 hown hK hW (k0 := 0) (text := "the value is out of the setting's range") (by simp [strs]) kL_RX6_62 kT_0_66 dX6_set_33 dX6_set_36 dX6_set_37 dX6_set_39 dX6_set_42 (Nat.le_of_ble_eq_true rfl) (Nat.le_of_ble_eq_true rfl) ⟨Nat.le_refl 1, Nat.le_refl 6⟩
  · have hf := br_p c3 hf
    cases hf
    exact ss_throwS hx hb hfl hlk hex hml hl.1 hown hK hW (k0 := 1) (text := "no such setting") (by simp [strs]) kL_RX6_84 kT_1_88 dX6_set_7 dX6_set_10 dX6_set_11 dX6_set_13 dX6_set_16 (Nat.le_of_ble_eq_true rfl) (Nat.le_of_ble_eq_true rfl) ⟨Nat.le_refl 1, Nat.le_refl 6⟩
def fX6_setting (a1 : Int32) (σ : Sg) : Option ((Int32 ⊕ Nat) × Sg) := bd (fX6_isSetting a1) fun r2 => if r2 = 0 then (some (.inr 1, σ)) else (gd (¬ (a1 < 0 ∨ 3 ≤ (a1).toNatClampNeg)) <| some (.inl (σ (10 + 8 * 0 + 2) (a1).toNatClampNeg), σ))
set_option maxHeartbeats 4000000 in
set_option maxRecDepth 100000 in
theorem mX6_setting (l : Launch) (hfl : l.stackTraces = false) {E : En} {σ μ : Sg} {dg : Int64} {a1 : Int32}  {res : Int32 ⊕ Nat} {σ' : Sg} (hf : fX6_setting a1 σ = some (res, σ')) : vx_Met l yX6_setting [.code yX6_setting cX6_setting 2 (some .int)] (RmX res 6 90) (va_Pc [.ref (eA E 0), .int a1] (Wd E σ μ dg)) (Qxi E σ' μ dg res) (Xx E σ' μ dg res) (xc res) (xs6 res) (eP E) := by
  refine ss_ofX (by decide) (Nat.le_of_ble_eq_true rfl) (fun p e s m below meth c hx hb hr hlk hml hown hex hK hW ls hl => ?_)
  have hown : s.vm.findClass RX6 = some m.cls := hown
  have hl : lv_has ls 2 [(0, .ref (eA E 0)), (1, .int a1)] := hl
  unfold fX6_setting at hf
  refine lv_iload_n hx hb dX6_setting_0 rfl (lv_at hl 1 rfl) ?_
  obtain ⟨r2, q1, hf⟩ := bd_inv hf
  refine ss_callSi (As := [.int a1]) hx hb hml hown hK hW kb_X6_isSetting kM_RX6_139 (mX6_isSetting l (a0 := a1) q1) rfl dX6_setting_1 rfl hl.1 (Nat.le_of_ble_eq_true rfl) ⟨Nat.le_of_ble_eq_true rfl, Nat.le_of_ble_eq_true rfl⟩ ⟨Nat.zero_le _, Nat.zero_le _⟩ (fun H locs hW => ?_)
  refine lv_if_ne (tgt := 17) hx hb dX6_setting_4 (by decide) (fun c3 => ?_) (fun c3 => ?_)
  · have hf := br_n c3 hf
    refine lv_aload_n hx hb dX6_setting_17 rfl (lv_at hl 0 rfl) ?_
    refine g_X_now hx hb hown hK hW kF_RX6_12 dX6_setting_18 ?_
    refine g_State_settings (i := 0) hx hb hown hK hW (by omega) kF_RX6_152 dX6_setting_21 ?_
    refine lv_iload_n hx hb dX6_setting_24 rfl (lv_at hl 1 rfl) ?_
    obtain ⟨hk4, hf⟩ := gd_inv hf
    refine l_St2 (i := 0) hx hb hK hW (by omega) rfl hk4 dX6_setting_25 ?_
    cases hf
    exact ss_ixret hx hb hr hlk hW dX6_setting_26
  · have hf := br_p c3 hf
    cases hf
    exact ss_throwS hx hb hfl hlk hex hml hl.1 hown hK hW (k0 := 1) (text := "no such setting") (by simp [strs]) kL_RX6_84 kT_1_88 dX6_setting_7 dX6_setting_10 dX6_setting_11 dX6_setting_13 dX6_setting_16 (Nat.le_of_ble_eq_true rfl) (Nat.le_of_ble_eq_true rfl) ⟨Nat.le_refl 1, Nat.le_refl 6⟩
def fX6_spoil (a1 : Int32) (a2 : Int32) (σ : Sg) : Option ((Int32 ⊕ Nat) × Sg) := bx (fX6_refuseUnlessCodeBit a1 a2 σ) fun r2 s3 => bd (fX6_beginChange s3) fun s7 => bd (fX4_turnOver 0 a1 a2 s7) fun s9 => nm (up2 s9 (10 + 8 * 0) 10 ((s9 (10 + 8 * 0) 10) + 1)) fun s10 => gd (¬ (a1 < 0 ∨ 64 ≤ (a1).toNatClampNeg)) <| some (.inl (s10 (10 + 8 * 0 + 6) (a1).toNatClampNeg), s10)
set_option maxHeartbeats 4000000 in
set_option maxRecDepth 100000 in
theorem mX6_spoil (l : Launch) (hfl : l.stackTraces = false) {E : En} {σ μ : Sg} {dg : Int64} {a1 : Int32} {a2 : Int32}  {res : Int32 ⊕ Nat} {σ' : Sg} (hf : fX6_spoil a1 a2 σ = some (res, σ')) : vx_Met l yX6_spoil [.code yX6_spoil cX6_spoil 3 (some .int)] (RmX res 7 144) (va_Pc [.ref (eA E 0), .int a1, .int a2] (Wd E σ μ dg)) (Qxi E σ' μ dg res) (Xx E σ' μ dg res) (xc res) (xs6 res) (eP E) := by
  refine ss_ofX (by decide) (Nat.le_of_ble_eq_true rfl) (fun p e s m below meth c hx hb hr hlk hml hown hex hK hW ls hl => ?_)
  have hown : s.vm.findClass RX6 = some m.cls := hown
  have hl : lv_has ls 3 [(0, .ref (eA E 0)), (1, .int a1), (2, .int a2)] := hl
  unfold fX6_spoil at hf
  refine lv_aload_n hx hb dX6_spoil_0 rfl (lv_at hl 0 rfl) ?_
  refine lv_iload_n hx hb dX6_spoil_1 rfl (lv_at hl 1 rfl) ?_
  refine lv_iload_n hx hb dX6_spoil_2 rfl (lv_at hl 2 rfl) ?_
  rcases bx_inv hf with ⟨r2, s3, q1, hf⟩ | ⟨ex4, s5, q1, hf⟩
  rotate_left
  · cases hf
    exact ss_xthrVv (As := [.int a1, .int a2]) hx hb hlk hex hml hown hK hW kb_X6_refuseUnlessCodeBit kM_RX6_171 rfl (by decide) (c_fx (by decide)) (mX6_refuseUnlessCodeBit l hfl (a1 := a1) (a2 := a2) q1) rfl dX6_spoil_3 rfl hl.1 (Nat.le_of_ble_eq_true rfl) ⟨Nat.le_of_ble_eq_true rfl, Nat.le_of_ble_eq_true rfl⟩ ⟨Nat.le_refl 1, Nat.le_refl 6⟩
  refine ss_xcallVv (As := [.int a1, .int a2]) hx hb hml hown hK hW kb_X6_refuseUnlessCodeBit kM_RX6_171 rfl (by decide) (c_fx (by decide)) (mX6_refuseUnlessCodeBit l hfl (a1 := a1) (a2 := a2) q1) rfl dX6_spoil_3 rfl hl.1 (Nat.le_of_ble_eq_true rfl) ⟨Nat.le_of_ble_eq_true rfl, Nat.le_of_ble_eq_true rfl⟩ ⟨Nat.zero_le _, Nat.zero_le _⟩ (fun H locs hW => ?_)
  refine lv_aload_n hx hb dX6_spoil_6 rfl (lv_at hl 0 rfl) ?_
  obtain ⟨s7, q6, hf⟩ := bd_inv hf
  refine ss_callVv (As := []) hx hb hml hown hK hW kb_X6_beginChange kM_RX6_69 rfl (by decide) (c_fx (by decide)) (mX6_beginChange l  q6) rfl dX6_spoil_7 rfl hl.1 (Nat.le_of_ble_eq_true rfl) ⟨Nat.le_of_ble_eq_true rfl, Nat.le_of_ble_eq_true rfl⟩ ⟨Nat.zero_le _, Nat.zero_le _⟩ (fun H locs hW => ?_)
  refine lv_aload_n hx hb dX6_spoil_10 rfl (lv_at hl 0 rfl) ?_
  refine g_X_now hx hb hown hK hW kF_RX6_12 dX6_spoil_11 ?_
  refine lv_iload_n hx hb dX6_spoil_14 rfl (lv_at hl 1 rfl) ?_
  refine lv_iload_n hx hb dX6_spoil_15 rfl (lv_at hl 2 rfl) ?_
  obtain ⟨s9, q8, hf⟩ := bd_inv hf
  refine ss_callVv (As := [.int a1, .int a2]) hx hb hml hown hK hW kb_X4_turnOver kM_RX6_175 rfl (by omega) (c_st (i := 0) (by omega) 0 (by decide)) (mX4_turnOver l (i0 := 0) (a1 := a1) (a2 := a2) (by omega) q8) rfl dX6_spoil_16 rfl hl.1 (Nat.le_of_ble_eq_true rfl) ⟨Nat.le_of_ble_eq_true rfl, Nat.le_of_ble_eq_true rfl⟩ ⟨Nat.zero_le _, Nat.zero_le _⟩ (fun H locs hW => ?_)
  refine lv_aload_n hx hb dX6_spoil_19 rfl (lv_at hl 0 rfl) ?_
  refine g_X_now hx hb hown hK hW kF_RX6_12 dX6_spoil_20 ?_
  refine lv_dup hx hb dX6_spoil_23 rfl ?_
  refine g_State_turned (i := 0) hx hb hown hK hW (by omega) kF_RX6_178 dX6_spoil_24 ?_
  refine lv_iconst (v := 1) hx hb dX6_spoil_27 (by decide) ?_
  refine lv_iadd hx hb dX6_spoil_28 ?_
  refine p_State_turned (i := 0) hx hb hown hK hW (by omega) kF_RX6_178 dX6_spoil_29 (fun H locs hW => ?_)
  obtain ⟨s10, es10⟩ : ∃ y : Sg, y = (up2 s9 (10 + 8 * 0) 10 ((s9 (10 + 8 * 0) 10) + 1)) := ⟨_, rfl⟩
  have hf := nm_use es10 hf
  rw [← es10] at hW
  refine lv_aload_n hx hb dX6_spoil_32 rfl (lv_at hl 0 rfl) ?_
  refine g_X_now hx hb hown hK hW kF_RX6_12 dX6_spoil_33 ?_
  refine g_State_codes (i := 0) hx hb hown hK hW (by omega) kF_RX6_181 dX6_spoil_36 ?_
  refine lv_iload_n hx hb dX6_spoil_39 rfl (lv_at hl 1 rfl) ?_
  obtain ⟨hk11, hf⟩ := gd_inv hf
  refine l_St6 (i := 0) hx hb hK hW (by omega) rfl hk11 dX6_spoil_40 ?_
  cases hf
  exact ss_ixret hx hb hr hlk hW dX6_spoil_41
def fX6_step (a1 : Int32) (σ : Sg) : Option ((Int32 ⊕ Nat) × Sg) := bd (fX6_isNumber a1) fun r2 => if r2 = 0 then (some (.inr 1, σ)) else (bd (fX5_stepOf a1) fun r5 => some (.inl r5, σ))
set_option maxHeartbeats 4000000 in
set_option maxRecDepth 100000 in
theorem mX6_step (l : Launch) (hfl : l.stackTraces = false) {E : En} {σ μ : Sg} {dg : Int64} {a1 : Int32}  {res : Int32 ⊕ Nat} {σ' : Sg} (hf : fX6_step a1 σ = some (res, σ')) : vx_Met l yX6_step [.code yX6_step cX6_step 2 (some .int)] (RmX res 6 90) (va_Pc [.ref (eA E 0), .int a1] (Wd E σ μ dg)) (Qxi E σ' μ dg res) (Xx E σ' μ dg res) (xc res) (xs6 res) (eP E) := by
  refine ss_ofX (by decide) (Nat.le_of_ble_eq_true rfl) (fun p e s m below meth c hx hb hr hlk hml hown hex hK hW ls hl => ?_)
  have hown : s.vm.findClass RX6 = some m.cls := hown
  have hl : lv_has ls 2 [(0, .ref (eA E 0)), (1, .int a1)] := hl
  unfold fX6_step at hf
  refine lv_iload_n hx hb dX6_step_0 rfl (lv_at hl 1 rfl) ?_
  obtain ⟨r2, q1, hf⟩ := bd_inv hf
  refine ss_callSi (As := [.int a1]) hx hb hml hown hK hW kb_X6_isNumber kM_RX6_241 (mX6_isNumber l (a0 := a1) q1) rfl dX6_step_1 rfl hl.1 (Nat.le_of_ble_eq_true rfl) ⟨Nat.le_of_ble_eq_true rfl, Nat.le_of_ble_eq_true rfl⟩ ⟨Nat.zero_le _, Nat.zero_le _⟩ (fun H locs hW => ?_)
  refine lv_if_ne (tgt := 17) hx hb dX6_step_4 (by decide) (fun c3 => ?_) (fun c3 => ?_)
  · have hf := br_n c3 hf
    refine lv_iload_n hx hb dX6_step_17 rfl (lv_at hl 1 rfl) ?_
    obtain ⟨r5, q4, hf⟩ := bd_inv hf
    refine ss_callSi (As := [.int a1]) hx hb hml hown hK hW kb_X5_stepOf kM_RX6_246 (mX5_stepOf l (a0 := a1) q4) rfl dX6_step_18 rfl hl.1 (Nat.le_of_ble_eq_true rfl) ⟨Nat.le_of_ble_eq_true rfl, Nat.le_of_ble_eq_true rfl⟩ ⟨Nat.zero_le _, Nat.zero_le _⟩ (fun H locs hW => ?_)
    cases hf
    exact ss_ixret hx hb hr hlk hW dX6_step_21
  · have hf := br_p c3 hf
    cases hf
    exact ss_throwS hx hb hfl hlk hex hml hl.1 hown hK hW (k0 := 1) (text := "no such step") (by simp [strs]) kL_RX6_84 kT_1_88 dX6_step_7 dX6_step_10 dX6_step_11 dX6_step_13 dX6_step_16 (Nat.le_of_ble_eq_true rfl) (Nat.le_of_ble_eq_true rfl) ⟨Nat.le_refl 1, Nat.le_refl 6⟩
def fX6_take (σ : Sg) : Option ((Int32 ⊕ Nat) × Sg) := bd (fX4_isCoded 0 σ) fun r2 => if r2 = 0 then (some (.inr 2, σ)) else (bd (fX2_decode 0 0 σ) fun s5 => bd (fX6_beginChange s5) fun s7 => bd (fX2_justAsTheyAre 0 0 s7) fun r9 => nm ((s7 (10 + 8 * 0) 0) - r9) fun x1_10 => nm (upR s7 (10 + 8 * 0 + 1) (va_cpy (s7 (86 + 3 * 0 + 1)) (s7 (10 + 8 * 0 + 1)) 0 0 64)) fun s11 => bd (fX4_forgetBlocks 0 s11) fun s13 => some (.inl x1_10, s13))
set_option maxHeartbeats 4000000 in
set_option maxRecDepth 100000 in
theorem mX6_take (l : Launch) (hfl : l.stackTraces = false) {E : En} {σ μ : Sg} {dg : Int64}   {res : Int32 ⊕ Nat} {σ' : Sg} (hf : fX6_take σ = some (res, σ')) : vx_Met l yX6_take [.code yX6_take cX6_take 2 (some .int)] (RmX res 6 144) (va_Pc [.ref (eA E 0)] (Wd E σ μ dg)) (Qxi E σ' μ dg res) (Xx E σ' μ dg res) (xc res) (xs6 res) (eP E) := by
  refine ss_ofX (by decide) (Nat.le_of_ble_eq_true rfl) (fun p e s m below meth c hx hb hr hlk hml hown hex hK hW ls hl => ?_)
  have hown : s.vm.findClass RX6 = some m.cls := hown
  have hl : lv_has ls 2 [(0, .ref (eA E 0))] := hl
  unfold fX6_take at hf
  refine lv_aload_n hx hb dX6_take_0 rfl (lv_at hl 0 rfl) ?_
  refine g_X_now hx hb hown hK hW kF_RX6_12 dX6_take_1 ?_
  obtain ⟨r2, q1, hf⟩ := bd_inv hf
  refine ss_callVi (As := []) hx hb hml hown hK hW kb_X4_isCoded kM_RX6_115 rfl (by omega) (c_st (i := 0) (by omega) 0 (by decide)) (mX4_isCoded l (i0 := 0) (by omega) q1) rfl dX6_take_4 rfl hl.1 (Nat.le_of_ble_eq_true rfl) ⟨Nat.le_of_ble_eq_true rfl, Nat.le_of_ble_eq_true rfl⟩ ⟨Nat.zero_le _, Nat.zero_le _⟩ (fun H locs hW => ?_)
  refine lv_if_ne (tgt := 20) hx hb dX6_take_7 (by decide) (fun c3 => ?_) (fun c3 => ?_)
  · have hf := br_n c3 hf
    refine lv_aload_n hx hb dX6_take_20 rfl (lv_at hl 0 rfl) ?_
    refine g_X_decoder hx hb hown hK hW kF_RX6_48 dX6_take_21 ?_
    refine lv_aload_n hx hb dX6_take_24 rfl (lv_at hl 0 rfl) ?_
    refine g_X_now hx hb hown hK hW kF_RX6_12 dX6_take_25 ?_
    obtain ⟨s5, q4, hf⟩ := bd_inv hf
    refine ss_callVv (As := [.ref (eA E (10 + 8 * 0))]) hx hb hml hown hK hW kb_X2_decode kM_RX6_124 rfl (by omega) (c_dc (d := 0) (by omega) 0 (by decide)) (mX2_decode l (i0 := 0) (i1 := 0) (by omega) (by omega) q4) rfl dX6_take_28 rfl hl.1 (Nat.le_of_ble_eq_true rfl) ⟨Nat.le_of_ble_eq_true rfl, Nat.le_of_ble_eq_true rfl⟩ ⟨Nat.zero_le _, Nat.zero_le _⟩ (fun H locs hW => ?_)
    refine lv_aload_n hx hb dX6_take_31 rfl (lv_at hl 0 rfl) ?_
    obtain ⟨s7, q6, hf⟩ := bd_inv hf
    refine ss_callVv (As := []) hx hb hml hown hK hW kb_X6_beginChange kM_RX6_69 rfl (by decide) (c_fx (by decide)) (mX6_beginChange l  q6) rfl dX6_take_32 rfl hl.1 (Nat.le_of_ble_eq_true rfl) ⟨Nat.le_of_ble_eq_true rfl, Nat.le_of_ble_eq_true rfl⟩ ⟨Nat.zero_le _, Nat.zero_le _⟩ (fun H locs hW => ?_)
    refine lv_aload_n hx hb dX6_take_35 rfl (lv_at hl 0 rfl) ?_
    refine g_X_now hx hb hown hK hW kF_RX6_12 dX6_take_36 ?_
    refine g_State_many (i := 0) hx hb hown hK hW (by omega) kF_RX6_72 dX6_take_39 ?_
    refine lv_aload_n hx hb dX6_take_42 rfl (lv_at hl 0 rfl) ?_
    refine g_X_decoder hx hb hown hK hW kF_RX6_48 dX6_take_43 ?_
    refine lv_aload_n hx hb dX6_take_46 rfl (lv_at hl 0 rfl) ?_
    refine g_X_now hx hb hown hK hW kF_RX6_12 dX6_take_47 ?_
    obtain ⟨r9, q8, hf⟩ := bd_inv hf
    refine ss_callVi (As := [.ref (eA E (10 + 8 * 0))]) hx hb hml hown hK hW kb_X2_justAsTheyAre kM_RX6_128 rfl (by omega) (c_dc (d := 0) (by omega) 0 (by decide)) (mX2_justAsTheyAre l (i0 := 0) (i1 := 0) (by omega) (by omega) q8) rfl dX6_take_50 rfl hl.1 (Nat.le_of_ble_eq_true rfl) ⟨Nat.le_of_ble_eq_true rfl, Nat.le_of_ble_eq_true rfl⟩ ⟨Nat.zero_le _, Nat.zero_le _⟩ (fun H locs hW => ?_)
    refine lv_isub hx hb dX6_take_53 ?_
    refine lv_topi (fun x1_10 ex1_10 => ?_)
    have hf := nm_use ex1_10 hf
    refine lv_istore_n (lv' := [(1, .int x1_10), (0, .ref (eA E 0))]) hx hb dX6_take_54 rfl hl (by decide) rfl (fun ls hl => ?_)
    refine lv_aload_n hx hb dX6_take_55 rfl (lv_at hl 1 rfl) ?_
    refine g_X_decoder hx hb hown hK hW kF_RX6_48 dX6_take_56 ?_
    refine g_Dec_made (i := 0) hx hb hown hK hW (by omega) kF_RX6_132 dX6_take_59 ?_
    refine lv_aload_n hx hb dX6_take_62 rfl (lv_at hl 1 rfl) ?_
    refine g_X_now hx hb hown hK hW kF_RX6_12 dX6_take_63 ?_
    refine g_State_values (i := 0) hx hb hown hK hW (by omega) kF_RX6_94 dX6_take_66 ?_
    refine ss_callSv hx hb hml hown hK hW kb_X6_copyRow kM_RX6_135 (mX6_copyRow l (q1 := 86 + 3 * 0 + 1) (q2 := 10 + 8 * 0 + 1) (n := 64) (by omega) (by omega) (c_dc (d := 0) (by omega) 1 (by decide)) (c_st (i := 0) (by omega) 1 (by decide)) ((c_st (i := 0) (by omega) 1 (by decide)).trans (by simp only [cSt]; rw [upR_self])) (fun a _ h => c_upR h) (by decide)) rfl dX6_take_69 rfl hl.1 (Nat.le_of_ble_eq_true rfl) ⟨Nat.le_of_ble_eq_true rfl, Nat.le_of_ble_eq_true rfl⟩ ⟨Nat.zero_le _, Nat.zero_le _⟩ (fun H locs hW => ?_)
    obtain ⟨s11, es11⟩ : ∃ y : Sg, y = (upR s7 (10 + 8 * 0 + 1) (va_cpy (s7 (86 + 3 * 0 + 1)) (s7 (10 + 8 * 0 + 1)) 0 0 64)) := ⟨_, rfl⟩
    have hf := nm_use es11 hf
    rw [← es11] at hW
    refine lv_aload_n hx hb dX6_take_72 rfl (lv_at hl 1 rfl) ?_
    refine g_X_now hx hb hown hK hW kF_RX6_12 dX6_take_73 ?_
    obtain ⟨s13, q12, hf⟩ := bd_inv hf
    refine ss_callVv (As := []) hx hb hml hown hK hW kb_X4_forgetBlocks kM_RX6_98 rfl (by omega) (c_st (i := 0) (by omega) 0 (by decide)) (mX4_forgetBlocks l (i0 := 0) (by omega) q12) rfl dX6_take_76 rfl hl.1 (Nat.le_of_ble_eq_true rfl) ⟨Nat.le_of_ble_eq_true rfl, Nat.le_of_ble_eq_true rfl⟩ ⟨Nat.zero_le _, Nat.zero_le _⟩ (fun H locs hW => ?_)
    refine lv_iload_n hx hb dX6_take_79 rfl (lv_at hl 0 rfl) ?_
    cases hf
    exact ss_ixret hx hb hr hlk hW dX6_take_80
  · have hf := br_p c3 hf
    cases hf
    exact ss_throwS hx hb hfl hlk hex hml hl.1 hown hK hW (k0 := 2) (text := "the wave is not coded") (by simp [strs]) kL_RX6_119 kT_2_123 dX6_take_10 dX6_take_13 dX6_take_14 dX6_take_16 dX6_take_19 (Nat.le_of_ble_eq_true rfl) (Nat.le_of_ble_eq_true rfl) ⟨Nat.le_refl 1, Nat.le_refl 6⟩
def fX6_undo (σ : Sg) : Option ((Int32 ⊕ Nat) × Sg) := if (σ 1 1) = 0 then (some (.inr 2, σ)) else (bd (fX3_restore 0 σ) fun s3 => nm (up2 s3 (86 + 3 * 0) 3 0) fun s4 => some (.inl (s4 1 1), s4))
set_option maxHeartbeats 4000000 in
set_option maxRecDepth 100000 in
theorem mX6_undo (l : Launch) (hfl : l.stackTraces = false) {E : En} {σ μ : Sg} {dg : Int64}   {res : Int32 ⊕ Nat} {σ' : Sg} (hf : fX6_undo σ = some (res, σ')) : vx_Met l yX6_undo [.code yX6_undo cX6_undo 1 (some .int)] (RmX res 6 124) (va_Pc [.ref (eA E 0)] (Wd E σ μ dg)) (Qxi E σ' μ dg res) (Xx E σ' μ dg res) (xc res) (xs6 res) (eP E) := by
  refine ss_ofX (by decide) (Nat.le_of_ble_eq_true rfl) (fun p e s m below meth c hx hb hr hlk hml hown hex hK hW ls hl => ?_)
  have hown : s.vm.findClass RX6 = some m.cls := hown
  have hl : lv_has ls 1 [(0, .ref (eA E 0))] := hl
  unfold fX6_undo at hf
  refine lv_aload_n hx hb dX6_undo_0 rfl (lv_at hl 0 rfl) ?_
  refine g_X_history hx hb hown hK hW kF_RX6_19 dX6_undo_1 ?_
  refine g_Hist_many hx hb hown hK hW kF_RX6_235 dX6_undo_4 ?_
  refine lv_if_ne (tgt := 20) hx hb dX6_undo_7 (by decide) (fun c1 => ?_) (fun c1 => ?_)
  · have hf := br_n c1 hf
    refine lv_aload_n hx hb dX6_undo_20 rfl (lv_at hl 0 rfl) ?_
    refine g_X_history hx hb hown hK hW kF_RX6_19 dX6_undo_21 ?_
    refine lv_aload_n hx hb dX6_undo_24 rfl (lv_at hl 0 rfl) ?_
    refine g_X_now hx hb hown hK hW kF_RX6_12 dX6_undo_25 ?_
    obtain ⟨s3, q2, hf⟩ := bd_inv hf
    refine ss_callVv (As := [.ref (eA E (10 + 8 * 0))]) hx hb hml hown hK hW kb_X3_restore kM_RX6_238 rfl (by decide) (c_fx (by decide)) (mX3_restore l (i1 := 0) (by omega) q2) rfl dX6_undo_28 rfl hl.1 (Nat.le_of_ble_eq_true rfl) ⟨Nat.le_of_ble_eq_true rfl, Nat.le_of_ble_eq_true rfl⟩ ⟨Nat.zero_le _, Nat.zero_le _⟩ (fun H locs hW => ?_)
    refine lv_aload_n hx hb dX6_undo_31 rfl (lv_at hl 0 rfl) ?_
    refine g_X_decoder hx hb hown hK hW kF_RX6_48 dX6_undo_32 ?_
    refine lv_iconst (v := 0) hx hb dX6_undo_35 (by decide) ?_
    refine p_Dec_upToDate (i := 0) hx hb hown hK hW (by omega) (by decide) kF_RX6_215 dX6_undo_36 (fun H locs hW => ?_)
    obtain ⟨s4, es4⟩ : ∃ y : Sg, y = (up2 s3 (86 + 3 * 0) 3 0) := ⟨_, rfl⟩
    have hf := nm_use es4 hf
    rw [← es4] at hW
    refine lv_aload_n hx hb dX6_undo_39 rfl (lv_at hl 0 rfl) ?_
    refine g_X_history hx hb hown hK hW kF_RX6_19 dX6_undo_40 ?_
    refine g_Hist_many hx hb hown hK hW kF_RX6_235 dX6_undo_43 ?_
    cases hf
    exact ss_ixret hx hb hr hlk hW dX6_undo_46
  · have hf := br_p c1 hf
    cases hf
    exact ss_throwS hx hb hfl hlk hex hml hl.1 hown hK hW (k0 := 2) (text := "there is no saved state") (by simp [strs]) kL_RX6_119 kT_2_123 dX6_undo_10 dX6_undo_13 dX6_undo_14 dX6_undo_16 dX6_undo_19 (Nat.le_of_ble_eq_true rfl) (Nat.le_of_ble_eq_true rfl) ⟨Nat.le_refl 1, Nat.le_refl 6⟩
def fX6_wave (a1 : Int32) (σ : Sg) : Option ((Int32 ⊕ Nat) × Sg) := if a1 < 1 then (some (.inr 0, σ)) else (if a1 ≤ 64 then (bd (fX6_beginChange σ) fun s4 => nm (s4 (10 + 8 * 0) 0) fun x2_5 => bd (fX4_becomeSilence 0 a1 s4) fun s7 => some (.inl x2_5, s7)) else (some (.inr 0, σ)))
set_option maxHeartbeats 4000000 in
set_option maxRecDepth 100000 in
theorem mX6_wave (l : Launch) (hfl : l.stackTraces = false) {E : En} {σ μ : Sg} {dg : Int64} {a1 : Int32}  {res : Int32 ⊕ Nat} {σ' : Sg} (hf : fX6_wave a1 σ = some (res, σ')) : vx_Met l yX6_wave [.code yX6_wave cX6_wave 3 (some .int)] (RmX res 6 144) (va_Pc [.ref (eA E 0), .int a1] (Wd E σ μ dg)) (Qxi E σ' μ dg res) (Xx E σ' μ dg res) (xc res) (xs6 res) (eP E) := by
  refine ss_ofX (by decide) (Nat.le_of_ble_eq_true rfl) (fun p e s m below meth c hx hb hr hlk hml hown hex hK hW ls hl => ?_)
  have hown : s.vm.findClass RX6 = some m.cls := hown
  have hl : lv_has ls 3 [(0, .ref (eA E 0)), (1, .int a1)] := hl
  unfold fX6_wave at hf
  refine lv_iload_n hx hb dX6_wave_0 rfl (lv_at hl 1 rfl) ?_
  refine lv_iconst (v := 1) hx hb dX6_wave_1 (by decide) ?_
  refine lv_icmp_lt (tgt := 11) hx hb dX6_wave_2 (by decide) (fun c1 => ?_) (fun c1 => ?_)
  · have hf := br_p c1 hf
    cases hf
    exact ss_throwS hx hb hfl hlk hex hml hl.1 hown hK hW (k0 := 0) (text := "a wave has 1 to 64 samples") (by simp [strs]) kL_RX6_62 kT_0_66 dX6_wave_11 dX6_wave_14 dX6_wave_15 dX6_wave_17 dX6_wave_20 (Nat.le_of_ble_eq_true rfl) (Nat.le_of_ble_eq_true rfl) ⟨Nat.le_refl 1, Nat.le_refl 6⟩
  · have hf := br_n c1 hf
    refine lv_iload_n hx hb dX6_wave_5 rfl (lv_at hl 1 rfl) ?_
    refine lv_bipush (v := 64) hx hb dX6_wave_6 (by decide) ?_
    refine lv_icmp_le (tgt := 21) hx hb dX6_wave_8 (by decide) (fun c2 => ?_) (fun c2 => ?_)
    · have hf := br_p c2 hf
      refine lv_aload_n hx hb dX6_wave_21 rfl (lv_at hl 0 rfl) ?_
      obtain ⟨s4, q3, hf⟩ := bd_inv hf
      refine ss_callVv (As := []) hx hb hml hown hK hW kb_X6_beginChange kM_RX6_69 rfl (by decide) (c_fx (by decide)) (mX6_beginChange l  q3) rfl dX6_wave_22 rfl hl.1 (Nat.le_of_ble_eq_true rfl) ⟨Nat.le_of_ble_eq_true rfl, Nat.le_of_ble_eq_true rfl⟩ ⟨Nat.zero_le _, Nat.zero_le _⟩ (fun H locs hW => ?_)
      refine lv_aload_n hx hb dX6_wave_25 rfl (lv_at hl 0 rfl) ?_
      refine g_X_now hx hb hown hK hW kF_RX6_12 dX6_wave_26 ?_
      refine g_State_many (i := 0) hx hb hown hK hW (by omega) kF_RX6_72 dX6_wave_29 ?_
      refine lv_topi (fun x2_5 ex2_5 => ?_)
      have hf := nm_use ex2_5 hf
      refine lv_istore_n (lv' := [(2, .int x2_5), (0, .ref (eA E 0)), (1, .int a1)]) hx hb dX6_wave_32 rfl hl (by decide) rfl (fun ls hl => ?_)
      refine lv_aload_n hx hb dX6_wave_33 rfl (lv_at hl 1 rfl) ?_
      refine g_X_now hx hb hown hK hW kF_RX6_12 dX6_wave_34 ?_
      refine lv_iload_n hx hb dX6_wave_37 rfl (lv_at hl 2 rfl) ?_
      obtain ⟨s7, q6, hf⟩ := bd_inv hf
      refine ss_callVv (As := [.int a1]) hx hb hml hown hK hW kb_X4_becomeSilence kM_RX6_76 rfl (by omega) (c_st (i := 0) (by omega) 0 (by decide)) (mX4_becomeSilence l (i0 := 0) (a1 := a1) (by omega) q6) rfl dX6_wave_38 rfl hl.1 (Nat.le_of_ble_eq_true rfl) ⟨Nat.le_of_ble_eq_true rfl, Nat.le_of_ble_eq_true rfl⟩ ⟨Nat.zero_le _, Nat.zero_le _⟩ (fun H locs hW => ?_)
      refine lv_iload_n hx hb dX6_wave_41 rfl (lv_at hl 0 rfl) ?_
      cases hf
      exact ss_ixret hx hb hr hlk hW dX6_wave_42
    · have hf := br_n c2 hf
      cases hf
      exact ss_throwS hx hb hfl hlk hex hml hl.1 hown hK hW (k0 := 0) (text := "a wave has 1 to 64 samples") (by simp [strs]) kL_RX6_62 kT_0_66 dX6_wave_11 dX6_wave_14 dX6_wave_15 dX6_wave_17 dX6_wave_20 (Nat.le_of_ble_eq_true rfl) (Nat.le_of_ble_eq_true rfl) ⟨Nat.le_refl 1, Nat.le_refl 6⟩
def fX6_write (a1 : Int32) (σ : Sg) : Option ((Int32 ⊕ Nat) × Sg) := bx (fX6_refuseUnlessBlock a1 σ) fun r2 s3 => bd (fX0_tell 0 a1 s3) fun s7 => some (.inl (s7 5 1), s7)
set_option maxHeartbeats 4000000 in
set_option maxRecDepth 100000 in
theorem mX6_write (l : Launch) (hfl : l.stackTraces = false) {E : En} {σ μ : Sg} {dg : Int64} {a1 : Int32}  {res : Int32 ⊕ Nat} {σ' : Sg} (hf : fX6_write a1 σ = some (res, σ')) : vx_Met l yX6_write [.code yX6_write cX6_write 2 (some .int)] (RmX res 7 111) (va_Pc [.ref (eA E 0), .int a1] (Wd E σ μ dg)) (Qxi E σ' μ dg res) (Xx E σ' μ dg res) (xc res) (xs6 res) (eP E) := by
  refine ss_ofX (by decide) (Nat.le_of_ble_eq_true rfl) (fun p e s m below meth c hx hb hr hlk hml hown hex hK hW ls hl => ?_)
  have hown : s.vm.findClass RX6 = some m.cls := hown
  have hl : lv_has ls 2 [(0, .ref (eA E 0)), (1, .int a1)] := hl
  unfold fX6_write at hf
  refine lv_aload_n hx hb dX6_write_0 rfl (lv_at hl 0 rfl) ?_
  refine lv_iload_n hx hb dX6_write_1 rfl (lv_at hl 1 rfl) ?_
  rcases bx_inv hf with ⟨r2, s3, q1, hf⟩ | ⟨ex4, s5, q1, hf⟩
  rotate_left
  · cases hf
    exact ss_xthrVv (As := [.int a1]) hx hb hlk hex hml hown hK hW kb_X6_refuseUnlessBlock kM_RX6_161 rfl (by decide) (c_fx (by decide)) (mX6_refuseUnlessBlock l hfl (a1 := a1) q1) rfl dX6_write_2 rfl hl.1 (Nat.le_of_ble_eq_true rfl) ⟨Nat.le_of_ble_eq_true rfl, Nat.le_of_ble_eq_true rfl⟩ ⟨Nat.le_refl 1, Nat.le_refl 6⟩
  refine ss_xcallVv (As := [.int a1]) hx hb hml hown hK hW kb_X6_refuseUnlessBlock kM_RX6_161 rfl (by decide) (c_fx (by decide)) (mX6_refuseUnlessBlock l hfl (a1 := a1) q1) rfl dX6_write_2 rfl hl.1 (Nat.le_of_ble_eq_true rfl) ⟨Nat.le_of_ble_eq_true rfl, Nat.le_of_ble_eq_true rfl⟩ ⟨Nat.zero_le _, Nat.zero_le _⟩ (fun H locs hW => ?_)
  refine lv_aload_n hx hb dX6_write_5 rfl (lv_at hl 0 rfl) ?_
  refine g_X_buffer hx hb hown hK hW kF_RX6_34 dX6_write_6 ?_
  refine lv_aload_n hx hb dX6_write_9 rfl (lv_at hl 0 rfl) ?_
  refine g_X_now hx hb hown hK hW kF_RX6_12 dX6_write_10 ?_
  refine lv_iload_n hx hb dX6_write_13 rfl (lv_at hl 1 rfl) ?_
  obtain ⟨s7, q6, hf⟩ := bd_inv hf
  refine ss_callVv (As := [.ref (eA E (10 + 8 * 0)), .int a1]) hx hb hml hown hK hW kb_X0_tell kM_RX6_223 rfl (by decide) (c_fx (by decide)) (mX0_tell l (i1 := 0) (a2 := a1) (by omega) q6) rfl dX6_write_14 rfl hl.1 (Nat.le_of_ble_eq_true rfl) ⟨Nat.le_of_ble_eq_true rfl, Nat.le_of_ble_eq_true rfl⟩ ⟨Nat.zero_le _, Nat.zero_le _⟩ (fun H locs hW => ?_)
  refine lv_aload_n hx hb dX6_write_17 rfl (lv_at hl 0 rfl) ?_
  refine g_X_buffer hx hb hown hK hW kF_RX6_34 dX6_write_18 ?_
  refine g_BT_length hx hb hown hK hW kF_RX6_194 dX6_write_21 ?_
  cases hf
  exact ss_ixret hx hb hr hlk hW dX6_write_24
