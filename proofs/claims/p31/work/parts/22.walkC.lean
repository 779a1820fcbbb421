def fX6_count (a1 : Int32) (σ : Sg) : Option ((Int32 ⊕ Nat) × Sg) := if a1 < 0 then (some (.inr 0, σ)) else (if a1 < 12 then (if a1 = 0 then (some (.inl (σ (10 + 8 * 0) 0), σ)) else (if a1 = 1 then (bd (fX4_isCoded 0 σ) fun r6 => if r6 = 0 then (some (.inl 0, σ)) else (some (.inl 1, σ))) else (if a1 = 2 then (some (.inl (σ (10 + 8 * 0) 3), σ)) else (if a1 = 3 then (bd (fX4_lostBlocks 0 σ) fun r11 => some (.inl r11, σ)) else (if a1 = 9 then (some (.inl (σ (10 + 8 * 0) 9), σ)) else (if a1 = 10 then (some (.inl (σ (10 + 8 * 0) 10), σ)) else (if a1 = 11 then (some (.inl (σ 1 1), σ)) else (bd (fX4_isCoded 0 σ) fun r16 => if r16 = 0 then (some (.inl 0, σ)) else (bd2 (fX6_codedCount a1 σ) fun r19 s20 => some (.inl r19, s20)))))))))) else (some (.inr 0, σ)))
set_option maxHeartbeats 4000000 in
set_option maxRecDepth 100000 in
theorem mX6_count (l : Launch) (hfl : l.stackTraces = false) {E : En} {σ μ : Sg} {dg : Int64} {a1 : Int32}  {res : Int32 ⊕ Nat} {σ' : Sg} (hf : fX6_count a1 σ = some (res, σ')) : vx_Met l yX6_count [.code yX6_count cX6_count 2 (some .int)] (RmX res 6 132) (va_Pc [.ref (eA E 0), .int a1] (Wd E σ μ dg)) (Qxi E σ' μ dg res) (Xx E σ' μ dg res) (xc res) (xs6 res) (eP E) := by
  refine ss_ofX (by decide) (Nat.le_of_ble_eq_true rfl) (fun p e s m below meth c hx hb hr hlk hml hown hex hK hW ls hl => ?_)
  have hown : s.vm.findClass RX6 = some m.cls := hown
  have hl : lv_has ls 2 [(0, .ref (eA E 0)), (1, .int a1)] := hl
  unfold fX6_count at hf
  refine lv_iload_n hx hb dX6_count_0 rfl (lv_at hl 1 rfl) ?_
  refine lv_if_lt (tgt := 10) hx hb dX6_count_1 (by decide) (fun c1 => ?_) (fun c1 => ?_)
  · have hf := br_p c1 hf
    cases hf
    exact ss_throwW hx hb hfl hlk hex hml hl.1 hown hK hW (k0 := 0) (text := "no such number") (by simp [strs]) kL_RX6_62 kT_0_66 dX6_count_10 dX6_count_13 dX6_count_14 dX6_count_17 dX6_count_20 (Nat.le_of_ble_eq_true rfl) (Nat.le_of_ble_eq_true rfl) ⟨Nat.le_refl 1, Nat.le_refl 6⟩
  · have hf := br_n c1 hf
    refine lv_iload_n hx hb dX6_count_4 rfl (lv_at hl 1 rfl) ?_
    refine lv_bipush (v := 12) hx hb dX6_count_5 (by decide) ?_
    refine lv_icmp_lt (tgt := 21) hx hb dX6_count_7 (by decide) (fun c2 => ?_) (fun c2 => ?_)
    · have hf := br_p c2 hf
      refine lv_iload_n hx hb dX6_count_21 rfl (lv_at hl 1 rfl) ?_
      by_cases c3 : a1 = 0
      · have hf := br_p c3 hf
        refine lv_tableIn (tgt := 84) hx hb dX6_count_22 (by rw [c3]; decide) (by rw [c3]; decide) (by rw [c3]; rfl) (by decide) ?_
        refine lv_aload_n hx hb dX6_count_84 rfl (lv_at hl 0 rfl) ?_
        refine g_X_now hx hb hown hK hW kF_RX6_12 dX6_count_85 ?_
        refine g_State_many (i := 0) hx hb hown hK hW (by omega) kF_RX6_72 dX6_count_88 ?_
        cases hf
        exact ss_ixret hx hb hr hlk hW dX6_count_91
      have hf := br_n c3 hf
      by_cases c4 : a1 = 1
      · have hf := br_p c4 hf
        refine lv_tableIn (tgt := 92) hx hb dX6_count_22 (by rw [c4]; decide) (by rw [c4]; decide) (by rw [c4]; rfl) (by decide) ?_
        refine lv_aload_n hx hb dX6_count_92 rfl (lv_at hl 0 rfl) ?_
        refine g_X_now hx hb hown hK hW kF_RX6_12 dX6_count_93 ?_
        obtain ⟨r6, q5, hf⟩ := bd_inv hf
        refine ss_callVi (As := []) hx hb hml hown hK hW kb_X4_isCoded kM_RX6_115 rfl (okq_lt (by omega)) (c_st (i := 0) (by omega) 0 (by decide)) (mX4_isCoded l (i0 := 0) (by omega) q5) rfl dX6_count_96 rfl hl.1 (Nat.le_of_ble_eq_true rfl) ⟨Nat.le_of_ble_eq_true rfl, Nat.le_of_ble_eq_true rfl⟩ ⟨Nat.zero_le _, Nat.zero_le _⟩ (fun H locs hW => ?_)
        refine lv_if_eq (tgt := 106) hx hb dX6_count_99 (by decide) (fun c7 => ?_) (fun c7 => ?_)
        · have hf := br_p c7 hf
          refine lv_iconst (v := 0) hx hb dX6_count_106 (by decide) ?_
          cases hf
          exact ss_ixret hx hb hr hlk hW dX6_count_107
        · have hf := br_n c7 hf
          refine lv_iconst (v := 1) hx hb dX6_count_102 (by decide) ?_
          refine lv_goto (tgt := 107) hx hb dX6_count_103 (by decide) ?_
          cases hf
          exact ss_ixret hx hb hr hlk hW dX6_count_107
      have hf := br_n c4 hf
      by_cases c8 : a1 = 2
      · have hf := br_p c8 hf
        refine lv_tableIn (tgt := 108) hx hb dX6_count_22 (by rw [c8]; decide) (by rw [c8]; decide) (by rw [c8]; rfl) (by decide) ?_
        refine lv_aload_n hx hb dX6_count_108 rfl (lv_at hl 0 rfl) ?_
        refine g_X_now hx hb hown hK hW kF_RX6_12 dX6_count_109 ?_
        refine g_State_blocks (i := 0) hx hb hown hK hW (by omega) kF_RX6_158 dX6_count_112 ?_
        cases hf
        exact ss_ixret hx hb hr hlk hW dX6_count_115
      have hf := br_n c8 hf
      by_cases c9 : a1 = 3
      · have hf := br_p c9 hf
        refine lv_tableIn (tgt := 116) hx hb dX6_count_22 (by rw [c9]; decide) (by rw [c9]; decide) (by rw [c9]; rfl) (by decide) ?_
        refine lv_aload_n hx hb dX6_count_116 rfl (lv_at hl 0 rfl) ?_
        refine g_X_now hx hb hown hK hW kF_RX6_12 dX6_count_117 ?_
        obtain ⟨r11, q10, hf⟩ := bd_inv hf
        refine ss_callVi (As := []) hx hb hml hown hK hW kb_X4_lostBlocks kM_RX6_167 rfl (okq_lt (by omega)) (c_st (i := 0) (by omega) 0 (by decide)) (mX4_lostBlocks l (i0 := 0) (by omega) q10) rfl dX6_count_120 rfl hl.1 (Nat.le_of_ble_eq_true rfl) ⟨Nat.le_of_ble_eq_true rfl, Nat.le_of_ble_eq_true rfl⟩ ⟨Nat.zero_le _, Nat.zero_le _⟩ (fun H locs hW => ?_)
        cases hf
        exact ss_ixret hx hb hr hlk hW dX6_count_123
      have hf := br_n c9 hf
      by_cases c12 : a1 = 9
      · have hf := br_p c12 hf
        refine lv_tableIn (tgt := 124) hx hb dX6_count_22 (by rw [c12]; decide) (by rw [c12]; decide) (by rw [c12]; rfl) (by decide) ?_
        refine lv_aload_n hx hb dX6_count_124 rfl (lv_at hl 0 rfl) ?_
        refine g_X_now hx hb hown hK hW kF_RX6_12 dX6_count_125 ?_
        refine g_State_codings (i := 0) hx hb hown hK hW (by omega) kF_RX6_278 dX6_count_128 ?_
        cases hf
        exact ss_ixret hx hb hr hlk hW dX6_count_131
      have hf := br_n c12 hf
      by_cases c13 : a1 = 10
      · have hf := br_p c13 hf
        refine lv_tableIn (tgt := 132) hx hb dX6_count_22 (by rw [c13]; decide) (by rw [c13]; decide) (by rw [c13]; rfl) (by decide) ?_
        refine lv_aload_n hx hb dX6_count_132 rfl (lv_at hl 0 rfl) ?_
        refine g_X_now hx hb hown hK hW kF_RX6_12 dX6_count_133 ?_
        refine g_State_turned (i := 0) hx hb hown hK hW (by omega) kF_RX6_178 dX6_count_136 ?_
        cases hf
        exact ss_ixret hx hb hr hlk hW dX6_count_139
      have hf := br_n c13 hf
      by_cases c14 : a1 = 11
      · have hf := br_p c14 hf
        refine lv_tableIn (tgt := 140) hx hb dX6_count_22 (by rw [c14]; decide) (by rw [c14]; decide) (by rw [c14]; rfl) (by decide) ?_
        refine lv_aload_n hx hb dX6_count_140 rfl (lv_at hl 0 rfl) ?_
        refine g_X_history hx hb hown hK hW kF_RX6_19 dX6_count_141 ?_
        refine g_Hist_many hx hb hown hK hW kF_RX6_235 dX6_count_144 ?_
        cases hf
        exact ss_ixret hx hb hr hlk hW dX6_count_147
      have hf := br_n c14 hf
      have zc3 := sw_ne (n := 0) c3 (by decide)
      have zc4 := sw_ne (n := 1) c4 (by decide)
      have zc8 := sw_ne (n := 2) c8 (by decide)
      have zc9 := sw_ne (n := 3) c9 (by decide)
      have zc12 := sw_ne (n := 9) c12 (by decide)
      have zc13 := sw_ne (n := 10) c13 (by decide)
      have zc14 := sw_ne (n := 11) c14 (by decide)
      refine Or.elim (Classical.em (a1 = 4)) (fun c21 => lv_tableIn (tgt := 148) hx hb dX6_count_22 (by rw [c21]; decide) (by rw [c21]; decide) (by rw [c21]; rfl) (by decide) ?_) (fun c21 => ?_)
      · skip
        refine lv_aload_n hx hb dX6_count_148 rfl (lv_at hl 0 rfl) ?_
        refine g_X_now hx hb hown hK hW kF_RX6_12 dX6_count_149 ?_
        obtain ⟨r16, q15, hf⟩ := bd_inv hf
        refine ss_callVi (As := []) hx hb hml hown hK hW kb_X4_isCoded kM_RX6_115 rfl (okq_lt (by omega)) (c_st (i := 0) (by omega) 0 (by decide)) (mX4_isCoded l (i0 := 0) (by omega) q15) rfl dX6_count_152 rfl hl.1 (Nat.le_of_ble_eq_true rfl) ⟨Nat.le_of_ble_eq_true rfl, Nat.le_of_ble_eq_true rfl⟩ ⟨Nat.zero_le _, Nat.zero_le _⟩ (fun H locs hW => ?_)
        refine lv_if_eq (tgt := 166) hx hb dX6_count_155 (by decide) (fun c17 => ?_) (fun c17 => ?_)
        · have hf := br_p c17 hf
          refine lv_iconst (v := 0) hx hb dX6_count_166 (by decide) ?_
          cases hf
          exact ss_ixret hx hb hr hlk hW dX6_count_167
        · have hf := br_n c17 hf
          refine lv_aload_n hx hb dX6_count_158 rfl (lv_at hl 0 rfl) ?_
          refine lv_iload_n hx hb dX6_count_159 rfl (lv_at hl 1 rfl) ?_
          obtain ⟨r19, s20, q18, hf⟩ := bd2_inv hf
          refine ss_callVi (As := [.int a1]) hx hb hml hown hK hW kb_X6_codedCount kM_RX6_281 rfl (okq_lt (by decide)) (c_fx (by decide)) (mX6_codedCount l (a1 := a1) q18) rfl dX6_count_160 rfl hl.1 (Nat.le_of_ble_eq_true rfl) ⟨Nat.le_of_ble_eq_true rfl, Nat.le_of_ble_eq_true rfl⟩ ⟨Nat.zero_le _, Nat.zero_le _⟩ (fun H locs hW => ?_)
          refine lv_goto (tgt := 167) hx hb dX6_count_163 (by decide) ?_
          cases hf
          exact ss_ixret hx hb hr hlk hW dX6_count_167
      have zc21 := sw_ne (n := 4) c21 (by decide)
      refine Or.elim (Classical.em (a1 = 5)) (fun c22 => lv_tableIn (tgt := 148) hx hb dX6_count_22 (by rw [c22]; decide) (by rw [c22]; decide) (by rw [c22]; rfl) (by decide) ?_) (fun c22 => ?_)
      · skip
        refine lv_aload_n hx hb dX6_count_148 rfl (lv_at hl 0 rfl) ?_
        refine g_X_now hx hb hown hK hW kF_RX6_12 dX6_count_149 ?_
        obtain ⟨r16, q15, hf⟩ := bd_inv hf
        refine ss_callVi (As := []) hx hb hml hown hK hW kb_X4_isCoded kM_RX6_115 rfl (okq_lt (by omega)) (c_st (i := 0) (by omega) 0 (by decide)) (mX4_isCoded l (i0 := 0) (by omega) q15) rfl dX6_count_152 rfl hl.1 (Nat.le_of_ble_eq_true rfl) ⟨Nat.le_of_ble_eq_true rfl, Nat.le_of_ble_eq_true rfl⟩ ⟨Nat.zero_le _, Nat.zero_le _⟩ (fun H locs hW => ?_)
        refine lv_if_eq (tgt := 166) hx hb dX6_count_155 (by decide) (fun c17 => ?_) (fun c17 => ?_)
        · have hf := br_p c17 hf
          refine lv_iconst (v := 0) hx hb dX6_count_166 (by decide) ?_
          cases hf
          exact ss_ixret hx hb hr hlk hW dX6_count_167
        · have hf := br_n c17 hf
          refine lv_aload_n hx hb dX6_count_158 rfl (lv_at hl 0 rfl) ?_
          refine lv_iload_n hx hb dX6_count_159 rfl (lv_at hl 1 rfl) ?_
          obtain ⟨r19, s20, q18, hf⟩ := bd2_inv hf
          refine ss_callVi (As := [.int a1]) hx hb hml hown hK hW kb_X6_codedCount kM_RX6_281 rfl (okq_lt (by decide)) (c_fx (by decide)) (mX6_codedCount l (a1 := a1) q18) rfl dX6_count_160 rfl hl.1 (Nat.le_of_ble_eq_true rfl) ⟨Nat.le_of_ble_eq_true rfl, Nat.le_of_ble_eq_true rfl⟩ ⟨Nat.zero_le _, Nat.zero_le _⟩ (fun H locs hW => ?_)
          refine lv_goto (tgt := 167) hx hb dX6_count_163 (by decide) ?_
          cases hf
          exact ss_ixret hx hb hr hlk hW dX6_count_167
      have zc22 := sw_ne (n := 5) c22 (by decide)
      refine Or.elim (Classical.em (a1 = 6)) (fun c23 => lv_tableIn (tgt := 148) hx hb dX6_count_22 (by rw [c23]; decide) (by rw [c23]; decide) (by rw [c23]; rfl) (by decide) ?_) (fun c23 => ?_)
      · skip
        refine lv_aload_n hx hb dX6_count_148 rfl (lv_at hl 0 rfl) ?_
        refine g_X_now hx hb hown hK hW kF_RX6_12 dX6_count_149 ?_
        obtain ⟨r16, q15, hf⟩ := bd_inv hf
        refine ss_callVi (As := []) hx hb hml hown hK hW kb_X4_isCoded kM_RX6_115 rfl (okq_lt (by omega)) (c_st (i := 0) (by omega) 0 (by decide)) (mX4_isCoded l (i0 := 0) (by omega) q15) rfl dX6_count_152 rfl hl.1 (Nat.le_of_ble_eq_true rfl) ⟨Nat.le_of_ble_eq_true rfl, Nat.le_of_ble_eq_true rfl⟩ ⟨Nat.zero_le _, Nat.zero_le _⟩ (fun H locs hW => ?_)
        refine lv_if_eq (tgt := 166) hx hb dX6_count_155 (by decide) (fun c17 => ?_) (fun c17 => ?_)
        · have hf := br_p c17 hf
          refine lv_iconst (v := 0) hx hb dX6_count_166 (by decide) ?_
          cases hf
          exact ss_ixret hx hb hr hlk hW dX6_count_167
        · have hf := br_n c17 hf
          refine lv_aload_n hx hb dX6_count_158 rfl (lv_at hl 0 rfl) ?_
          refine lv_iload_n hx hb dX6_count_159 rfl (lv_at hl 1 rfl) ?_
          obtain ⟨r19, s20, q18, hf⟩ := bd2_inv hf
          refine ss_callVi (As := [.int a1]) hx hb hml hown hK hW kb_X6_codedCount kM_RX6_281 rfl (okq_lt (by decide)) (c_fx (by decide)) (mX6_codedCount l (a1 := a1) q18) rfl dX6_count_160 rfl hl.1 (Nat.le_of_ble_eq_true rfl) ⟨Nat.le_of_ble_eq_true rfl, Nat.le_of_ble_eq_true rfl⟩ ⟨Nat.zero_le _, Nat.zero_le _⟩ (fun H locs hW => ?_)
          refine lv_goto (tgt := 167) hx hb dX6_count_163 (by decide) ?_
          cases hf
          exact ss_ixret hx hb hr hlk hW dX6_count_167
      have zc23 := sw_ne (n := 6) c23 (by decide)
      refine Or.elim (Classical.em (a1 = 7)) (fun c24 => lv_tableIn (tgt := 148) hx hb dX6_count_22 (by rw [c24]; decide) (by rw [c24]; decide) (by rw [c24]; rfl) (by decide) ?_) (fun c24 => ?_)
      · skip
        refine lv_aload_n hx hb dX6_count_148 rfl (lv_at hl 0 rfl) ?_
        refine g_X_now hx hb hown hK hW kF_RX6_12 dX6_count_149 ?_
        obtain ⟨r16, q15, hf⟩ := bd_inv hf
        refine ss_callVi (As := []) hx hb hml hown hK hW kb_X4_isCoded kM_RX6_115 rfl (okq_lt (by omega)) (c_st (i := 0) (by omega) 0 (by decide)) (mX4_isCoded l (i0 := 0) (by omega) q15) rfl dX6_count_152 rfl hl.1 (Nat.le_of_ble_eq_true rfl) ⟨Nat.le_of_ble_eq_true rfl, Nat.le_of_ble_eq_true rfl⟩ ⟨Nat.zero_le _, Nat.zero_le _⟩ (fun H locs hW => ?_)
        refine lv_if_eq (tgt := 166) hx hb dX6_count_155 (by decide) (fun c17 => ?_) (fun c17 => ?_)
        · have hf := br_p c17 hf
          refine lv_iconst (v := 0) hx hb dX6_count_166 (by decide) ?_
          cases hf
          exact ss_ixret hx hb hr hlk hW dX6_count_167
        · have hf := br_n c17 hf
          refine lv_aload_n hx hb dX6_count_158 rfl (lv_at hl 0 rfl) ?_
          refine lv_iload_n hx hb dX6_count_159 rfl (lv_at hl 1 rfl) ?_
          obtain ⟨r19, s20, q18, hf⟩ := bd2_inv hf
          refine ss_callVi (As := [.int a1]) hx hb hml hown hK hW kb_X6_codedCount kM_RX6_281 rfl (okq_lt (by decide)) (c_fx (by decide)) (mX6_codedCount l (a1 := a1) q18) rfl dX6_count_160 rfl hl.1 (Nat.le_of_ble_eq_true rfl) ⟨Nat.le_of_ble_eq_true rfl, Nat.le_of_ble_eq_true rfl⟩ ⟨Nat.zero_le _, Nat.zero_le _⟩ (fun H locs hW => ?_)
          refine lv_goto (tgt := 167) hx hb dX6_count_163 (by decide) ?_
          cases hf
          exact ss_ixret hx hb hr hlk hW dX6_count_167
      have zc24 := sw_ne (n := 7) c24 (by decide)
      refine Or.elim (Classical.em (a1 = 8)) (fun c25 => lv_tableIn (tgt := 148) hx hb dX6_count_22 (by rw [c25]; decide) (by rw [c25]; decide) (by rw [c25]; rfl) (by decide) ?_) (fun c25 => ?_)
      · skip
        refine lv_aload_n hx hb dX6_count_148 rfl (lv_at hl 0 rfl) ?_
        refine g_X_now hx hb hown hK hW kF_RX6_12 dX6_count_149 ?_
        obtain ⟨r16, q15, hf⟩ := bd_inv hf
        refine ss_callVi (As := []) hx hb hml hown hK hW kb_X4_isCoded kM_RX6_115 rfl (okq_lt (by omega)) (c_st (i := 0) (by omega) 0 (by decide)) (mX4_isCoded l (i0 := 0) (by omega) q15) rfl dX6_count_152 rfl hl.1 (Nat.le_of_ble_eq_true rfl) ⟨Nat.le_of_ble_eq_true rfl, Nat.le_of_ble_eq_true rfl⟩ ⟨Nat.zero_le _, Nat.zero_le _⟩ (fun H locs hW => ?_)
        refine lv_if_eq (tgt := 166) hx hb dX6_count_155 (by decide) (fun c17 => ?_) (fun c17 => ?_)
        · have hf := br_p c17 hf
          refine lv_iconst (v := 0) hx hb dX6_count_166 (by decide) ?_
          cases hf
          exact ss_ixret hx hb hr hlk hW dX6_count_167
        · have hf := br_n c17 hf
          refine lv_aload_n hx hb dX6_count_158 rfl (lv_at hl 0 rfl) ?_
          refine lv_iload_n hx hb dX6_count_159 rfl (lv_at hl 1 rfl) ?_
          obtain ⟨r19, s20, q18, hf⟩ := bd2_inv hf
          refine ss_callVi (As := [.int a1]) hx hb hml hown hK hW kb_X6_codedCount kM_RX6_281 rfl (okq_lt (by decide)) (c_fx (by decide)) (mX6_codedCount l (a1 := a1) q18) rfl dX6_count_160 rfl hl.1 (Nat.le_of_ble_eq_true rfl) ⟨Nat.le_of_ble_eq_true rfl, Nat.le_of_ble_eq_true rfl⟩ ⟨Nat.zero_le _, Nat.zero_le _⟩ (fun H locs hW => ?_)
          refine lv_goto (tgt := 167) hx hb dX6_count_163 (by decide) ?_
          cases hf
          exact ss_ixret hx hb hr hlk hW dX6_count_167
      have zc25 := sw_ne (n := 8) c25 (by decide)
      refine lv_tableOut (tgt := 148) hx hb dX6_count_22 (by omega) (by decide) ?_
      refine lv_aload_n hx hb dX6_count_148 rfl (lv_at hl 0 rfl) ?_
      refine g_X_now hx hb hown hK hW kF_RX6_12 dX6_count_149 ?_
      obtain ⟨r16, q15, hf⟩ := bd_inv hf
      refine ss_callVi (As := []) hx hb hml hown hK hW kb_X4_isCoded kM_RX6_115 rfl (okq_lt (by omega)) (c_st (i := 0) (by omega) 0 (by decide)) (mX4_isCoded l (i0 := 0) (by omega) q15) rfl dX6_count_152 rfl hl.1 (Nat.le_of_ble_eq_true rfl) ⟨Nat.le_of_ble_eq_true rfl, Nat.le_of_ble_eq_true rfl⟩ ⟨Nat.zero_le _, Nat.zero_le _⟩ (fun H locs hW => ?_)
      refine lv_if_eq (tgt := 166) hx hb dX6_count_155 (by decide) (fun c17 => ?_) (fun c17 => ?_)
      · have hf := br_p c17 hf
        refine lv_iconst (v := 0) hx hb dX6_count_166 (by decide) ?_
        cases hf
        exact ss_ixret hx hb hr hlk hW dX6_count_167
      · have hf := br_n c17 hf
        refine lv_aload_n hx hb dX6_count_158 rfl (lv_at hl 0 rfl) ?_
        refine lv_iload_n hx hb dX6_count_159 rfl (lv_at hl 1 rfl) ?_
        obtain ⟨r19, s20, q18, hf⟩ := bd2_inv hf
        refine ss_callVi (As := [.int a1]) hx hb hml hown hK hW kb_X6_codedCount kM_RX6_281 rfl (okq_lt (by decide)) (c_fx (by decide)) (mX6_codedCount l (a1 := a1) q18) rfl dX6_count_160 rfl hl.1 (Nat.le_of_ble_eq_true rfl) ⟨Nat.le_of_ble_eq_true rfl, Nat.le_of_ble_eq_true rfl⟩ ⟨Nat.zero_le _, Nat.zero_le _⟩ (fun H locs hW => ?_)
        refine lv_goto (tgt := 167) hx hb dX6_count_163 (by decide) ?_
        cases hf
        exact ss_ixret hx hb hr hlk hW dX6_count_167
    · have hf := br_n c2 hf
      cases hf
      exact ss_throwW hx hb hfl hlk hex hml hl.1 hown hK hW (k0 := 0) (text := "no such number") (by simp [strs]) kL_RX6_62 kT_0_66 dX6_count_10 dX6_count_13 dX6_count_14 dX6_count_17 dX6_count_20 (Nat.le_of_ble_eq_true rfl) (Nat.le_of_ble_eq_true rfl) ⟨Nat.le_refl 1, Nat.le_refl 6⟩
def fX6_wave (a1 : Int32) (σ : Sg) : Option ((Int32 ⊕ Nat) × Sg) := if a1 < 1 then (some (.inr 0, σ)) else (if a1 ≤ 64 then (bd (fX6_beginChange σ) fun s4 => nm (s4 (10 + 8 * 0) 0) fun x2_5 => bd (fX4_becomeSilence 0 a1 s4) fun s7 => some (.inl x2_5, s7)) else (some (.inr 0, σ)))
set_option maxHeartbeats 4000000 in
set_option maxRecDepth 100000 in
theorem mX6_wave (l : Launch) (hfl : l.stackTraces = false) {E : En} {σ μ : Sg} {dg : Int64} {a1 : Int32}  {res : Int32 ⊕ Nat} {σ' : Sg} (hf : fX6_wave a1 σ = some (res, σ')) : vx_Met l yX6_wave [.code yX6_wave cX6_wave 3 (some .int)] (RmX res 6 144) (va_Pc [.ref (eA E 0), .int a1] (Wd E σ μ dg)) (Qxi E σ' μ dg res) (Xx E σ' μ dg res) (xc res) (xs6 res) (eP E) := by
  refine ss_ofX (by decide) (Nat.le_of_ble_eq_true rfl) (fun p e s m below meth c hx hb hr hlk hml hown hex hK hW ls hl => ?_)
  have hown : s.vm.findClass RX6 = some m.cls := hown
  have hl : lv_has ls 3 [(0, .ref (eA E 0)), (1, .int a1)] := hl
  unfold fX6_wave at hf
  refine lv_iload_n hx hb dX6_wave_0 rfl (lv_at hl 1 rfl) ?_
  refine lv_iconst (v := 1) hx hb dX6_wave_1 (by decide) ?_
  refine lv_icmp_lt (tgt := 11) hx hb dX6_wave_2 (by decide) (fun c1 => ?_) (fun c1 => ?_)
  · have hf := br_p c1 hf
    cases hf
    exact ss_throwS hx hb hfl hlk hex hml hl.1 hown hK hW (k0 := 0) (text := "a wave has 1 to 64 samples") (by simp [strs]) kL_RX6_62 kT_0_66 dX6_wave_11 dX6_wave_14 dX6_wave_15 dX6_wave_17 dX6_wave_20 (Nat.le_of_ble_eq_true rfl) (Nat.le_of_ble_eq_true rfl) ⟨Nat.le_refl 1, Nat.le_refl 6⟩
  · have hf := br_n c1 hf
    refine lv_iload_n hx hb dX6_wave_5 rfl (lv_at hl 1 rfl) ?_
    refine lv_bipush (v := 64) hx hb dX6_wave_6 (by decide) ?_
    refine lv_icmp_le (tgt := 21) hx hb dX6_wave_8 (by decide) (fun c2 => ?_) (fun c2 => ?_)
    · have hf := br_p c2 hf
      refine lv_aload_n hx hb dX6_wave_21 rfl (lv_at hl 0 rfl) ?_
      obtain ⟨s4, q3, hf⟩ := bd_inv hf
      refine ss_callVv (As := []) hx hb hml hown hK hW kb_X6_beginChange kM_RX6_69 rfl (okq_lt (by decide)) (c_fx (by decide)) (mX6_beginChange l  q3) rfl dX6_wave_22 rfl hl.1 (Nat.le_of_ble_eq_true rfl) ⟨Nat.le_of_ble_eq_true rfl, Nat.le_of_ble_eq_true rfl⟩ ⟨Nat.zero_le _, Nat.zero_le _⟩ (fun H locs hW => ?_)
      refine lv_aload_n hx hb dX6_wave_25 rfl (lv_at hl 0 rfl) ?_
      refine g_X_now hx hb hown hK hW kF_RX6_12 dX6_wave_26 ?_
      refine g_State_many (i := 0) hx hb hown hK hW (by omega) kF_RX6_72 dX6_wave_29 ?_
      refine lv_topi (fun x2_5 ex2_5 => ?_)
      have hf := nm_use ex2_5 hf
      refine lv_istore_n (lv' := [(2, .int x2_5), (0, .ref (eA E 0)), (1, .int a1)]) hx hb dX6_wave_32 rfl hl (by decide) rfl (fun ls hl => ?_)
      refine lv_aload_n hx hb dX6_wave_33 rfl (lv_at hl 1 rfl) ?_
      refine g_X_now hx hb hown hK hW kF_RX6_12 dX6_wave_34 ?_
      refine lv_iload_n hx hb dX6_wave_37 rfl (lv_at hl 2 rfl) ?_
      obtain ⟨s7, q6, hf⟩ := bd_inv hf
      refine ss_callVv (As := [.int a1]) hx hb hml hown hK hW kb_X4_becomeSilence kM_RX6_76 rfl (okq_lt (by omega)) (c_st (i := 0) (by omega) 0 (by decide)) (mX4_becomeSilence l (i0 := 0) (a1 := a1) (by omega) q6) rfl dX6_wave_38 rfl hl.1 (Nat.le_of_ble_eq_true rfl) ⟨Nat.le_of_ble_eq_true rfl, Nat.le_of_ble_eq_true rfl⟩ ⟨Nat.zero_le _, Nat.zero_le _⟩ (fun H locs hW => ?_)
      refine lv_iload_n hx hb dX6_wave_41 rfl (lv_at hl 0 rfl) ?_
      cases hf
      exact ss_ixret hx hb hr hlk hW dX6_wave_42
    · have hf := br_n c2 hf
      cases hf
      exact ss_throwS hx hb hfl hlk hex hml hl.1 hown hK hW (k0 := 0) (text := "a wave has 1 to 64 samples") (by simp [strs]) kL_RX6_62 kT_0_66 dX6_wave_11 dX6_wave_14 dX6_wave_15 dX6_wave_17 dX6_wave_20 (Nat.le_of_ble_eq_true rfl) (Nat.le_of_ble_eq_true rfl) ⟨Nat.le_refl 1, Nat.le_refl 6⟩
def fX6_sampleOf (a1 : Int32) (a2 : Int32) (σ : Sg) : Option ((Int32 ⊕ Nat) × Sg) := bd (fX4_hasSample 0 a1 σ) fun r2 => if r2 = 0 then (some (.inr 1, σ)) else (if a2 < 0 then (some (.inr 0, σ)) else (if a2 < 6 then (if a2 = 0 then (gd (¬ (a1 < 0 ∨ 64 ≤ (a1).toNatClampNeg)) <| some (.inl ((σ (10 + 8 * 0 + 1) (a1).toNatClampNeg) + 10000), σ)) else (bd (fX4_isCoded 0 σ) fun r8 => if r8 = 0 then (some (.inl (-1), σ)) else (bd (fX2_decode 0 0 σ) fun s11 => if a2 = 1 then (gd (¬ (a1 < 0 ∨ 64 ≤ (a1).toNatClampNeg)) <| some (.inl ((s11 (86 + 3 * 0 + 1) (a1).toNatClampNeg) + 10000), s11)) else (if a2 = 2 then (gd (¬ (a1 < 0 ∨ 64 ≤ (a1).toNatClampNeg)) <| some (.inl ((s11 (10 + 8 * 0 + 7) (a1).toNatClampNeg) + 10000), s11)) else (if a2 = 3 then (gd (¬ (a1 < 0 ∨ 64 ≤ (a1).toNatClampNeg)) <| some (.inl (s11 (10 + 8 * 0 + 6) (a1).toNatClampNeg), s11)) else (if a2 = 4 then (gd (¬ (a1 < 0 ∨ 64 ≤ (a1).toNatClampNeg)) <| some (.inl (s11 (86 + 3 * 0 + 2) (a1).toNatClampNeg), s11)) else (gd (¬ (a1 < 0 ∨ 64 ≤ (a1).toNatClampNeg)) <| gd (¬ (a1 < 0 ∨ 64 ≤ (a1).toNatClampNeg)) <| some (.inl (((s11 (10 + 8 * 0 + 1) (a1).toNatClampNeg) - (s11 (86 + 3 * 0 + 1) (a1).toNatClampNeg)) + 10000), s11)))))))) else (some (.inr 0, σ))))
set_option maxHeartbeats 4000000 in
set_option maxRecDepth 100000 in
theorem mX6_sampleOf (l : Launch) (hfl : l.stackTraces = false) {E : En} {σ μ : Sg} {dg : Int64} {a1 : Int32} {a2 : Int32}  {res : Int32 ⊕ Nat} {σ' : Sg} (hf : fX6_sampleOf a1 a2 σ = some (res, σ')) : vx_Met l yX6_sampleOf [.code yX6_sampleOf cX6_sampleOf 3 (some .int)] (RmX res 6 111) (va_Pc [.ref (eA E 0), .int a1, .int a2] (Wd E σ μ dg)) (Qxi E σ' μ dg res) (Xx E σ' μ dg res) (xc res) (xs6 res) (eP E) := by
  refine ss_ofX (by decide) (Nat.le_of_ble_eq_true rfl) (fun p e s m below meth c hx hb hr hlk hml hown hex hK hW ls hl => ?_)
  have hown : s.vm.findClass RX6 = some m.cls := hown
  have hl : lv_has ls 3 [(0, .ref (eA E 0)), (1, .int a1), (2, .int a2)] := hl
  unfold fX6_sampleOf at hf
  refine lv_aload_n hx hb dX6_sampleOf_0 rfl (lv_at hl 0 rfl) ?_
  refine g_X_now hx hb hown hK hW kF_RX6_12 dX6_sampleOf_1 ?_
  refine lv_iload_n hx hb dX6_sampleOf_4 rfl (lv_at hl 1 rfl) ?_
  obtain ⟨r2, q1, hf⟩ := bd_inv hf
  refine ss_callVi (As := [.int a1]) hx hb hml hown hK hW kb_X4_hasSample kM_RX6_80 rfl (okq_lt (by omega)) (c_st (i := 0) (by omega) 0 (by decide)) (mX4_hasSample l (i0 := 0) (a1 := a1) (by omega) q1) rfl dX6_sampleOf_5 rfl hl.1 (Nat.le_of_ble_eq_true rfl) ⟨Nat.le_of_ble_eq_true rfl, Nat.le_of_ble_eq_true rfl⟩ ⟨Nat.zero_le _, Nat.zero_le _⟩ (fun H locs hW => ?_)
  refine lv_if_ne (tgt := 21) hx hb dX6_sampleOf_8 (by decide) (fun c3 => ?_) (fun c3 => ?_)
  · have hf := br_n c3 hf
    refine lv_iload_n hx hb dX6_sampleOf_21 rfl (lv_at hl 2 rfl) ?_
    refine lv_if_lt (tgt := 31) hx hb dX6_sampleOf_22 (by decide) (fun c4 => ?_) (fun c4 => ?_)
    · have hf := br_p c4 hf
      cases hf
      exact ss_throwS hx hb hfl hlk hex hml hl.1 hown hK hW (k0 := 0) (text := "no such property") (by simp [strs]) kL_RX6_62 kT_0_66 dX6_sampleOf_31 dX6_sampleOf_34 dX6_sampleOf_35 dX6_sampleOf_37 dX6_sampleOf_40 (Nat.le_of_ble_eq_true rfl) (Nat.le_of_ble_eq_true rfl) ⟨Nat.le_refl 1, Nat.le_refl 6⟩
    · have hf := br_n c4 hf
      refine lv_iload_n hx hb dX6_sampleOf_25 rfl (lv_at hl 2 rfl) ?_
      refine lv_bipush (v := 6) hx hb dX6_sampleOf_26 (by decide) ?_
      refine lv_icmp_lt (tgt := 41) hx hb dX6_sampleOf_28 (by decide) (fun c5 => ?_) (fun c5 => ?_)
      · have hf := br_p c5 hf
        refine lv_iload_n hx hb dX6_sampleOf_41 rfl (lv_at hl 2 rfl) ?_
        refine lv_if_ne (tgt := 59) hx hb dX6_sampleOf_42 (by decide) (fun c6 => ?_) (fun c6 => ?_)
        · have hf := br_n c6 hf
          refine lv_aload_n hx hb dX6_sampleOf_59 rfl (lv_at hl 0 rfl) ?_
          refine g_X_now hx hb hown hK hW kF_RX6_12 dX6_sampleOf_60 ?_
          obtain ⟨r8, q7, hf⟩ := bd_inv hf
          refine ss_callVi (As := []) hx hb hml hown hK hW kb_X4_isCoded kM_RX6_115 rfl (okq_lt (by omega)) (c_st (i := 0) (by omega) 0 (by decide)) (mX4_isCoded l (i0 := 0) (by omega) q7) rfl dX6_sampleOf_63 rfl hl.1 (Nat.le_of_ble_eq_true rfl) ⟨Nat.le_of_ble_eq_true rfl, Nat.le_of_ble_eq_true rfl⟩ ⟨Nat.zero_le _, Nat.zero_le _⟩ (fun H locs hW => ?_)
          refine lv_if_ne (tgt := 71) hx hb dX6_sampleOf_66 (by decide) (fun c9 => ?_) (fun c9 => ?_)
          · have hf := br_n c9 hf
            refine lv_aload_n hx hb dX6_sampleOf_71 rfl (lv_at hl 0 rfl) ?_
            refine g_X_decoder hx hb hown hK hW kF_RX6_48 dX6_sampleOf_72 ?_
            refine lv_aload_n hx hb dX6_sampleOf_75 rfl (lv_at hl 0 rfl) ?_
            refine g_X_now hx hb hown hK hW kF_RX6_12 dX6_sampleOf_76 ?_
            obtain ⟨s11, q10, hf⟩ := bd_inv hf
            refine ss_callVv (As := [.ref (eA E (10 + 8 * 0))]) hx hb hml hown hK hW kb_X2_decode kM_RX6_124 rfl (okq_lt (by omega)) (c_dc (d := 0) (by omega) 0 (by decide)) (mX2_decode l (i0 := 0) (i1 := 0) (by omega) (by omega) q10) rfl dX6_sampleOf_79 rfl hl.1 (Nat.le_of_ble_eq_true rfl) ⟨Nat.le_of_ble_eq_true rfl, Nat.le_of_ble_eq_true rfl⟩ ⟨Nat.zero_le _, Nat.zero_le _⟩ (fun H locs hW => ?_)
            refine lv_iload_n hx hb dX6_sampleOf_82 rfl (lv_at hl 2 rfl) ?_
            by_cases c12 : a2 = 1
            · have hf := br_p c12 hf
              refine lv_tableIn (tgt := 112) hx hb dX6_sampleOf_83 (by rw [c12]; decide) (by rw [c12]; decide) (by rw [c12]; rfl) (by decide) ?_
              refine lv_aload_n hx hb dX6_sampleOf_112 rfl (lv_at hl 0 rfl) ?_
              refine g_X_decoder hx hb hown hK hW kF_RX6_48 dX6_sampleOf_113 ?_
              refine g_Dec_made (i := 0) hx hb hown hK hW (by omega) kF_RX6_132 dX6_sampleOf_116 ?_
              refine lv_iload_n hx hb dX6_sampleOf_119 rfl (lv_at hl 1 rfl) ?_
              obtain ⟨hk13, hf⟩ := gd_inv hf
              refine l_De1 (i := 0) hx hb hK hW (by omega) rfl hk13 dX6_sampleOf_120 ?_
              refine lv_sipush (v := 10000) hx hb dX6_sampleOf_121 (by decide) ?_
              refine lv_iadd hx hb dX6_sampleOf_124 ?_
              cases hf
              exact ss_ixret hx hb hr hlk hW dX6_sampleOf_125
            have hf := br_n c12 hf
            by_cases c14 : a2 = 2
            · have hf := br_p c14 hf
              refine lv_tableIn (tgt := 126) hx hb dX6_sampleOf_83 (by rw [c14]; decide) (by rw [c14]; decide) (by rw [c14]; rfl) (by decide) ?_
              refine lv_aload_n hx hb dX6_sampleOf_126 rfl (lv_at hl 0 rfl) ?_
              refine g_X_now hx hb hown hK hW kF_RX6_12 dX6_sampleOf_127 ?_
              refine g_State_guesses (i := 0) hx hb hown hK hW (by omega) kF_RX6_251 dX6_sampleOf_130 ?_
              refine lv_iload_n hx hb dX6_sampleOf_133 rfl (lv_at hl 1 rfl) ?_
              obtain ⟨hk15, hf⟩ := gd_inv hf
              refine l_St7 (i := 0) hx hb hK hW (by omega) rfl hk15 dX6_sampleOf_134 ?_
              refine lv_sipush (v := 10000) hx hb dX6_sampleOf_135 (by decide) ?_
              refine lv_iadd hx hb dX6_sampleOf_138 ?_
              cases hf
              exact ss_ixret hx hb hr hlk hW dX6_sampleOf_139
            have hf := br_n c14 hf
            by_cases c16 : a2 = 3
            · have hf := br_p c16 hf
              refine lv_tableIn (tgt := 140) hx hb dX6_sampleOf_83 (by rw [c16]; decide) (by rw [c16]; decide) (by rw [c16]; rfl) (by decide) ?_
              refine lv_aload_n hx hb dX6_sampleOf_140 rfl (lv_at hl 0 rfl) ?_
              refine g_X_now hx hb hown hK hW kF_RX6_12 dX6_sampleOf_141 ?_
              refine g_State_codes (i := 0) hx hb hown hK hW (by omega) kF_RX6_181 dX6_sampleOf_144 ?_
              refine lv_iload_n hx hb dX6_sampleOf_147 rfl (lv_at hl 1 rfl) ?_
              obtain ⟨hk17, hf⟩ := gd_inv hf
              refine l_St6 (i := 0) hx hb hK hW (by omega) rfl hk17 dX6_sampleOf_148 ?_
              cases hf
              exact ss_ixret hx hb hr hlk hW dX6_sampleOf_149
            have hf := br_n c16 hf
            by_cases c18 : a2 = 4
            · have hf := br_p c18 hf
              refine lv_tableIn (tgt := 150) hx hb dX6_sampleOf_83 (by rw [c18]; decide) (by rw [c18]; decide) (by rw [c18]; rfl) (by decide) ?_
              refine lv_aload_n hx hb dX6_sampleOf_150 rfl (lv_at hl 0 rfl) ?_
              refine g_X_decoder hx hb hown hK hW kF_RX6_48 dX6_sampleOf_151 ?_
              refine g_Dec_numbers (i := 0) hx hb hown hK hW (by omega) kF_RX6_254 dX6_sampleOf_154 ?_
              refine lv_iload_n hx hb dX6_sampleOf_157 rfl (lv_at hl 1 rfl) ?_
              obtain ⟨hk19, hf⟩ := gd_inv hf
              refine l_De2 (i := 0) hx hb hK hW (by omega) rfl hk19 dX6_sampleOf_158 ?_
              cases hf
              exact ss_ixret hx hb hr hlk hW dX6_sampleOf_159
            have hf := br_n c18 hf
            have zc12 := sw_ne (n := 1) c12 (by decide)
            have zc14 := sw_ne (n := 2) c14 (by decide)
            have zc16 := sw_ne (n := 3) c16 (by decide)
            have zc18 := sw_ne (n := 4) c18 (by decide)
            refine lv_tableOut (tgt := 160) hx hb dX6_sampleOf_83 (by omega) (by decide) ?_
            refine lv_aload_n hx hb dX6_sampleOf_160 rfl (lv_at hl 0 rfl) ?_
            refine g_X_now hx hb hown hK hW kF_RX6_12 dX6_sampleOf_161 ?_
            refine g_State_values (i := 0) hx hb hown hK hW (by omega) kF_RX6_94 dX6_sampleOf_164 ?_
            refine lv_iload_n hx hb dX6_sampleOf_167 rfl (lv_at hl 1 rfl) ?_
            obtain ⟨hk20, hf⟩ := gd_inv hf
            refine l_St1 (i := 0) hx hb hK hW (by omega) rfl hk20 dX6_sampleOf_168 ?_
            refine lv_aload_n hx hb dX6_sampleOf_169 rfl (lv_at hl 0 rfl) ?_
            refine g_X_decoder hx hb hown hK hW kF_RX6_48 dX6_sampleOf_170 ?_
            refine g_Dec_made (i := 0) hx hb hown hK hW (by omega) kF_RX6_132 dX6_sampleOf_173 ?_
            refine lv_iload_n hx hb dX6_sampleOf_176 rfl (lv_at hl 1 rfl) ?_
            obtain ⟨hk21, hf⟩ := gd_inv hf
            refine l_De1 (i := 0) hx hb hK hW (by omega) rfl hk21 dX6_sampleOf_177 ?_
            refine lv_isub hx hb dX6_sampleOf_178 ?_
            refine lv_sipush (v := 10000) hx hb dX6_sampleOf_179 (by decide) ?_
            refine lv_iadd hx hb dX6_sampleOf_182 ?_
            cases hf
            exact ss_ixret hx hb hr hlk hW dX6_sampleOf_183
          · have hf := br_p c9 hf
            refine lv_iconst (v := (-1)) hx hb dX6_sampleOf_69 (by decide) ?_
            cases hf
            exact ss_ixret hx hb hr hlk hW dX6_sampleOf_70
        · have hf := br_p c6 hf
          refine lv_aload_n hx hb dX6_sampleOf_45 rfl (lv_at hl 0 rfl) ?_
          refine g_X_now hx hb hown hK hW kF_RX6_12 dX6_sampleOf_46 ?_
          refine g_State_values (i := 0) hx hb hown hK hW (by omega) kF_RX6_94 dX6_sampleOf_49 ?_
          refine lv_iload_n hx hb dX6_sampleOf_52 rfl (lv_at hl 1 rfl) ?_
          obtain ⟨hk22, hf⟩ := gd_inv hf
          refine l_St1 (i := 0) hx hb hK hW (by omega) rfl hk22 dX6_sampleOf_53 ?_
          refine lv_sipush (v := 10000) hx hb dX6_sampleOf_54 (by decide) ?_
          refine lv_iadd hx hb dX6_sampleOf_57 ?_
          cases hf
          exact ss_ixret hx hb hr hlk hW dX6_sampleOf_58
      · have hf := br_n c5 hf
        cases hf
        exact ss_throwS hx hb hfl hlk hex hml hl.1 hown hK hW (k0 := 0) (text := "no such property") (by simp [strs]) kL_RX6_62 kT_0_66 dX6_sampleOf_31 dX6_sampleOf_34 dX6_sampleOf_35 dX6_sampleOf_37 dX6_sampleOf_40 (Nat.le_of_ble_eq_true rfl) (Nat.le_of_ble_eq_true rfl) ⟨Nat.le_refl 1, Nat.le_refl 6⟩
  · have hf := br_p c3 hf
    cases hf
    exact ss_throwS hx hb hfl hlk hex hml hl.1 hown hK hW (k0 := 1) (text := "no such sample") (by simp [strs]) kL_RX6_84 kT_1_88 dX6_sampleOf_11 dX6_sampleOf_14 dX6_sampleOf_15 dX6_sampleOf_17 dX6_sampleOf_20 (Nat.le_of_ble_eq_true rfl) (Nat.le_of_ble_eq_true rfl) ⟨Nat.le_refl 1, Nat.le_refl 6⟩
def fX6_sample (a1 : Int32) (a2 : Int32) (σ : Sg) : Option ((Int32 ⊕ Nat) × Sg) := bd (fX4_hasSample 0 a1 σ) fun r2 => if r2 = 0 then (some (.inr 1, σ)) else (bd (fX6_isValue a2) fun r5 => if r5 = 0 then (some (.inr 0, σ)) else (bd (fX6_beginChange σ) fun s8 => gd (¬ (a1 < 0 ∨ 64 ≤ (a1).toNatClampNeg)) <| nm (s8 (10 + 8 * 0 + 1) (a1).toNatClampNeg) fun x3_10 => gd (¬ (a1 < 0 ∨ 64 ≤ (a1).toNatClampNeg)) <| nm (up2 s8 (10 + 8 * 0 + 1) ((a1).toNatClampNeg) a2) fun s12 => bd (fX4_forgetBlocks 0 s12) fun s14 => some (.inl (x3_10 + 10000), s14)))
set_option maxHeartbeats 4000000 in
set_option maxRecDepth 100000 in
theorem mX6_sample (l : Launch) (hfl : l.stackTraces = false) {E : En} {σ μ : Sg} {dg : Int64} {a1 : Int32} {a2 : Int32}  {res : Int32 ⊕ Nat} {σ' : Sg} (hf : fX6_sample a1 a2 σ = some (res, σ')) : vx_Met l yX6_sample [.code yX6_sample cX6_sample 4 (some .int)] (RmX res 6 144) (va_Pc [.ref (eA E 0), .int a1, .int a2] (Wd E σ μ dg)) (Qxi E σ' μ dg res) (Xx E σ' μ dg res) (xc res) (xs6 res) (eP E) := by
  refine ss_ofX (by decide) (Nat.le_of_ble_eq_true rfl) (fun p e s m below meth c hx hb hr hlk hml hown hex hK hW ls hl => ?_)
  have hown : s.vm.findClass RX6 = some m.cls := hown
  have hl : lv_has ls 4 [(0, .ref (eA E 0)), (1, .int a1), (2, .int a2)] := hl
  unfold fX6_sample at hf
  refine lv_aload_n hx hb dX6_sample_0 rfl (lv_at hl 0 rfl) ?_
  refine g_X_now hx hb hown hK hW kF_RX6_12 dX6_sample_1 ?_
  refine lv_iload_n hx hb dX6_sample_4 rfl (lv_at hl 1 rfl) ?_
  obtain ⟨r2, q1, hf⟩ := bd_inv hf
  refine ss_callVi (As := [.int a1]) hx hb hml hown hK hW kb_X4_hasSample kM_RX6_80 rfl (okq_lt (by omega)) (c_st (i := 0) (by omega) 0 (by decide)) (mX4_hasSample l (i0 := 0) (a1 := a1) (by omega) q1) rfl dX6_sample_5 rfl hl.1 (Nat.le_of_ble_eq_true rfl) ⟨Nat.le_of_ble_eq_true rfl, Nat.le_of_ble_eq_true rfl⟩ ⟨Nat.zero_le _, Nat.zero_le _⟩ (fun H locs hW => ?_)
  refine lv_if_ne (tgt := 21) hx hb dX6_sample_8 (by decide) (fun c3 => ?_) (fun c3 => ?_)
  · have hf := br_n c3 hf
    refine lv_iload_n hx hb dX6_sample_21 rfl (lv_at hl 2 rfl) ?_
    obtain ⟨r5, q4, hf⟩ := bd_inv hf
    refine ss_callSi (As := [.int a2]) hx hb hml hown hK hW kb_X6_isValue kM_RX6_89 (mX6_isValue l (a0 := a2) q4) rfl dX6_sample_22 rfl hl.1 (Nat.le_of_ble_eq_true rfl) ⟨Nat.le_of_ble_eq_true rfl, Nat.le_of_ble_eq_true rfl⟩ ⟨Nat.zero_le _, Nat.zero_le _⟩ (fun H locs hW => ?_)
    refine lv_if_ne (tgt := 38) hx hb dX6_sample_25 (by decide) (fun c6 => ?_) (fun c6 => ?_)
    · have hf := br_n c6 hf
      refine lv_aload_n hx hb dX6_sample_38 rfl (lv_at hl 0 rfl) ?_
      obtain ⟨s8, q7, hf⟩ := bd_inv hf
      refine ss_callVv (As := []) hx hb hml hown hK hW kb_X6_beginChange kM_RX6_69 rfl (okq_lt (by decide)) (c_fx (by decide)) (mX6_beginChange l  q7) rfl dX6_sample_39 rfl hl.1 (Nat.le_of_ble_eq_true rfl) ⟨Nat.le_of_ble_eq_true rfl, Nat.le_of_ble_eq_true rfl⟩ ⟨Nat.zero_le _, Nat.zero_le _⟩ (fun H locs hW => ?_)
      refine lv_aload_n hx hb dX6_sample_42 rfl (lv_at hl 0 rfl) ?_
      refine g_X_now hx hb hown hK hW kF_RX6_12 dX6_sample_43 ?_
      refine g_State_values (i := 0) hx hb hown hK hW (by omega) kF_RX6_94 dX6_sample_46 ?_
      refine lv_iload_n hx hb dX6_sample_49 rfl (lv_at hl 1 rfl) ?_
      obtain ⟨hk9, hf⟩ := gd_inv hf
      refine l_St1 (i := 0) hx hb hK hW (by omega) rfl hk9 dX6_sample_50 ?_
      refine lv_topi (fun x3_10 ex3_10 => ?_)
      have hf := nm_use ex3_10 hf
      refine lv_istore_n (lv' := [(3, .int x3_10), (0, .ref (eA E 0)), (1, .int a1), (2, .int a2)]) hx hb dX6_sample_51 rfl hl (by decide) rfl (fun ls hl => ?_)
      refine lv_aload_n hx hb dX6_sample_52 rfl (lv_at hl 1 rfl) ?_
      refine g_X_now hx hb hown hK hW kF_RX6_12 dX6_sample_53 ?_
      refine g_State_values (i := 0) hx hb hown hK hW (by omega) kF_RX6_94 dX6_sample_56 ?_
      refine lv_iload_n hx hb dX6_sample_59 rfl (lv_at hl 2 rfl) ?_
      refine lv_iload_n hx hb dX6_sample_60 rfl (lv_at hl 3 rfl) ?_
      obtain ⟨hk11, hf⟩ := gd_inv hf
      refine s_St1 (i := 0) hx hb hK hW (by omega) rfl hk11 dX6_sample_61 (fun H locs hW => ?_)
      obtain ⟨s12, es12⟩ : ∃ y : Sg, y = (up2 s8 (10 + 8 * 0 + 1) ((a1).toNatClampNeg) a2) := ⟨_, rfl⟩
      have hf := nm_use es12 hf
      rw [← es12] at hW
      refine lv_aload_n hx hb dX6_sample_62 rfl (lv_at hl 1 rfl) ?_
      refine g_X_now hx hb hown hK hW kF_RX6_12 dX6_sample_63 ?_
      obtain ⟨s14, q13, hf⟩ := bd_inv hf
      refine ss_callVv (As := []) hx hb hml hown hK hW kb_X4_forgetBlocks kM_RX6_98 rfl (okq_lt (by omega)) (c_st (i := 0) (by omega) 0 (by decide)) (mX4_forgetBlocks l (i0 := 0) (by omega) q13) rfl dX6_sample_66 rfl hl.1 (Nat.le_of_ble_eq_true rfl) ⟨Nat.le_of_ble_eq_true rfl, Nat.le_of_ble_eq_true rfl⟩ ⟨Nat.zero_le _, Nat.zero_le _⟩ (fun H locs hW => ?_)
      refine lv_iload_n hx hb dX6_sample_69 rfl (lv_at hl 0 rfl) ?_
      refine lv_sipush (v := 10000) hx hb dX6_sample_70 (by decide) ?_
      refine lv_iadd hx hb dX6_sample_73 ?_
      cases hf
      exact ss_ixret hx hb hr hlk hW dX6_sample_74
    · have hf := br_p c6 hf
      cases hf
      exact ss_throwS hx hb hfl hlk hex hml hl.1 hown hK hW (k0 := 0) (text := "a sample is -2048 to 2047") (by simp [strs]) kL_RX6_62 kT_0_66 dX6_sample_28 dX6_sample_31 dX6_sample_32 dX6_sample_34 dX6_sample_37 (Nat.le_of_ble_eq_true rfl) (Nat.le_of_ble_eq_true rfl) ⟨Nat.le_refl 1, Nat.le_refl 6⟩
  · have hf := br_p c3 hf
    cases hf
    exact ss_throwS hx hb hfl hlk hex hml hl.1 hown hK hW (k0 := 1) (text := "no such sample") (by simp [strs]) kL_RX6_84 kT_1_88 dX6_sample_11 dX6_sample_14 dX6_sample_15 dX6_sample_17 dX6_sample_20 (Nat.le_of_ble_eq_true rfl) (Nat.le_of_ble_eq_true rfl) ⟨Nat.le_refl 1, Nat.le_refl 6⟩
def fX6_add_L71 (a1 : Int32) (a2 : Int32) (a3 : Int32) (n : Nat) (x4 : Int32) (x5 : Int32) (σ : Sg) : Option ((Int32 ⊕ Nat) × Sg) := match n with
  | 0 => none
  | n + 1 => if (σ (10 + 8 * 0) 0) ≤ x5 then (bd (fX4_forgetBlocks 0 σ) fun s3 => some (.inl x4, s3)) else (gd (¬ (x5 < 0 ∨ 64 ≤ (x5).toNatClampNeg)) <| gd (¬ a3 = 0) <| bd (fX6_shape a1 a2 a3 (x5 - x5 / a3 * a3)) fun r7 => nm ((σ (10 + 8 * 0 + 1) (x5).toNatClampNeg) + r7) fun x6_8 => bd (fX6_clip x6_8) fun r10 => gd (¬ (x5 < 0 ∨ 64 ≤ (x5).toNatClampNeg)) <| nm (up2 σ (10 + 8 * 0 + 1) ((x5).toNatClampNeg) r10) fun s12 => bd (fX6_isValue x6_8) fun r14 => if r14 = 0 then (nm (x4 + 1) fun x4_17 => nm (x5 + 1) fun x5_18 => (fun x4 x5 σ => fX6_add_L71 a1 a2 a3 n x4 x5 σ) x4_17 x5_18 s12) else (nm (x5 + 1) fun x5_16 => (fun x4 x5 σ => fX6_add_L71 a1 a2 a3 n x4 x5 σ) x4 x5_16 s12))
def fX6_add (a1 : Int32) (a2 : Int32) (a3 : Int32) (σ : Sg) : Option ((Int32 ⊕ Nat) × Sg) := if a1 < 0 then (some (.inr 0, σ)) else (if a1 ≤ 2 then (if a2 < 0 then (some (.inr 0, σ)) else (if a2 ≤ 2047 then (if a3 < 1 then (some (.inr 0, σ)) else (if a3 ≤ 64 then (bd (fX6_beginChange σ) fun s26 => fX6_add_L71 a1 a2 a3 80 0 0 s26) else (some (.inr 0, σ)))) else (some (.inr 0, σ)))) else (some (.inr 0, σ)))
set_option maxHeartbeats 4000000 in
set_option maxRecDepth 100000 in
theorem mX6_add (l : Launch) (hfl : l.stackTraces = false) {E : En} {σ μ : Sg} {dg : Int64} {a1 : Int32} {a2 : Int32} {a3 : Int32}  {res : Int32 ⊕ Nat} {σ' : Sg} (hf : fX6_add a1 a2 a3 σ = some (res, σ')) : vx_Met l yX6_add [.code yX6_add cX6_add 7 (some .int)] (RmX res 6 144) (va_Pc [.ref (eA E 0), .int a1, .int a2, .int a3] (Wd E σ μ dg)) (Qxi E σ' μ dg res) (Xx E σ' μ dg res) (xc res) (xs6 res) (eP E) := by
  refine ss_ofX (by decide) (Nat.le_of_ble_eq_true rfl) (fun p e s m below meth c hx hb hr hlk hml hown hex hK hW ls hl => ?_)
  have hown : s.vm.findClass RX6 = some m.cls := hown
  have hl : lv_has ls 7 [(0, .ref (eA E 0)), (1, .int a1), (2, .int a2), (3, .int a3)] := hl
  unfold fX6_add at hf
  have h71 : ∀ (n71 : Nat) (x4 : Int32) (x5 : Int32) (σ : Sg) (H : Heap) (locs : List Loc) (ls : Array Slot), Wk E σ μ dg s H locs → lv_has ls 7 [(0, .ref (eA E 0)), (1, .int a1), (2, .int a2), (3, .int a3), (4, .int x4), (5, .int x5)] → fX6_add_L71 a1 a2 a3 n71 x4 x5 σ = some (res, σ') → W p l e (RmX res 6 144) s m [.ref (eA E 0), .int a1, .int a2, .int a3].toArray below meth c H locs 0 0 (vx_MQ below (Qxi E σ' μ dg res) (Xx E σ' μ dg res) [.ref (eA E 0), .int a1, .int a2, .int a3].toArray s (xc res) (xs6 res) (eP E)) (F0 m 71 ls []) := by
    intro n71
    induction n71 with
    | zero =>
      intro x4 x5 σ  H locs ls hW hl hf
      exact absurd hf (by simp [fX6_add_L71])
    | succ n71 ih71 =>
      intro x4 x5 σ  H locs ls hW hl hf
      rw [fX6_add_L71] at hf
      refine lv_iload hx hb dX6_add_71 (lv_at hl 5 rfl) ?_
      refine lv_aload_n hx hb dX6_add_73 rfl (lv_at hl 0 rfl) ?_
      refine g_X_now hx hb hown hK hW kF_RX6_12 dX6_add_74 ?_
      refine g_State_many (i := 0) hx hb hown hK hW (by omega) kF_RX6_72 dX6_add_77 ?_
      refine lv_icmp_ge (tgt := 138) hx hb dX6_add_80 (by decide) (fun c1 => ?_) (fun c1 => ?_)
      · have hf := br_p c1 hf
        refine lv_aload_n hx hb dX6_add_138 rfl (lv_at hl 0 rfl) ?_
        refine g_X_now hx hb hown hK hW kF_RX6_12 dX6_add_139 ?_
        obtain ⟨s3, q2, hf⟩ := bd_inv hf
        refine ss_callVv (As := []) hx hb hml hown hK hW kb_X4_forgetBlocks kM_RX6_98 rfl (okq_lt (by omega)) (c_st (i := 0) (by omega) 0 (by decide)) (mX4_forgetBlocks l (i0 := 0) (by omega) q2) rfl dX6_add_142 rfl hl.1 (Nat.le_of_ble_eq_true rfl) ⟨Nat.le_of_ble_eq_true rfl, Nat.le_of_ble_eq_true rfl⟩ ⟨Nat.zero_le _, Nat.zero_le _⟩ (fun H locs hW => ?_)
        refine lv_iload hx hb dX6_add_145 (lv_at hl 4 rfl) ?_
        cases hf
        exact ss_ixret hx hb hr hlk hW dX6_add_147
      · have hf := br_n c1 hf
        refine lv_aload_n hx hb dX6_add_83 rfl (lv_at hl 0 rfl) ?_
        refine g_X_now hx hb hown hK hW kF_RX6_12 dX6_add_84 ?_
        refine g_State_values (i := 0) hx hb hown hK hW (by omega) kF_RX6_94 dX6_add_87 ?_
        refine lv_iload hx hb dX6_add_90 (lv_at hl 5 rfl) ?_
        obtain ⟨hk4, hf⟩ := gd_inv hf
        refine l_St1 (i := 0) hx hb hK hW (by omega) rfl hk4 dX6_add_92 ?_
        refine lv_iload_n hx hb dX6_add_93 rfl (lv_at hl 1 rfl) ?_
        refine lv_iload_n hx hb dX6_add_94 rfl (lv_at hl 2 rfl) ?_
        refine lv_iload_n hx hb dX6_add_95 rfl (lv_at hl 3 rfl) ?_
        refine lv_iload hx hb dX6_add_96 (lv_at hl 5 rfl) ?_
        refine lv_iload_n hx hb dX6_add_98 rfl (lv_at hl 3 rfl) ?_
        obtain ⟨hz5, hf⟩ := gd_inv hf
        refine lv_irem hx hb dX6_add_99 hz5 ?_
        obtain ⟨r7, q6, hf⟩ := bd_inv hf
        refine ss_callSi (As := [.int a1, .int a2, .int a3, .int (x5 - x5 / a3 * a3)]) hx hb hml hown hK hW kb_X6_shape kM_RX6_107 (mX6_shape l (a0 := a1) (a1 := a2) (a2 := a3) (a3 := (x5 - x5 / a3 * a3)) q6) rfl dX6_add_100 rfl hl.1 (Nat.le_of_ble_eq_true rfl) ⟨Nat.le_of_ble_eq_true rfl, Nat.le_of_ble_eq_true rfl⟩ ⟨Nat.zero_le _, Nat.zero_le _⟩ (fun H locs hW => ?_)
        refine lv_iadd hx hb dX6_add_103 ?_
        refine lv_topi (fun x6_8 ex6_8 => ?_)
        have hf := nm_use ex6_8 hf
        refine lv_istore (lv' := [(6, .int x6_8), (0, .ref (eA E 0)), (1, .int a1), (2, .int a2), (3, .int a3), (4, .int x4), (5, .int x5)]) hx hb dX6_add_104 hl (by decide) rfl (fun ls hl => ?_)
        refine lv_aload_n hx hb dX6_add_106 rfl (lv_at hl 1 rfl) ?_
        refine g_X_now hx hb hown hK hW kF_RX6_12 dX6_add_107 ?_
        refine g_State_values (i := 0) hx hb hown hK hW (by omega) kF_RX6_94 dX6_add_110 ?_
        refine lv_iload hx hb dX6_add_113 (lv_at hl 6 rfl) ?_
        refine lv_iload hx hb dX6_add_115 (lv_at hl 0 rfl) ?_
        obtain ⟨r10, q9, hf⟩ := bd_inv hf
        refine ss_callSi (As := [.int x6_8]) hx hb hml hown hK hW kb_X6_clip kM_RX6_111 (mX6_clip l (a0 := x6_8) q9) rfl dX6_add_117 rfl hl.1 (Nat.le_of_ble_eq_true rfl) ⟨Nat.le_of_ble_eq_true rfl, Nat.le_of_ble_eq_true rfl⟩ ⟨Nat.zero_le _, Nat.zero_le _⟩ (fun H locs hW => ?_)
        obtain ⟨hk11, hf⟩ := gd_inv hf
        refine s_St1 (i := 0) hx hb hK hW (by omega) rfl hk11 dX6_add_120 (fun H locs hW => ?_)
        obtain ⟨s12, es12⟩ : ∃ y : Sg, y = (up2 σ (10 + 8 * 0 + 1) ((x5).toNatClampNeg) r10) := ⟨_, rfl⟩
        have hf := nm_use es12 hf
        rw [← es12] at hW
        refine lv_iload hx hb dX6_add_121 (lv_at hl 0 rfl) ?_
        obtain ⟨r14, q13, hf⟩ := bd_inv hf
        refine ss_callSi (As := [.int x6_8]) hx hb hml hown hK hW kb_X6_isValue kM_RX6_89 (mX6_isValue l (a0 := x6_8) q13) rfl dX6_add_123 rfl hl.1 (Nat.le_of_ble_eq_true rfl) ⟨Nat.le_of_ble_eq_true rfl, Nat.le_of_ble_eq_true rfl⟩ ⟨Nat.zero_le _, Nat.zero_le _⟩ (fun H locs hW => ?_)
        refine lv_if_ne (tgt := 132) hx hb dX6_add_126 (by decide) (fun c15 => ?_) (fun c15 => ?_)
        · have hf := br_n c15 hf
          obtain ⟨x5_16, ex5_16⟩ : ∃ y : Int32, y = (x5 + 1) := ⟨_, rfl⟩
          have hf := nm_use ex5_16 hf
          refine lv_iinc (v := x5_16) (lv' := [(5, .int x5_16), (6, .int x6_8), (0, .ref (eA E 0)), (1, .int a1), (2, .int a2), (3, .int a3), (4, .int x4)]) hx hb dX6_add_132 hl (k := 6) rfl (by rw [ex5_16]; rfl) (by decide) rfl (fun ls hl => ?_)
          refine lv_goto (tgt := 71) hx hb dX6_add_135 (by decide) ?_
          exact ih71 x4 x5_16 s12 _ _ _ hW (lv_sub hl [2, 3, 4, 5, 6, 0] rfl) hf
        · have hf := br_p c15 hf
          obtain ⟨x4_17, ex4_17⟩ : ∃ y : Int32, y = (x4 + 1) := ⟨_, rfl⟩
          have hf := nm_use ex4_17 hf
          refine lv_iinc (v := x4_17) (lv' := [(4, .int x4_17), (6, .int x6_8), (0, .ref (eA E 0)), (1, .int a1), (2, .int a2), (3, .int a3), (5, .int x5)]) hx hb dX6_add_129 hl (k := 5) rfl (by rw [ex4_17]; rfl) (by decide) rfl (fun ls hl => ?_)
          obtain ⟨x5_18, ex5_18⟩ : ∃ y : Int32, y = (x5 + 1) := ⟨_, rfl⟩
          have hf := nm_use ex5_18 hf
          refine lv_iinc (v := x5_18) (lv' := [(5, .int x5_18), (4, .int x4_17), (6, .int x6_8), (0, .ref (eA E 0)), (1, .int a1), (2, .int a2), (3, .int a3)]) hx hb dX6_add_132 hl (k := 6) rfl (by rw [ex5_18]; rfl) (by decide) rfl (fun ls hl => ?_)
          refine lv_goto (tgt := 71) hx hb dX6_add_135 (by decide) ?_
          exact ih71 x4_17 x5_18 s12 _ _ _ hW (lv_sub hl [3, 4, 5, 6, 1, 0] rfl) hf
  refine lv_iload_n hx hb dX6_add_0 rfl (lv_at hl 1 rfl) ?_
  refine lv_if_lt (tgt := 9) hx hb dX6_add_1 (by decide) (fun c19 => ?_) (fun c19 => ?_)
  · have hf := br_p c19 hf
    cases hf
    exact ss_throwS hx hb hfl hlk hex hml hl.1 hown hK hW (k0 := 0) (text := "a kind is 0 to 2") (by simp [strs]) kL_RX6_62 kT_0_66 dX6_add_9 dX6_add_12 dX6_add_13 dX6_add_15 dX6_add_18 (Nat.le_of_ble_eq_true rfl) (Nat.le_of_ble_eq_true rfl) ⟨Nat.le_refl 1, Nat.le_refl 6⟩
  · have hf := br_n c19 hf
    refine lv_iload_n hx hb dX6_add_4 rfl (lv_at hl 1 rfl) ?_
    refine lv_iconst (v := 2) hx hb dX6_add_5 (by decide) ?_
    refine lv_icmp_le (tgt := 19) hx hb dX6_add_6 (by decide) (fun c20 => ?_) (fun c20 => ?_)
    · have hf := br_p c20 hf
      refine lv_iload_n hx hb dX6_add_19 rfl (lv_at hl 2 rfl) ?_
      refine lv_if_lt (tgt := 30) hx hb dX6_add_20 (by decide) (fun c21 => ?_) (fun c21 => ?_)
      · have hf := br_p c21 hf
        cases hf
        exact ss_throwS hx hb hfl hlk hex hml hl.1 hown hK hW (k0 := 0) (text := "a height is 0 to 2047") (by simp [strs]) kL_RX6_62 kT_0_66 dX6_add_30 dX6_add_33 dX6_add_34 dX6_add_36 dX6_add_39 (Nat.le_of_ble_eq_true rfl) (Nat.le_of_ble_eq_true rfl) ⟨Nat.le_refl 1, Nat.le_refl 6⟩
      · have hf := br_n c21 hf
        refine lv_iload_n hx hb dX6_add_23 rfl (lv_at hl 2 rfl) ?_
        refine lv_sipush (v := 2047) hx hb dX6_add_24 (by decide) ?_
        refine lv_icmp_le (tgt := 40) hx hb dX6_add_27 (by decide) (fun c22 => ?_) (fun c22 => ?_)
        · have hf := br_p c22 hf
          refine lv_iload_n hx hb dX6_add_40 rfl (lv_at hl 3 rfl) ?_
          refine lv_iconst (v := 1) hx hb dX6_add_41 (by decide) ?_
          refine lv_icmp_lt (tgt := 51) hx hb dX6_add_42 (by decide) (fun c23 => ?_) (fun c23 => ?_)
          · have hf := br_p c23 hf
            cases hf
            exact ss_throwS hx hb hfl hlk hex hml hl.1 hown hK hW (k0 := 0) (text := "a period is 1 to 64") (by simp [strs]) kL_RX6_62 kT_0_66 dX6_add_51 dX6_add_54 dX6_add_55 dX6_add_57 dX6_add_60 (Nat.le_of_ble_eq_true rfl) (Nat.le_of_ble_eq_true rfl) ⟨Nat.le_refl 1, Nat.le_refl 6⟩
          · have hf := br_n c23 hf
            refine lv_iload_n hx hb dX6_add_45 rfl (lv_at hl 3 rfl) ?_
            refine lv_bipush (v := 64) hx hb dX6_add_46 (by decide) ?_
            refine lv_icmp_le (tgt := 61) hx hb dX6_add_48 (by decide) (fun c24 => ?_) (fun c24 => ?_)
            · have hf := br_p c24 hf
              refine lv_aload_n hx hb dX6_add_61 rfl (lv_at hl 0 rfl) ?_
              obtain ⟨s26, q25, hf⟩ := bd_inv hf
              refine ss_callVv (As := []) hx hb hml hown hK hW kb_X6_beginChange kM_RX6_69 rfl (okq_lt (by decide)) (c_fx (by decide)) (mX6_beginChange l  q25) rfl dX6_add_62 rfl hl.1 (Nat.le_of_ble_eq_true rfl) ⟨Nat.le_of_ble_eq_true rfl, Nat.le_of_ble_eq_true rfl⟩ ⟨Nat.zero_le _, Nat.zero_le _⟩ (fun H locs hW => ?_)
              refine lv_iconst (v := 0) hx hb dX6_add_65 (by decide) ?_
              refine lv_istore (lv' := [(4, .int 0), (0, .ref (eA E 0)), (1, .int a1), (2, .int a2), (3, .int a3)]) hx hb dX6_add_66 hl (by decide) rfl (fun ls hl => ?_)
              refine lv_iconst (v := 0) hx hb dX6_add_68 (by decide) ?_
              refine lv_istore (lv' := [(5, .int 0), (4, .int 0), (0, .ref (eA E 0)), (1, .int a1), (2, .int a2), (3, .int a3)]) hx hb dX6_add_69 hl (by decide) rfl (fun ls hl => ?_)
              exact h71 80 0 0 s26 _ _ _ hW (lv_sub hl [2, 3, 4, 5, 1, 0] rfl) hf
            · have hf := br_n c24 hf
              cases hf
              exact ss_throwS hx hb hfl hlk hex hml hl.1 hown hK hW (k0 := 0) (text := "a period is 1 to 64") (by simp [strs]) kL_RX6_62 kT_0_66 dX6_add_51 dX6_add_54 dX6_add_55 dX6_add_57 dX6_add_60 (Nat.le_of_ble_eq_true rfl) (Nat.le_of_ble_eq_true rfl) ⟨Nat.le_refl 1, Nat.le_refl 6⟩
        · have hf := br_n c22 hf
          cases hf
          exact ss_throwS hx hb hfl hlk hex hml hl.1 hown hK hW (k0 := 0) (text := "a height is 0 to 2047") (by simp [strs]) kL_RX6_62 kT_0_66 dX6_add_30 dX6_add_33 dX6_add_34 dX6_add_36 dX6_add_39 (Nat.le_of_ble_eq_true rfl) (Nat.le_of_ble_eq_true rfl) ⟨Nat.le_refl 1, Nat.le_refl 6⟩
    · have hf := br_n c20 hf
      cases hf
      exact ss_throwS hx hb hfl hlk hex hml hl.1 hown hK hW (k0 := 0) (text := "a kind is 0 to 2") (by simp [strs]) kL_RX6_62 kT_0_66 dX6_add_9 dX6_add_12 dX6_add_13 dX6_add_15 dX6_add_18 (Nat.le_of_ble_eq_true rfl) (Nat.le_of_ble_eq_true rfl) ⟨Nat.le_refl 1, Nat.le_refl 6⟩
def fX6_setting (a1 : Int32) (σ : Sg) : Option ((Int32 ⊕ Nat) × Sg) := bd (fX6_isSetting a1) fun r2 => if r2 = 0 then (some (.inr 1, σ)) else (gd (¬ (a1 < 0 ∨ 3 ≤ (a1).toNatClampNeg)) <| some (.inl (σ (10 + 8 * 0 + 2) (a1).toNatClampNeg), σ))
set_option maxHeartbeats 4000000 in
set_option maxRecDepth 100000 in
theorem mX6_setting (l : Launch) (hfl : l.stackTraces = false) {E : En} {σ μ : Sg} {dg : Int64} {a1 : Int32}  {res : Int32 ⊕ Nat} {σ' : Sg} (hf : fX6_setting a1 σ = some (res, σ')) : vx_Met l yX6_setting [.code yX6_setting cX6_setting 2 (some .int)] (RmX res 6 90) (va_Pc [.ref (eA E 0), .int a1] (Wd E σ μ dg)) (Qxi E σ' μ dg res) (Xx E σ' μ dg res) (xc res) (xs6 res) (eP E) := by
  refine ss_ofX (by decide) (Nat.le_of_ble_eq_true rfl) (fun p e s m below meth c hx hb hr hlk hml hown hex hK hW ls hl => ?_)
  have hown : s.vm.findClass RX6 = some m.cls := hown
  have hl : lv_has ls 2 [(0, .ref (eA E 0)), (1, .int a1)] := hl
  unfold fX6_setting at hf
  refine lv_iload_n hx hb dX6_setting_0 rfl (lv_at hl 1 rfl) ?_
  obtain ⟨r2, q1, hf⟩ := bd_inv hf
  refine ss_callSi (As := [.int a1]) hx hb hml hown hK hW kb_X6_isSetting kM_RX6_139 (mX6_isSetting l (a0 := a1) q1) rfl dX6_setting_1 rfl hl.1 (Nat.le_of_ble_eq_true rfl) ⟨Nat.le_of_ble_eq_true rfl, Nat.le_of_ble_eq_true rfl⟩ ⟨Nat.zero_le _, Nat.zero_le _⟩ (fun H locs hW => ?_)
  refine lv_if_ne (tgt := 17) hx hb dX6_setting_4 (by decide) (fun c3 => ?_) (fun c3 => ?_)
  · have hf := br_n c3 hf
    refine lv_aload_n hx hb dX6_setting_17 rfl (lv_at hl 0 rfl) ?_
    refine g_X_now hx hb hown hK hW kF_RX6_12 dX6_setting_18 ?_
    refine g_State_settings (i := 0) hx hb hown hK hW (by omega) kF_RX6_152 dX6_setting_21 ?_
    refine lv_iload_n hx hb dX6_setting_24 rfl (lv_at hl 1 rfl) ?_
    obtain ⟨hk4, hf⟩ := gd_inv hf
    refine l_St2 (i := 0) hx hb hK hW (by omega) rfl hk4 dX6_setting_25 ?_
    cases hf
    exact ss_ixret hx hb hr hlk hW dX6_setting_26
  · have hf := br_p c3 hf
    cases hf
    exact ss_throwS hx hb hfl hlk hex hml hl.1 hown hK hW (k0 := 1) (text := "no such setting") (by simp [strs]) kL_RX6_84 kT_1_88 dX6_setting_7 dX6_setting_10 dX6_setting_11 dX6_setting_13 dX6_setting_16 (Nat.le_of_ble_eq_true rfl) (Nat.le_of_ble_eq_true rfl) ⟨Nat.le_refl 1, Nat.le_refl 6⟩
def fX6_set (a1 : Int32) (a2 : Int32) (σ : Sg) : Option ((Int32 ⊕ Nat) × Sg) := bd (fX6_isSetting a1) fun r2 => if r2 = 0 then (some (.inr 1, σ)) else (bd (fX6_leastOfSetting a1) fun r5 => if a2 < r5 then (some (.inr 0, σ)) else (bd (fX6_mostOfSetting a1) fun r8 => if a2 ≤ r8 then (bd (fX6_beginChange σ) fun s11 => gd (¬ (a1 < 0 ∨ 3 ≤ (a1).toNatClampNeg)) <| nm (s11 (10 + 8 * 0 + 2) (a1).toNatClampNeg) fun x3_13 => gd (¬ (a1 < 0 ∨ 3 ≤ (a1).toNatClampNeg)) <| nm (up2 s11 (10 + 8 * 0 + 2) ((a1).toNatClampNeg) a2) fun s15 => if a1 = 2 then (some (.inl x3_13, s15)) else (bd (fX4_forgetBlocks 0 s15) fun s18 => some (.inl x3_13, s18))) else (some (.inr 0, σ))))
set_option maxHeartbeats 4000000 in
set_option maxRecDepth 100000 in
theorem mX6_set (l : Launch) (hfl : l.stackTraces = false) {E : En} {σ μ : Sg} {dg : Int64} {a1 : Int32} {a2 : Int32}  {res : Int32 ⊕ Nat} {σ' : Sg} (hf : fX6_set a1 a2 σ = some (res, σ')) : vx_Met l yX6_set [.code yX6_set cX6_set 4 (some .int)] (RmX res 6 144) (va_Pc [.ref (eA E 0), .int a1, .int a2] (Wd E σ μ dg)) (Qxi E σ' μ dg res) (Xx E σ' μ dg res) (xc res) (xs6 res) (eP E) := by
  refine ss_ofX (by decide) (Nat.le_of_ble_eq_true rfl) (fun p e s m below meth c hx hb hr hlk hml hown hex hK hW ls hl => ?_)
  have hown : s.vm.findClass RX6 = some m.cls := hown
  have hl : lv_has ls 4 [(0, .ref (eA E 0)), (1, .int a1), (2, .int a2)] := hl
  unfold fX6_set at hf
  refine lv_iload_n hx hb dX6_set_0 rfl (lv_at hl 1 rfl) ?_
  obtain ⟨r2, q1, hf⟩ := bd_inv hf
  refine ss_callSi (As := [.int a1]) hx hb hml hown hK hW kb_X6_isSetting kM_RX6_139 (mX6_isSetting l (a0 := a1) q1) rfl dX6_set_1 rfl hl.1 (Nat.le_of_ble_eq_true rfl) ⟨Nat.le_of_ble_eq_true rfl, Nat.le_of_ble_eq_true rfl⟩ ⟨Nat.zero_le _, Nat.zero_le _⟩ (fun H locs hW => ?_)
  refine lv_if_ne (tgt := 17) hx hb dX6_set_4 (by decide) (fun c3 => ?_) (fun c3 => ?_)
  · have hf := br_n c3 hf
    refine lv_iload_n hx hb dX6_set_17 rfl (lv_at hl 2 rfl) ?_
    refine lv_iload_n hx hb dX6_set_18 rfl (lv_at hl 1 rfl) ?_
    obtain ⟨r5, q4, hf⟩ := bd_inv hf
    refine ss_callSi (As := [.int a1]) hx hb hml hown hK hW kb_X6_leastOfSetting kM_RX6_144 (mX6_leastOfSetting l (a0 := a1) q4) rfl dX6_set_19 rfl hl.1 (Nat.le_of_ble_eq_true rfl) ⟨Nat.le_of_ble_eq_true rfl, Nat.le_of_ble_eq_true rfl⟩ ⟨Nat.zero_le _, Nat.zero_le _⟩ (fun H locs hW => ?_)
    refine lv_icmp_lt (tgt := 33) hx hb dX6_set_22 (by decide) (fun c6 => ?_) (fun c6 => ?_)
    · have hf := br_p c6 hf
      cases hf
      exact ss_throwS hx hb hfl hlk hex hml hl.1 hown hK hW (k0 := 0) (text := "the value is out of the setting's range") (by simp [strs]) kL_RX6_62 kT_0_66 dX6_set_33 dX6_set_36 dX6_set_37 dX6_set_39 dX6_set_42 (Nat.le_of_ble_eq_true rfl) (Nat.le_of_ble_eq_true rfl) ⟨Nat.le_refl 1, Nat.le_refl 6⟩
    · have hf := br_n c6 hf
      refine lv_iload_n hx hb dX6_set_25 rfl (lv_at hl 2 rfl) ?_
      refine lv_iload_n hx hb dX6_set_26 rfl (lv_at hl 1 rfl) ?_
      obtain ⟨r8, q7, hf⟩ := bd_inv hf
      refine ss_callSi (As := [.int a1]) hx hb hml hown hK hW kb_X6_mostOfSetting kM_RX6_147 (mX6_mostOfSetting l (a0 := a1) q7) rfl dX6_set_27 rfl hl.1 (Nat.le_of_ble_eq_true rfl) ⟨Nat.le_of_ble_eq_true rfl, Nat.le_of_ble_eq_true rfl⟩ ⟨Nat.zero_le _, Nat.zero_le _⟩ (fun H locs hW => ?_)
      refine lv_icmp_le (tgt := 43) hx hb dX6_set_30 (by decide) (fun c9 => ?_) (fun c9 => ?_)
      · have hf := br_p c9 hf
        refine lv_aload_n hx hb dX6_set_43 rfl (lv_at hl 0 rfl) ?_
        obtain ⟨s11, q10, hf⟩ := bd_inv hf
        refine ss_callVv (As := []) hx hb hml hown hK hW kb_X6_beginChange kM_RX6_69 rfl (okq_lt (by decide)) (c_fx (by decide)) (mX6_beginChange l  q10) rfl dX6_set_44 rfl hl.1 (Nat.le_of_ble_eq_true rfl) ⟨Nat.le_of_ble_eq_true rfl, Nat.le_of_ble_eq_true rfl⟩ ⟨Nat.zero_le _, Nat.zero_le _⟩ (fun H locs hW => ?_)
        refine lv_aload_n hx hb dX6_set_47 rfl (lv_at hl 0 rfl) ?_
        refine g_X_now hx hb hown hK hW kF_RX6_12 dX6_set_48 ?_
        refine g_State_settings (i := 0) hx hb hown hK hW (by omega) kF_RX6_152 dX6_set_51 ?_
        refine lv_iload_n hx hb dX6_set_54 rfl (lv_at hl 1 rfl) ?_
        obtain ⟨hk12, hf⟩ := gd_inv hf
        refine l_St2 (i := 0) hx hb hK hW (by omega) rfl hk12 dX6_set_55 ?_
        refine lv_topi (fun x3_13 ex3_13 => ?_)
        have hf := nm_use ex3_13 hf
        refine lv_istore_n (lv' := [(3, .int x3_13), (0, .ref (eA E 0)), (1, .int a1), (2, .int a2)]) hx hb dX6_set_56 rfl hl (by decide) rfl (fun ls hl => ?_)
        refine lv_aload_n hx hb dX6_set_57 rfl (lv_at hl 1 rfl) ?_
        refine g_X_now hx hb hown hK hW kF_RX6_12 dX6_set_58 ?_
        refine g_State_settings (i := 0) hx hb hown hK hW (by omega) kF_RX6_152 dX6_set_61 ?_
        refine lv_iload_n hx hb dX6_set_64 rfl (lv_at hl 2 rfl) ?_
        refine lv_iload_n hx hb dX6_set_65 rfl (lv_at hl 3 rfl) ?_
        obtain ⟨hk14, hf⟩ := gd_inv hf
        refine s_St2 (i := 0) hx hb hK hW (by omega) rfl hk14 dX6_set_66 (fun H locs hW => ?_)
        obtain ⟨s15, es15⟩ : ∃ y : Sg, y = (up2 s11 (10 + 8 * 0 + 2) ((a1).toNatClampNeg) a2) := ⟨_, rfl⟩
        have hf := nm_use es15 hf
        rw [← es15] at hW
        refine lv_iload_n hx hb dX6_set_67 rfl (lv_at hl 2 rfl) ?_
        refine lv_iconst (v := 2) hx hb dX6_set_68 (by decide) ?_
        refine lv_icmp_eq (tgt := 79) hx hb dX6_set_69 (by decide) (fun c16 => ?_) (fun c16 => ?_)
        · have hf := br_p c16 hf
          refine lv_iload_n hx hb dX6_set_79 rfl (lv_at hl 0 rfl) ?_
          cases hf
          exact ss_ixret hx hb hr hlk hW dX6_set_80
        · have hf := br_n c16 hf
          refine lv_aload_n hx hb dX6_set_72 rfl (lv_at hl 1 rfl) ?_
          refine g_X_now hx hb hown hK hW kF_RX6_12 dX6_set_73 ?_
          obtain ⟨s18, q17, hf⟩ := bd_inv hf
          refine ss_callVv (As := []) hx hb hml hown hK hW kb_X4_forgetBlocks kM_RX6_98 rfl (okq_lt (by omega)) (c_st (i := 0) (by omega) 0 (by decide)) (mX4_forgetBlocks l (i0 := 0) (by omega) q17) rfl dX6_set_76 rfl hl.1 (Nat.le_of_ble_eq_true rfl) ⟨Nat.le_of_ble_eq_true rfl, Nat.le_of_ble_eq_true rfl⟩ ⟨Nat.zero_le _, Nat.zero_le _⟩ (fun H locs hW => ?_)
          refine lv_iload_n hx hb dX6_set_79 rfl (lv_at hl 0 rfl) ?_
          cases hf
          exact ss_ixret hx hb hr hlk hW dX6_set_80
      · have hf := br_n c9 hf
        cases hf
        exact ss_throwS hx hb hfl hlk hex hml hl.1 hown hK hW (k0 := 0) (text := "the value is out of the setting's range") (by simp [strs]) kL_RX6_62 kT_0_66 dX6_set_33 dX6_set_36 dX6_set_37 dX6_set_39 dX6_set_42 (Nat.le_of_ble_eq_true rfl) (Nat.le_of_ble_eq_true rfl) ⟨Nat.le_refl 1, Nat.le_refl 6⟩
  · have hf := br_p c3 hf
    cases hf
    exact ss_throwS hx hb hfl hlk hex hml hl.1 hown hK hW (k0 := 1) (text := "no such setting") (by simp [strs]) kL_RX6_84 kT_1_88 dX6_set_7 dX6_set_10 dX6_set_11 dX6_set_13 dX6_set_16 (Nat.le_of_ble_eq_true rfl) (Nat.le_of_ble_eq_true rfl) ⟨Nat.le_refl 1, Nat.le_refl 6⟩
def fX6_refuseUnlessBlock (a1 : Int32) (σ : Sg) : Option ((Unit ⊕ Nat) × Sg) := bd (fX4_hasBlock 0 a1 σ) fun r2 => if r2 = 0 then (some (.inr 1, σ)) else (some (.inl (), σ))
set_option maxHeartbeats 4000000 in
set_option maxRecDepth 100000 in
theorem mX6_refuseUnlessBlock (l : Launch) (hfl : l.stackTraces = false) {E : En} {σ μ : Sg} {dg : Int64} {a1 : Int32}  {res : Unit ⊕ Nat} {σ' : Sg} (hf : fX6_refuseUnlessBlock a1 σ = some (res, σ')) : vx_Met l yX6_refuseUnlessBlock [.code yX6_refuseUnlessBlock cX6_refuseUnlessBlock 2 none] (RmX res 6 90) (va_Pc [.ref (eA E 0), .int a1] (Wd E σ μ dg)) (Qxv E σ' μ dg res) (Xx E σ' μ dg res) (xc res) (xs6 res) (eP E) := by
  refine ss_ofX (by decide) (Nat.le_of_ble_eq_true rfl) (fun p e s m below meth c hx hb hr hlk hml hown hex hK hW ls hl => ?_)
  have hown : s.vm.findClass RX6 = some m.cls := hown
  have hl : lv_has ls 2 [(0, .ref (eA E 0)), (1, .int a1)] := hl
  unfold fX6_refuseUnlessBlock at hf
  refine lv_aload_n hx hb dX6_refuseUnlessBlock_0 rfl (lv_at hl 0 rfl) ?_
  refine g_X_now hx hb hown hK hW kF_RX6_12 dX6_refuseUnlessBlock_1 ?_
  refine lv_iload_n hx hb dX6_refuseUnlessBlock_4 rfl (lv_at hl 1 rfl) ?_
  obtain ⟨r2, q1, hf⟩ := bd_inv hf
  refine ss_callVi (As := [.int a1]) hx hb hml hown hK hW kb_X4_hasBlock kM_RX6_357 rfl (okq_lt (by omega)) (c_st (i := 0) (by omega) 0 (by decide)) (mX4_hasBlock l (i0 := 0) (a1 := a1) (by omega) q1) rfl dX6_refuseUnlessBlock_5 rfl hl.1 (Nat.le_of_ble_eq_true rfl) ⟨Nat.le_of_ble_eq_true rfl, Nat.le_of_ble_eq_true rfl⟩ ⟨Nat.zero_le _, Nat.zero_le _⟩ (fun H locs hW => ?_)
  refine lv_if_ne (tgt := 22) hx hb dX6_refuseUnlessBlock_8 (by decide) (fun c3 => ?_) (fun c3 => ?_)
  · have hf := br_n c3 hf
    cases hf
    exact ss_vxret hx hb hr hlk hW dX6_refuseUnlessBlock_22
  · have hf := br_p c3 hf
    cases hf
    exact ss_throwW hx hb hfl hlk hex hml hl.1 hown hK hW (k0 := 1) (text := "no such block") (by simp [strs]) kL_RX6_84 kT_1_88 dX6_refuseUnlessBlock_11 dX6_refuseUnlessBlock_14 dX6_refuseUnlessBlock_15 dX6_refuseUnlessBlock_18 dX6_refuseUnlessBlock_21 (Nat.le_of_ble_eq_true rfl) (Nat.le_of_ble_eq_true rfl) ⟨Nat.le_refl 1, Nat.le_refl 6⟩
def fX6_lose (a1 : Int32) (σ : Sg) : Option ((Int32 ⊕ Nat) × Sg) := bx (fX6_refuseUnlessBlock a1 σ) fun r2 s3 => bd (fX6_beginChange s3) fun s7 => gd (¬ (a1 < 0 ∨ 32 ≤ (a1).toNatClampNeg)) <| if (s7 (10 + 8 * 0 + 5) (a1).toNatClampNeg) = 0 then (gd (¬ (a1 < 0 ∨ 32 ≤ (a1).toNatClampNeg)) <| nm (up2 s7 (10 + 8 * 0 + 5) ((a1).toNatClampNeg) 1) fun s15 => bd (fX4_lostBlocks 0 s15) fun r17 => some (.inl r17, s15)) else (gd (¬ (a1 < 0 ∨ 32 ≤ (a1).toNatClampNeg)) <| nm (up2 s7 (10 + 8 * 0 + 5) ((a1).toNatClampNeg) 0) fun s11 => bd (fX4_lostBlocks 0 s11) fun r13 => some (.inl r13, s11))
set_option maxHeartbeats 4000000 in
set_option maxRecDepth 100000 in
theorem mX6_lose (l : Launch) (hfl : l.stackTraces = false) {E : En} {σ μ : Sg} {dg : Int64} {a1 : Int32}  {res : Int32 ⊕ Nat} {σ' : Sg} (hf : fX6_lose a1 σ = some (res, σ')) : vx_Met l yX6_lose [.code yX6_lose cX6_lose 2 (some .int)] (RmX res 7 144) (va_Pc [.ref (eA E 0), .int a1] (Wd E σ μ dg)) (Qxi E σ' μ dg res) (Xx E σ' μ dg res) (xc res) (xs6 res) (eP E) := by
  refine ss_ofX (by decide) (Nat.le_of_ble_eq_true rfl) (fun p e s m below meth c hx hb hr hlk hml hown hex hK hW ls hl => ?_)
  have hown : s.vm.findClass RX6 = some m.cls := hown
  have hl : lv_has ls 2 [(0, .ref (eA E 0)), (1, .int a1)] := hl
  unfold fX6_lose at hf
  refine lv_aload_n hx hb dX6_lose_0 rfl (lv_at hl 0 rfl) ?_
  refine lv_iload_n hx hb dX6_lose_1 rfl (lv_at hl 1 rfl) ?_
  rcases bx_inv hf with ⟨r2, s3, q1, hf⟩ | ⟨ex4, s5, q1, hf⟩
  rotate_left
  · cases hf
    exact ss_xthrVv (As := [.int a1]) hx hb hlk hex hml hown hK hW kb_X6_refuseUnlessBlock kM_RX6_161 rfl (okq_lt (by decide)) (c_fx (by decide)) (mX6_refuseUnlessBlock l hfl (a1 := a1) q1) rfl dX6_lose_2 rfl hl.1 (Nat.le_of_ble_eq_true rfl) ⟨Nat.le_of_ble_eq_true rfl, Nat.le_of_ble_eq_true rfl⟩ ⟨Nat.le_refl 1, Nat.le_refl 6⟩
  refine ss_xcallVv (As := [.int a1]) hx hb hml hown hK hW kb_X6_refuseUnlessBlock kM_RX6_161 rfl (okq_lt (by decide)) (c_fx (by decide)) (mX6_refuseUnlessBlock l hfl (a1 := a1) q1) rfl dX6_lose_2 rfl hl.1 (Nat.le_of_ble_eq_true rfl) ⟨Nat.le_of_ble_eq_true rfl, Nat.le_of_ble_eq_true rfl⟩ ⟨Nat.zero_le _, Nat.zero_le _⟩ (fun H locs hW => ?_)
  refine lv_aload_n hx hb dX6_lose_5 rfl (lv_at hl 0 rfl) ?_
  obtain ⟨s7, q6, hf⟩ := bd_inv hf
  refine ss_callVv (As := []) hx hb hml hown hK hW kb_X6_beginChange kM_RX6_69 rfl (okq_lt (by decide)) (c_fx (by decide)) (mX6_beginChange l  q6) rfl dX6_lose_6 rfl hl.1 (Nat.le_of_ble_eq_true rfl) ⟨Nat.le_of_ble_eq_true rfl, Nat.le_of_ble_eq_true rfl⟩ ⟨Nat.zero_le _, Nat.zero_le _⟩ (fun H locs hW => ?_)
  refine lv_aload_n hx hb dX6_lose_9 rfl (lv_at hl 0 rfl) ?_
  refine g_X_now hx hb hown hK hW kF_RX6_12 dX6_lose_10 ?_
  refine g_State_lost (i := 0) hx hb hown hK hW (by omega) kF_RX6_164 dX6_lose_13 ?_
  refine lv_iload_n hx hb dX6_lose_16 rfl (lv_at hl 1 rfl) ?_
  refine lv_aload_n hx hb dX6_lose_17 rfl (lv_at hl 0 rfl) ?_
  refine g_X_now hx hb hown hK hW kF_RX6_12 dX6_lose_18 ?_
  refine g_State_lost (i := 0) hx hb hown hK hW (by omega) kF_RX6_164 dX6_lose_21 ?_
  refine lv_iload_n hx hb dX6_lose_24 rfl (lv_at hl 1 rfl) ?_
  obtain ⟨hk8, hf⟩ := gd_inv hf
  refine l_St5 (i := 0) hx hb hK hW (by omega) rfl hk8 dX6_lose_25 ?_
  refine lv_if_ne (tgt := 33) hx hb dX6_lose_26 (by decide) (fun c9 => ?_) (fun c9 => ?_)
  · have hf := br_n c9 hf
    refine lv_iconst (v := 0) hx hb dX6_lose_33 (by decide) ?_
    obtain ⟨hk10, hf⟩ := gd_inv hf
    refine s_St5 (i := 0) hx hb hK hW (by omega) rfl hk10 (by decide) dX6_lose_34 (fun H locs hW => ?_)
    obtain ⟨s11, es11⟩ : ∃ y : Sg, y = (up2 s7 (10 + 8 * 0 + 5) ((a1).toNatClampNeg) 0) := ⟨_, rfl⟩
    have hf := nm_use es11 hf
    rw [← es11] at hW
    refine lv_aload_n hx hb dX6_lose_35 rfl (lv_at hl 0 rfl) ?_
    refine g_X_now hx hb hown hK hW kF_RX6_12 dX6_lose_36 ?_
    obtain ⟨r13, q12, hf⟩ := bd_inv hf
    refine ss_callVi (As := []) hx hb hml hown hK hW kb_X4_lostBlocks kM_RX6_167 rfl (okq_lt (by omega)) (c_st (i := 0) (by omega) 0 (by decide)) (mX4_lostBlocks l (i0 := 0) (by omega) q12) rfl dX6_lose_39 rfl hl.1 (Nat.le_of_ble_eq_true rfl) ⟨Nat.le_of_ble_eq_true rfl, Nat.le_of_ble_eq_true rfl⟩ ⟨Nat.zero_le _, Nat.zero_le _⟩ (fun H locs hW => ?_)
    cases hf
    exact ss_ixret hx hb hr hlk hW dX6_lose_42
  · have hf := br_p c9 hf
    refine lv_iconst (v := 1) hx hb dX6_lose_29 (by decide) ?_
    refine lv_goto (tgt := 34) hx hb dX6_lose_30 (by decide) ?_
    obtain ⟨hk14, hf⟩ := gd_inv hf
    refine s_St5 (i := 0) hx hb hK hW (by omega) rfl hk14 (by decide) dX6_lose_34 (fun H locs hW => ?_)
    obtain ⟨s15, es15⟩ : ∃ y : Sg, y = (up2 s7 (10 + 8 * 0 + 5) ((a1).toNatClampNeg) 1) := ⟨_, rfl⟩
    have hf := nm_use es15 hf
    rw [← es15] at hW
    refine lv_aload_n hx hb dX6_lose_35 rfl (lv_at hl 0 rfl) ?_
    refine g_X_now hx hb hown hK hW kF_RX6_12 dX6_lose_36 ?_
    obtain ⟨r17, q16, hf⟩ := bd_inv hf
    refine ss_callVi (As := []) hx hb hml hown hK hW kb_X4_lostBlocks kM_RX6_167 rfl (okq_lt (by omega)) (c_st (i := 0) (by omega) 0 (by decide)) (mX4_lostBlocks l (i0 := 0) (by omega) q16) rfl dX6_lose_39 rfl hl.1 (Nat.le_of_ble_eq_true rfl) ⟨Nat.le_of_ble_eq_true rfl, Nat.le_of_ble_eq_true rfl⟩ ⟨Nat.zero_le _, Nat.zero_le _⟩ (fun H locs hW => ?_)
    cases hf
    exact ss_ixret hx hb hr hlk hW dX6_lose_42
def fX6_refuseUnlessCodeBit (a1 : Int32) (a2 : Int32) (σ : Sg) : Option ((Unit ⊕ Nat) × Sg) := bd (fX4_hasCode 0 a1 σ) fun r2 => if r2 = 0 then (some (.inr 1, σ)) else (if a2 < 0 then (some (.inr 0, σ)) else (if a2 < 4 then (some (.inl (), σ)) else (some (.inr 0, σ))))
set_option maxHeartbeats 4000000 in
set_option maxRecDepth 100000 in
theorem mX6_refuseUnlessCodeBit (l : Launch) (hfl : l.stackTraces = false) {E : En} {σ μ : Sg} {dg : Int64} {a1 : Int32} {a2 : Int32}  {res : Unit ⊕ Nat} {σ' : Sg} (hf : fX6_refuseUnlessCodeBit a1 a2 σ = some (res, σ')) : vx_Met l yX6_refuseUnlessCodeBit [.code yX6_refuseUnlessCodeBit cX6_refuseUnlessCodeBit 3 none] (RmX res 6 90) (va_Pc [.ref (eA E 0), .int a1, .int a2] (Wd E σ μ dg)) (Qxv E σ' μ dg res) (Xx E σ' μ dg res) (xc res) (xs6 res) (eP E) := by
  refine ss_ofX (by decide) (Nat.le_of_ble_eq_true rfl) (fun p e s m below meth c hx hb hr hlk hml hown hex hK hW ls hl => ?_)
  have hown : s.vm.findClass RX6 = some m.cls := hown
  have hl : lv_has ls 3 [(0, .ref (eA E 0)), (1, .int a1), (2, .int a2)] := hl
  unfold fX6_refuseUnlessCodeBit at hf
  refine lv_aload_n hx hb dX6_refuseUnlessCodeBit_0 rfl (lv_at hl 0 rfl) ?_
  refine g_X_now hx hb hown hK hW kF_RX6_12 dX6_refuseUnlessCodeBit_1 ?_
  refine lv_iload_n hx hb dX6_refuseUnlessCodeBit_4 rfl (lv_at hl 1 rfl) ?_
  obtain ⟨r2, q1, hf⟩ := bd_inv hf
  refine ss_callVi (As := [.int a1]) hx hb hml hown hK hW kb_X4_hasCode kM_RX6_362 rfl (okq_lt (by omega)) (c_st (i := 0) (by omega) 0 (by decide)) (mX4_hasCode l (i0 := 0) (a1 := a1) (by omega) q1) rfl dX6_refuseUnlessCodeBit_5 rfl hl.1 (Nat.le_of_ble_eq_true rfl) ⟨Nat.le_of_ble_eq_true rfl, Nat.le_of_ble_eq_true rfl⟩ ⟨Nat.zero_le _, Nat.zero_le _⟩ (fun H locs hW => ?_)
  refine lv_if_ne (tgt := 22) hx hb dX6_refuseUnlessCodeBit_8 (by decide) (fun c3 => ?_) (fun c3 => ?_)
  · have hf := br_n c3 hf
    refine lv_iload_n hx hb dX6_refuseUnlessCodeBit_22 rfl (lv_at hl 2 rfl) ?_
    refine lv_if_lt (tgt := 31) hx hb dX6_refuseUnlessCodeBit_23 (by decide) (fun c4 => ?_) (fun c4 => ?_)
    · have hf := br_p c4 hf
      cases hf
      exact ss_throwW hx hb hfl hlk hex hml hl.1 hown hK hW (k0 := 0) (text := "a bit is 0 to 3") (by simp [strs]) kL_RX6_62 kT_0_66 dX6_refuseUnlessCodeBit_31 dX6_refuseUnlessCodeBit_34 dX6_refuseUnlessCodeBit_35 dX6_refuseUnlessCodeBit_38 dX6_refuseUnlessCodeBit_41 (Nat.le_of_ble_eq_true rfl) (Nat.le_of_ble_eq_true rfl) ⟨Nat.le_refl 1, Nat.le_refl 6⟩
    · have hf := br_n c4 hf
      refine lv_iload_n hx hb dX6_refuseUnlessCodeBit_26 rfl (lv_at hl 2 rfl) ?_
      refine lv_iconst (v := 4) hx hb dX6_refuseUnlessCodeBit_27 (by decide) ?_
      refine lv_icmp_lt (tgt := 42) hx hb dX6_refuseUnlessCodeBit_28 (by decide) (fun c5 => ?_) (fun c5 => ?_)
      · have hf := br_p c5 hf
        cases hf
        exact ss_vxret hx hb hr hlk hW dX6_refuseUnlessCodeBit_42
      · have hf := br_n c5 hf
        cases hf
        exact ss_throwW hx hb hfl hlk hex hml hl.1 hown hK hW (k0 := 0) (text := "a bit is 0 to 3") (by simp [strs]) kL_RX6_62 kT_0_66 dX6_refuseUnlessCodeBit_31 dX6_refuseUnlessCodeBit_34 dX6_refuseUnlessCodeBit_35 dX6_refuseUnlessCodeBit_38 dX6_refuseUnlessCodeBit_41 (Nat.le_of_ble_eq_true rfl) (Nat.le_of_ble_eq_true rfl) ⟨Nat.le_refl 1, Nat.le_refl 6⟩
  · have hf := br_p c3 hf
    cases hf
    exact ss_throwW hx hb hfl hlk hex hml hl.1 hown hK hW (k0 := 1) (text := "no such sample, or it has no code") (by simp [strs]) kL_RX6_84 kT_1_88 dX6_refuseUnlessCodeBit_11 dX6_refuseUnlessCodeBit_14 dX6_refuseUnlessCodeBit_15 dX6_refuseUnlessCodeBit_18 dX6_refuseUnlessCodeBit_21 (Nat.le_of_ble_eq_true rfl) (Nat.le_of_ble_eq_true rfl) ⟨Nat.le_refl 1, Nat.le_refl 6⟩
def fX6_ifSpoiled (a1 : Int32) (a2 : Int32) (σ : Sg) : Option ((Int32 ⊕ Nat) × Sg) := bx (fX6_refuseUnlessCodeBit a1 a2 σ) fun r2 s3 => bd (fX2_decode 0 0 s3) fun s7 => bd (fX4_turnOver 0 a1 a2 s7) fun s9 => nm (up2 s9 (86 + 3 * 1) 3 0) fun s10 => bd (fX2_decode 1 0 s10) fun s12 => bd (fX4_turnOver 0 a1 a2 s12) fun s14 => bd (fX2_othersThan 1 0 (s14 (10 + 8 * 0) 0) s14) fun r16 => some (.inl r16, s14)
set_option maxHeartbeats 4000000 in
set_option maxRecDepth 100000 in
theorem mX6_ifSpoiled (l : Launch) (hfl : l.stackTraces = false) {E : En} {σ μ : Sg} {dg : Int64} {a1 : Int32} {a2 : Int32}  {res : Int32 ⊕ Nat} {σ' : Sg} (hf : fX6_ifSpoiled a1 a2 σ = some (res, σ')) : vx_Met l yX6_ifSpoiled [.code yX6_ifSpoiled cX6_ifSpoiled 3 (some .int)] (RmX res 7 112) (va_Pc [.ref (eA E 0), .int a1, .int a2] (Wd E σ μ dg)) (Qxi E σ' μ dg res) (Xx E σ' μ dg res) (xc res) (xs6 res) (eP E) := by
  refine ss_ofX (by decide) (Nat.le_of_ble_eq_true rfl) (fun p e s m below meth c hx hb hr hlk hml hown hex hK hW ls hl => ?_)
  have hown : s.vm.findClass RX6 = some m.cls := hown
  have hl : lv_has ls 3 [(0, .ref (eA E 0)), (1, .int a1), (2, .int a2)] := hl
  unfold fX6_ifSpoiled at hf
  refine lv_aload_n hx hb dX6_ifSpoiled_0 rfl (lv_at hl 0 rfl) ?_
  refine lv_iload_n hx hb dX6_ifSpoiled_1 rfl (lv_at hl 1 rfl) ?_
  refine lv_iload_n hx hb dX6_ifSpoiled_2 rfl (lv_at hl 2 rfl) ?_
  rcases bx_inv hf with ⟨r2, s3, q1, hf⟩ | ⟨ex4, s5, q1, hf⟩
  rotate_left
  · cases hf
    exact ss_xthrVv (As := [.int a1, .int a2]) hx hb hlk hex hml hown hK hW kb_X6_refuseUnlessCodeBit kM_RX6_171 rfl (okq_lt (by decide)) (c_fx (by decide)) (mX6_refuseUnlessCodeBit l hfl (a1 := a1) (a2 := a2) q1) rfl dX6_ifSpoiled_3 rfl hl.1 (Nat.le_of_ble_eq_true rfl) ⟨Nat.le_of_ble_eq_true rfl, Nat.le_of_ble_eq_true rfl⟩ ⟨Nat.le_refl 1, Nat.le_refl 6⟩
  refine ss_xcallVv (As := [.int a1, .int a2]) hx hb hml hown hK hW kb_X6_refuseUnlessCodeBit kM_RX6_171 rfl (okq_lt (by decide)) (c_fx (by decide)) (mX6_refuseUnlessCodeBit l hfl (a1 := a1) (a2 := a2) q1) rfl dX6_ifSpoiled_3 rfl hl.1 (Nat.le_of_ble_eq_true rfl) ⟨Nat.le_of_ble_eq_true rfl, Nat.le_of_ble_eq_true rfl⟩ ⟨Nat.zero_le _, Nat.zero_le _⟩ (fun H locs hW => ?_)
  refine lv_aload_n hx hb dX6_ifSpoiled_6 rfl (lv_at hl 0 rfl) ?_
  refine g_X_decoder hx hb hown hK hW kF_RX6_48 dX6_ifSpoiled_7 ?_
  refine lv_aload_n hx hb dX6_ifSpoiled_10 rfl (lv_at hl 0 rfl) ?_
  refine g_X_now hx hb hown hK hW kF_RX6_12 dX6_ifSpoiled_11 ?_
  obtain ⟨s7, q6, hf⟩ := bd_inv hf
  refine ss_callVv (As := [.ref (eA E (10 + 8 * 0))]) hx hb hml hown hK hW kb_X2_decode kM_RX6_124 rfl (okq_lt (by omega)) (c_dc (d := 0) (by omega) 0 (by decide)) (mX2_decode l (i0 := 0) (i1 := 0) (by omega) (by omega) q6) rfl dX6_ifSpoiled_14 rfl hl.1 (Nat.le_of_ble_eq_true rfl) ⟨Nat.le_of_ble_eq_true rfl, Nat.le_of_ble_eq_true rfl⟩ ⟨Nat.zero_le _, Nat.zero_le _⟩ (fun H locs hW => ?_)
  refine lv_aload_n hx hb dX6_ifSpoiled_17 rfl (lv_at hl 0 rfl) ?_
  refine g_X_now hx hb hown hK hW kF_RX6_12 dX6_ifSpoiled_18 ?_
  refine lv_iload_n hx hb dX6_ifSpoiled_21 rfl (lv_at hl 1 rfl) ?_
  refine lv_iload_n hx hb dX6_ifSpoiled_22 rfl (lv_at hl 2 rfl) ?_
  obtain ⟨s9, q8, hf⟩ := bd_inv hf
  refine ss_callVv (As := [.int a1, .int a2]) hx hb hml hown hK hW kb_X4_turnOver kM_RX6_175 rfl (okq_lt (by omega)) (c_st (i := 0) (by omega) 0 (by decide)) (mX4_turnOver l (i0 := 0) (a1 := a1) (a2 := a2) (by omega) q8) rfl dX6_ifSpoiled_23 rfl hl.1 (Nat.le_of_ble_eq_true rfl) ⟨Nat.le_of_ble_eq_true rfl, Nat.le_of_ble_eq_true rfl⟩ ⟨Nat.zero_le _, Nat.zero_le _⟩ (fun H locs hW => ?_)
  refine lv_aload_n hx hb dX6_ifSpoiled_26 rfl (lv_at hl 0 rfl) ?_
  refine g_X_decoderAfter hx hb hown hK hW kF_RX6_52 dX6_ifSpoiled_27 ?_
  refine lv_iconst (v := 0) hx hb dX6_ifSpoiled_30 (by decide) ?_
  refine p_Dec_upToDate (i := 1) hx hb hown hK hW (by omega) (by decide) kF_RX6_215 dX6_ifSpoiled_31 (fun H locs hW => ?_)
  obtain ⟨s10, es10⟩ : ∃ y : Sg, y = (up2 s9 (86 + 3 * 1) 3 0) := ⟨_, rfl⟩
  have hf := nm_use es10 hf
  rw [← es10] at hW
  refine lv_aload_n hx hb dX6_ifSpoiled_34 rfl (lv_at hl 0 rfl) ?_
  refine g_X_decoderAfter hx hb hown hK hW kF_RX6_52 dX6_ifSpoiled_35 ?_
  refine lv_aload_n hx hb dX6_ifSpoiled_38 rfl (lv_at hl 0 rfl) ?_
  refine g_X_now hx hb hown hK hW kF_RX6_12 dX6_ifSpoiled_39 ?_
  obtain ⟨s12, q11, hf⟩ := bd_inv hf
  refine ss_callVv (As := [.ref (eA E (10 + 8 * 0))]) hx hb hml hown hK hW kb_X2_decode kM_RX6_124 rfl (okq_lt (by omega)) (c_dc (d := 1) (by omega) 0 (by decide)) (mX2_decode l (i0 := 1) (i1 := 0) (by omega) (by omega) q11) rfl dX6_ifSpoiled_42 rfl hl.1 (Nat.le_of_ble_eq_true rfl) ⟨Nat.le_of_ble_eq_true rfl, Nat.le_of_ble_eq_true rfl⟩ ⟨Nat.zero_le _, Nat.zero_le _⟩ (fun H locs hW => ?_)
  refine lv_aload_n hx hb dX6_ifSpoiled_45 rfl (lv_at hl 0 rfl) ?_
  refine g_X_now hx hb hown hK hW kF_RX6_12 dX6_ifSpoiled_46 ?_
  refine lv_iload_n hx hb dX6_ifSpoiled_49 rfl (lv_at hl 1 rfl) ?_
  refine lv_iload_n hx hb dX6_ifSpoiled_50 rfl (lv_at hl 2 rfl) ?_
  obtain ⟨s14, q13, hf⟩ := bd_inv hf
  refine ss_callVv (As := [.int a1, .int a2]) hx hb hml hown hK hW kb_X4_turnOver kM_RX6_175 rfl (okq_lt (by omega)) (c_st (i := 0) (by omega) 0 (by decide)) (mX4_turnOver l (i0 := 0) (a1 := a1) (a2 := a2) (by omega) q13) rfl dX6_ifSpoiled_51 rfl hl.1 (Nat.le_of_ble_eq_true rfl) ⟨Nat.le_of_ble_eq_true rfl, Nat.le_of_ble_eq_true rfl⟩ ⟨Nat.zero_le _, Nat.zero_le _⟩ (fun H locs hW => ?_)
  refine lv_aload_n hx hb dX6_ifSpoiled_54 rfl (lv_at hl 0 rfl) ?_
  refine g_X_decoderAfter hx hb hown hK hW kF_RX6_52 dX6_ifSpoiled_55 ?_
  refine lv_aload_n hx hb dX6_ifSpoiled_58 rfl (lv_at hl 0 rfl) ?_
  refine g_X_decoder hx hb hown hK hW kF_RX6_48 dX6_ifSpoiled_59 ?_
  refine lv_aload_n hx hb dX6_ifSpoiled_62 rfl (lv_at hl 0 rfl) ?_
  refine g_X_now hx hb hown hK hW kF_RX6_12 dX6_ifSpoiled_63 ?_
  refine g_State_many (i := 0) hx hb hown hK hW (by omega) kF_RX6_72 dX6_ifSpoiled_66 ?_
  obtain ⟨r16, q15, hf⟩ := bd_inv hf
  refine ss_callVi (As := [.ref (eA E (86 + 3 * 0)), .int (s14 (10 + 8 * 0) 0)]) hx hb hml hown hK hW kb_X2_othersThan kM_RX6_219 rfl (okq_lt (by omega)) (c_dc (d := 1) (by omega) 0 (by decide)) (mX2_othersThan l (i0 := 1) (i1 := 0) (a2 := (s14 (10 + 8 * 0) 0)) (by omega) (by omega) q15) rfl dX6_ifSpoiled_69 rfl hl.1 (Nat.le_of_ble_eq_true rfl) ⟨Nat.le_of_ble_eq_true rfl, Nat.le_of_ble_eq_true rfl⟩ ⟨Nat.zero_le _, Nat.zero_le _⟩ (fun H locs hW => ?_)
  cases hf
  exact ss_ixret hx hb hr hlk hW dX6_ifSpoiled_72
def fX6_spoil (a1 : Int32) (a2 : Int32) (σ : Sg) : Option ((Int32 ⊕ Nat) × Sg) := bx (fX6_refuseUnlessCodeBit a1 a2 σ) fun r2 s3 => bd (fX6_beginChange s3) fun s7 => bd (fX4_turnOver 0 a1 a2 s7) fun s9 => nm (up2 s9 (10 + 8 * 0) 10 ((s9 (10 + 8 * 0) 10) + 1)) fun s10 => gd (¬ (a1 < 0 ∨ 64 ≤ (a1).toNatClampNeg)) <| some (.inl (s10 (10 + 8 * 0 + 6) (a1).toNatClampNeg), s10)
set_option maxHeartbeats 4000000 in
set_option maxRecDepth 100000 in
theorem mX6_spoil (l : Launch) (hfl : l.stackTraces = false) {E : En} {σ μ : Sg} {dg : Int64} {a1 : Int32} {a2 : Int32}  {res : Int32 ⊕ Nat} {σ' : Sg} (hf : fX6_spoil a1 a2 σ = some (res, σ')) : vx_Met l yX6_spoil [.code yX6_spoil cX6_spoil 3 (some .int)] (RmX res 7 144) (va_Pc [.ref (eA E 0), .int a1, .int a2] (Wd E σ μ dg)) (Qxi E σ' μ dg res) (Xx E σ' μ dg res) (xc res) (xs6 res) (eP E) := by
  refine ss_ofX (by decide) (Nat.le_of_ble_eq_true rfl) (fun p e s m below meth c hx hb hr hlk hml hown hex hK hW ls hl => ?_)
  have hown : s.vm.findClass RX6 = some m.cls := hown
  have hl : lv_has ls 3 [(0, .ref (eA E 0)), (1, .int a1), (2, .int a2)] := hl
  unfold fX6_spoil at hf
  refine lv_aload_n hx hb dX6_spoil_0 rfl (lv_at hl 0 rfl) ?_
  refine lv_iload_n hx hb dX6_spoil_1 rfl (lv_at hl 1 rfl) ?_
  refine lv_iload_n hx hb dX6_spoil_2 rfl (lv_at hl 2 rfl) ?_
  rcases bx_inv hf with ⟨r2, s3, q1, hf⟩ | ⟨ex4, s5, q1, hf⟩
  rotate_left
  · cases hf
    exact ss_xthrVv (As := [.int a1, .int a2]) hx hb hlk hex hml hown hK hW kb_X6_refuseUnlessCodeBit kM_RX6_171 rfl (okq_lt (by decide)) (c_fx (by decide)) (mX6_refuseUnlessCodeBit l hfl (a1 := a1) (a2 := a2) q1) rfl dX6_spoil_3 rfl hl.1 (Nat.le_of_ble_eq_true rfl) ⟨Nat.le_of_ble_eq_true rfl, Nat.le_of_ble_eq_true rfl⟩ ⟨Nat.le_refl 1, Nat.le_refl 6⟩
  refine ss_xcallVv (As := [.int a1, .int a2]) hx hb hml hown hK hW kb_X6_refuseUnlessCodeBit kM_RX6_171 rfl (okq_lt (by decide)) (c_fx (by decide)) (mX6_refuseUnlessCodeBit l hfl (a1 := a1) (a2 := a2) q1) rfl dX6_spoil_3 rfl hl.1 (Nat.le_of_ble_eq_true rfl) ⟨Nat.le_of_ble_eq_true rfl, Nat.le_of_ble_eq_true rfl⟩ ⟨Nat.zero_le _, Nat.zero_le _⟩ (fun H locs hW => ?_)
  refine lv_aload_n hx hb dX6_spoil_6 rfl (lv_at hl 0 rfl) ?_
  obtain ⟨s7, q6, hf⟩ := bd_inv hf
  refine ss_callVv (As := []) hx hb hml hown hK hW kb_X6_beginChange kM_RX6_69 rfl (okq_lt (by decide)) (c_fx (by decide)) (mX6_beginChange l  q6) rfl dX6_spoil_7 rfl hl.1 (Nat.le_of_ble_eq_true rfl) ⟨Nat.le_of_ble_eq_true rfl, Nat.le_of_ble_eq_true rfl⟩ ⟨Nat.zero_le _, Nat.zero_le _⟩ (fun H locs hW => ?_)
  refine lv_aload_n hx hb dX6_spoil_10 rfl (lv_at hl 0 rfl) ?_
  refine g_X_now hx hb hown hK hW kF_RX6_12 dX6_spoil_11 ?_
  refine lv_iload_n hx hb dX6_spoil_14 rfl (lv_at hl 1 rfl) ?_
  refine lv_iload_n hx hb dX6_spoil_15 rfl (lv_at hl 2 rfl) ?_
  obtain ⟨s9, q8, hf⟩ := bd_inv hf
  refine ss_callVv (As := [.int a1, .int a2]) hx hb hml hown hK hW kb_X4_turnOver kM_RX6_175 rfl (okq_lt (by omega)) (c_st (i := 0) (by omega) 0 (by decide)) (mX4_turnOver l (i0 := 0) (a1 := a1) (a2 := a2) (by omega) q8) rfl dX6_spoil_16 rfl hl.1 (Nat.le_of_ble_eq_true rfl) ⟨Nat.le_of_ble_eq_true rfl, Nat.le_of_ble_eq_true rfl⟩ ⟨Nat.zero_le _, Nat.zero_le _⟩ (fun H locs hW => ?_)
  refine lv_aload_n hx hb dX6_spoil_19 rfl (lv_at hl 0 rfl) ?_
  refine g_X_now hx hb hown hK hW kF_RX6_12 dX6_spoil_20 ?_
  refine lv_dup hx hb dX6_spoil_23 rfl ?_
  refine g_State_turned (i := 0) hx hb hown hK hW (by omega) kF_RX6_178 dX6_spoil_24 ?_
  refine lv_iconst (v := 1) hx hb dX6_spoil_27 (by decide) ?_
  refine lv_iadd hx hb dX6_spoil_28 ?_
  refine p_State_turned (i := 0) hx hb hown hK hW (by omega) kF_RX6_178 dX6_spoil_29 (fun H locs hW => ?_)
  obtain ⟨s10, es10⟩ : ∃ y : Sg, y = (up2 s9 (10 + 8 * 0) 10 ((s9 (10 + 8 * 0) 10) + 1)) := ⟨_, rfl⟩
  have hf := nm_use es10 hf
  rw [← es10] at hW
  refine lv_aload_n hx hb dX6_spoil_32 rfl (lv_at hl 0 rfl) ?_
  refine g_X_now hx hb hown hK hW kF_RX6_12 dX6_spoil_33 ?_
  refine g_State_codes (i := 0) hx hb hown hK hW (by omega) kF_RX6_181 dX6_spoil_36 ?_
  refine lv_iload_n hx hb dX6_spoil_39 rfl (lv_at hl 1 rfl) ?_
  obtain ⟨hk11, hf⟩ := gd_inv hf
  refine l_St6 (i := 0) hx hb hK hW (by omega) rfl hk11 dX6_spoil_40 ?_
  cases hf
  exact ss_ixret hx hb hr hlk hW dX6_spoil_41
def fX6_blockOf (a1 : Int32) (a2 : Int32) (σ : Sg) : Option ((Int32 ⊕ Nat) × Sg) := bx (fX6_refuseUnlessBlock a1 σ) fun r2 s3 => if a2 < 0 then (some (.inr 0, s3)) else (if a2 < 6 then (if a2 = 0 then (bd (fX4_endOf 0 a1 s3) fun r10 => bd (fX4_startOf 0 a1 s3) fun r12 => some (.inl (r10 - r12), s3)) else (if a2 = 1 then (gd (¬ (a1 < 0 ∨ 32 ≤ (a1).toNatClampNeg)) <| some (.inl ((s3 (10 + 8 * 0 + 3) (a1).toNatClampNeg) + 10000), s3)) else (if a2 = 2 then (gd (¬ (a1 < 0 ∨ 32 ≤ (a1).toNatClampNeg)) <| some (.inl (s3 (10 + 8 * 0 + 4) (a1).toNatClampNeg), s3)) else (if a2 = 3 then (gd (¬ (a1 < 0 ∨ 32 ≤ (a1).toNatClampNeg)) <| if (s3 (10 + 8 * 0 + 5) (a1).toNatClampNeg) = 0 then (some (.inl 0, s3)) else (some (.inl 1, s3))) else (if a2 = 4 then (bd (fX2_decode 0 0 s3) fun s22 => bd (fX4_startOf 0 a1 s22) fun r24 => bd (fX4_endOf 0 a1 s22) fun r26 => bd (fX2_errorOf 0 0 r24 r26 s22) fun r28 => some (.inl r28, s22)) else (bd2 (fX6_leadOf a1 s3) fun r30 s31 => some (.inl r30, s31))))))) else (some (.inr 0, s3)))
set_option maxHeartbeats 4000000 in
set_option maxRecDepth 100000 in
theorem mX6_blockOf (l : Launch) (hfl : l.stackTraces = false) {E : En} {σ μ : Sg} {dg : Int64} {a1 : Int32} {a2 : Int32}  {res : Int32 ⊕ Nat} {σ' : Sg} (hf : fX6_blockOf a1 a2 σ = some (res, σ')) : vx_Met l yX6_blockOf [.code yX6_blockOf cX6_blockOf 3 (some .int)] (RmX res 7 111) (va_Pc [.ref (eA E 0), .int a1, .int a2] (Wd E σ μ dg)) (Qxi E σ' μ dg res) (Xx E σ' μ dg res) (xc res) (xs6 res) (eP E) := by
  refine ss_ofX (by decide) (Nat.le_of_ble_eq_true rfl) (fun p e s m below meth c hx hb hr hlk hml hown hex hK hW ls hl => ?_)
  have hown : s.vm.findClass RX6 = some m.cls := hown
  have hl : lv_has ls 3 [(0, .ref (eA E 0)), (1, .int a1), (2, .int a2)] := hl
  unfold fX6_blockOf at hf
  refine lv_aload_n hx hb dX6_blockOf_0 rfl (lv_at hl 0 rfl) ?_
  refine lv_iload_n hx hb dX6_blockOf_1 rfl (lv_at hl 1 rfl) ?_
  rcases bx_inv hf with ⟨r2, s3, q1, hf⟩ | ⟨ex4, s5, q1, hf⟩
  rotate_left
  · cases hf
    exact ss_xthrVv (As := [.int a1]) hx hb hlk hex hml hown hK hW kb_X6_refuseUnlessBlock kM_RX6_161 rfl (okq_lt (by decide)) (c_fx (by decide)) (mX6_refuseUnlessBlock l hfl (a1 := a1) q1) rfl dX6_blockOf_2 rfl hl.1 (Nat.le_of_ble_eq_true rfl) ⟨Nat.le_of_ble_eq_true rfl, Nat.le_of_ble_eq_true rfl⟩ ⟨Nat.le_refl 1, Nat.le_refl 6⟩
  refine ss_xcallVv (As := [.int a1]) hx hb hml hown hK hW kb_X6_refuseUnlessBlock kM_RX6_161 rfl (okq_lt (by decide)) (c_fx (by decide)) (mX6_refuseUnlessBlock l hfl (a1 := a1) q1) rfl dX6_blockOf_2 rfl hl.1 (Nat.le_of_ble_eq_true rfl) ⟨Nat.le_of_ble_eq_true rfl, Nat.le_of_ble_eq_true rfl⟩ ⟨Nat.zero_le _, Nat.zero_le _⟩ (fun H locs hW => ?_)
  refine lv_iload_n hx hb dX6_blockOf_5 rfl (lv_at hl 2 rfl) ?_
  refine lv_if_lt (tgt := 15) hx hb dX6_blockOf_6 (by decide) (fun c6 => ?_) (fun c6 => ?_)
  · have hf := br_p c6 hf
    cases hf
    exact ss_throwS hx hb hfl hlk hex hml hl.1 hown hK hW (k0 := 0) (text := "no such property") (by simp [strs]) kL_RX6_62 kT_0_66 dX6_blockOf_15 dX6_blockOf_18 dX6_blockOf_19 dX6_blockOf_21 dX6_blockOf_24 (Nat.le_of_ble_eq_true rfl) (Nat.le_of_ble_eq_true rfl) ⟨Nat.le_refl 1, Nat.le_refl 6⟩
  · have hf := br_n c6 hf
    refine lv_iload_n hx hb dX6_blockOf_9 rfl (lv_at hl 2 rfl) ?_
    refine lv_bipush (v := 6) hx hb dX6_blockOf_10 (by decide) ?_
    refine lv_icmp_lt (tgt := 25) hx hb dX6_blockOf_12 (by decide) (fun c7 => ?_) (fun c7 => ?_)
    · have hf := br_p c7 hf
      refine lv_iload_n hx hb dX6_blockOf_25 rfl (lv_at hl 2 rfl) ?_
      by_cases c8 : a2 = 0
      · have hf := br_p c8 hf
        refine lv_tableIn (tgt := 60) hx hb dX6_blockOf_26 (by rw [c8]; decide) (by rw [c8]; decide) (by rw [c8]; rfl) (by decide) ?_
        refine lv_aload_n hx hb dX6_blockOf_60 rfl (lv_at hl 0 rfl) ?_
        refine g_X_now hx hb hown hK hW kF_RX6_12 dX6_blockOf_61 ?_
        refine lv_iload_n hx hb dX6_blockOf_64 rfl (lv_at hl 1 rfl) ?_
        obtain ⟨r10, q9, hf⟩ := bd_inv hf
        refine ss_callVi (As := [.int a1]) hx hb hml hown hK hW kb_X4_endOf kM_RX6_257 rfl (okq_lt (by omega)) (c_st (i := 0) (by omega) 0 (by decide)) (mX4_endOf l (i0 := 0) (a1 := a1) (by omega) q9) rfl dX6_blockOf_65 rfl hl.1 (Nat.le_of_ble_eq_true rfl) ⟨Nat.le_of_ble_eq_true rfl, Nat.le_of_ble_eq_true rfl⟩ ⟨Nat.zero_le _, Nat.zero_le _⟩ (fun H locs hW => ?_)
        refine lv_aload_n hx hb dX6_blockOf_68 rfl (lv_at hl 0 rfl) ?_
        refine g_X_now hx hb hown hK hW kF_RX6_12 dX6_blockOf_69 ?_
        refine lv_iload_n hx hb dX6_blockOf_72 rfl (lv_at hl 1 rfl) ?_
        obtain ⟨r12, q11, hf⟩ := bd_inv hf
        refine ss_callVi (As := [.int a1]) hx hb hml hown hK hW kb_X4_startOf kM_RX6_260 rfl (okq_lt (by omega)) (c_st (i := 0) (by omega) 0 (by decide)) (mX4_startOf l (i0 := 0) (a1 := a1) (by omega) q11) rfl dX6_blockOf_73 rfl hl.1 (Nat.le_of_ble_eq_true rfl) ⟨Nat.le_of_ble_eq_true rfl, Nat.le_of_ble_eq_true rfl⟩ ⟨Nat.zero_le _, Nat.zero_le _⟩ (fun H locs hW => ?_)
        refine lv_isub hx hb dX6_blockOf_76 ?_
        cases hf
        exact ss_ixret hx hb hr hlk hW dX6_blockOf_77
      have hf := br_n c8 hf
      by_cases c13 : a2 = 1
      · have hf := br_p c13 hf
        refine lv_tableIn (tgt := 78) hx hb dX6_blockOf_26 (by rw [c13]; decide) (by rw [c13]; decide) (by rw [c13]; rfl) (by decide) ?_
        refine lv_aload_n hx hb dX6_blockOf_78 rfl (lv_at hl 0 rfl) ?_
        refine g_X_now hx hb hown hK hW kF_RX6_12 dX6_blockOf_79 ?_
        refine g_State_firsts (i := 0) hx hb hown hK hW (by omega) kF_RX6_263 dX6_blockOf_82 ?_
        refine lv_iload_n hx hb dX6_blockOf_85 rfl (lv_at hl 1 rfl) ?_
        obtain ⟨hk14, hf⟩ := gd_inv hf
        refine l_St3 (i := 0) hx hb hK hW (by omega) rfl hk14 dX6_blockOf_86 ?_
        refine lv_sipush (v := 10000) hx hb dX6_blockOf_87 (by decide) ?_
        refine lv_iadd hx hb dX6_blockOf_90 ?_
        cases hf
        exact ss_ixret hx hb hr hlk hW dX6_blockOf_91
      have hf := br_n c13 hf
      by_cases c15 : a2 = 2
      · have hf := br_p c15 hf
        refine lv_tableIn (tgt := 92) hx hb dX6_blockOf_26 (by rw [c15]; decide) (by rw [c15]; decide) (by rw [c15]; rfl) (by decide) ?_
        refine lv_aload_n hx hb dX6_blockOf_92 rfl (lv_at hl 0 rfl) ?_
        refine g_X_now hx hb hown hK hW kF_RX6_12 dX6_blockOf_93 ?_
        refine g_State_starts (i := 0) hx hb hown hK hW (by omega) kF_RX6_266 dX6_blockOf_96 ?_
        refine lv_iload_n hx hb dX6_blockOf_99 rfl (lv_at hl 1 rfl) ?_
        obtain ⟨hk16, hf⟩ := gd_inv hf
        refine l_St4 (i := 0) hx hb hK hW (by omega) rfl hk16 dX6_blockOf_100 ?_
        cases hf
        exact ss_ixret hx hb hr hlk hW dX6_blockOf_101
      have hf := br_n c15 hf
      by_cases c17 : a2 = 3
      · have hf := br_p c17 hf
        refine lv_tableIn (tgt := 102) hx hb dX6_blockOf_26 (by rw [c17]; decide) (by rw [c17]; decide) (by rw [c17]; rfl) (by decide) ?_
        refine lv_aload_n hx hb dX6_blockOf_102 rfl (lv_at hl 0 rfl) ?_
        refine g_X_now hx hb hown hK hW kF_RX6_12 dX6_blockOf_103 ?_
        refine g_State_lost (i := 0) hx hb hown hK hW (by omega) kF_RX6_164 dX6_blockOf_106 ?_
        refine lv_iload_n hx hb dX6_blockOf_109 rfl (lv_at hl 1 rfl) ?_
        obtain ⟨hk18, hf⟩ := gd_inv hf
        refine l_St5 (i := 0) hx hb hK hW (by omega) rfl hk18 dX6_blockOf_110 ?_
        refine lv_if_eq (tgt := 118) hx hb dX6_blockOf_111 (by decide) (fun c19 => ?_) (fun c19 => ?_)
        · have hf := br_p c19 hf
          refine lv_iconst (v := 0) hx hb dX6_blockOf_118 (by decide) ?_
          cases hf
          exact ss_ixret hx hb hr hlk hW dX6_blockOf_119
        · have hf := br_n c19 hf
          refine lv_iconst (v := 1) hx hb dX6_blockOf_114 (by decide) ?_
          refine lv_goto (tgt := 119) hx hb dX6_blockOf_115 (by decide) ?_
          cases hf
          exact ss_ixret hx hb hr hlk hW dX6_blockOf_119
      have hf := br_n c17 hf
      by_cases c20 : a2 = 4
      · have hf := br_p c20 hf
        refine lv_tableIn (tgt := 120) hx hb dX6_blockOf_26 (by rw [c20]; decide) (by rw [c20]; decide) (by rw [c20]; rfl) (by decide) ?_
        refine lv_aload_n hx hb dX6_blockOf_120 rfl (lv_at hl 0 rfl) ?_
        refine g_X_decoder hx hb hown hK hW kF_RX6_48 dX6_blockOf_121 ?_
        refine lv_aload_n hx hb dX6_blockOf_124 rfl (lv_at hl 0 rfl) ?_
        refine g_X_now hx hb hown hK hW kF_RX6_12 dX6_blockOf_125 ?_
        obtain ⟨s22, q21, hf⟩ := bd_inv hf
        refine ss_callVv (As := [.ref (eA E (10 + 8 * 0))]) hx hb hml hown hK hW kb_X2_decode kM_RX6_124 rfl (okq_lt (by omega)) (c_dc (d := 0) (by omega) 0 (by decide)) (mX2_decode l (i0 := 0) (i1 := 0) (by omega) (by omega) q21) rfl dX6_blockOf_128 rfl hl.1 (Nat.le_of_ble_eq_true rfl) ⟨Nat.le_of_ble_eq_true rfl, Nat.le_of_ble_eq_true rfl⟩ ⟨Nat.zero_le _, Nat.zero_le _⟩ (fun H locs hW => ?_)
        refine lv_aload_n hx hb dX6_blockOf_131 rfl (lv_at hl 0 rfl) ?_
        refine g_X_decoder hx hb hown hK hW kF_RX6_48 dX6_blockOf_132 ?_
        refine lv_aload_n hx hb dX6_blockOf_135 rfl (lv_at hl 0 rfl) ?_
        refine g_X_now hx hb hown hK hW kF_RX6_12 dX6_blockOf_136 ?_
        refine lv_aload_n hx hb dX6_blockOf_139 rfl (lv_at hl 0 rfl) ?_
        refine g_X_now hx hb hown hK hW kF_RX6_12 dX6_blockOf_140 ?_
        refine lv_iload_n hx hb dX6_blockOf_143 rfl (lv_at hl 1 rfl) ?_
        obtain ⟨r24, q23, hf⟩ := bd_inv hf
        refine ss_callVi (As := [.int a1]) hx hb hml hown hK hW kb_X4_startOf kM_RX6_260 rfl (okq_lt (by omega)) (c_st (i := 0) (by omega) 0 (by decide)) (mX4_startOf l (i0 := 0) (a1 := a1) (by omega) q23) rfl dX6_blockOf_144 rfl hl.1 (Nat.le_of_ble_eq_true rfl) ⟨Nat.le_of_ble_eq_true rfl, Nat.le_of_ble_eq_true rfl⟩ ⟨Nat.zero_le _, Nat.zero_le _⟩ (fun H locs hW => ?_)
        refine lv_aload_n hx hb dX6_blockOf_147 rfl (lv_at hl 0 rfl) ?_
        refine g_X_now hx hb hown hK hW kF_RX6_12 dX6_blockOf_148 ?_
        refine lv_iload_n hx hb dX6_blockOf_151 rfl (lv_at hl 1 rfl) ?_
        obtain ⟨r26, q25, hf⟩ := bd_inv hf
        refine ss_callVi (As := [.int a1]) hx hb hml hown hK hW kb_X4_endOf kM_RX6_257 rfl (okq_lt (by omega)) (c_st (i := 0) (by omega) 0 (by decide)) (mX4_endOf l (i0 := 0) (a1 := a1) (by omega) q25) rfl dX6_blockOf_152 rfl hl.1 (Nat.le_of_ble_eq_true rfl) ⟨Nat.le_of_ble_eq_true rfl, Nat.le_of_ble_eq_true rfl⟩ ⟨Nat.zero_le _, Nat.zero_le _⟩ (fun H locs hW => ?_)
        obtain ⟨r28, q27, hf⟩ := bd_inv hf
        refine ss_callVi (As := [.ref (eA E (10 + 8 * 0)), .int r24, .int r26]) hx hb hml hown hK hW kb_X2_errorOf kM_RX6_269 rfl (okq_lt (by omega)) (c_dc (d := 0) (by omega) 0 (by decide)) (mX2_errorOf l (i0 := 0) (i1 := 0) (a2 := r24) (a3 := r26) (by omega) (by omega) q27) rfl dX6_blockOf_155 rfl hl.1 (Nat.le_of_ble_eq_true rfl) ⟨Nat.le_of_ble_eq_true rfl, Nat.le_of_ble_eq_true rfl⟩ ⟨Nat.zero_le _, Nat.zero_le _⟩ (fun H locs hW => ?_)
        cases hf
        exact ss_ixret hx hb hr hlk hW dX6_blockOf_158
      have hf := br_n c20 hf
      have zc8 := sw_ne (n := 0) c8 (by decide)
      have zc13 := sw_ne (n := 1) c13 (by decide)
      have zc15 := sw_ne (n := 2) c15 (by decide)
      have zc17 := sw_ne (n := 3) c17 (by decide)
      have zc20 := sw_ne (n := 4) c20 (by decide)
      refine lv_tableOut (tgt := 159) hx hb dX6_blockOf_26 (by omega) (by decide) ?_
      refine lv_aload_n hx hb dX6_blockOf_159 rfl (lv_at hl 0 rfl) ?_
      refine lv_iload_n hx hb dX6_blockOf_160 rfl (lv_at hl 1 rfl) ?_
      obtain ⟨r30, s31, q29, hf⟩ := bd2_inv hf
      refine ss_callVi (As := [.int a1]) hx hb hml hown hK hW kb_X6_leadOf kM_RX6_273 rfl (okq_lt (by decide)) (c_fx (by decide)) (mX6_leadOf l (a1 := a1) q29) rfl dX6_blockOf_161 rfl hl.1 (Nat.le_of_ble_eq_true rfl) ⟨Nat.le_of_ble_eq_true rfl, Nat.le_of_ble_eq_true rfl⟩ ⟨Nat.zero_le _, Nat.zero_le _⟩ (fun H locs hW => ?_)
      cases hf
      exact ss_ixret hx hb hr hlk hW dX6_blockOf_164
    · have hf := br_n c7 hf
      cases hf
      exact ss_throwS hx hb hfl hlk hex hml hl.1 hown hK hW (k0 := 0) (text := "no such property") (by simp [strs]) kL_RX6_62 kT_0_66 dX6_blockOf_15 dX6_blockOf_18 dX6_blockOf_19 dX6_blockOf_21 dX6_blockOf_24 (Nat.le_of_ble_eq_true rfl) (Nat.le_of_ble_eq_true rfl) ⟨Nat.le_refl 1, Nat.le_refl 6⟩
def fX6_write (a1 : Int32) (σ : Sg) : Option ((Int32 ⊕ Nat) × Sg) := bx (fX6_refuseUnlessBlock a1 σ) fun r2 s3 => bd (fX0_tell 0 a1 s3) fun s7 => some (.inl (s7 5 1), s7)
set_option maxHeartbeats 4000000 in
set_option maxRecDepth 100000 in
theorem mX6_write (l : Launch) (hfl : l.stackTraces = false) {E : En} {σ μ : Sg} {dg : Int64} {a1 : Int32}  {res : Int32 ⊕ Nat} {σ' : Sg} (hf : fX6_write a1 σ = some (res, σ')) : vx_Met l yX6_write [.code yX6_write cX6_write 2 (some .int)] (RmX res 7 111) (va_Pc [.ref (eA E 0), .int a1] (Wd E σ μ dg)) (Qxi E σ' μ dg res) (Xx E σ' μ dg res) (xc res) (xs6 res) (eP E) := by
  refine ss_ofX (by decide) (Nat.le_of_ble_eq_true rfl) (fun p e s m below meth c hx hb hr hlk hml hown hex hK hW ls hl => ?_)
  have hown : s.vm.findClass RX6 = some m.cls := hown
  have hl : lv_has ls 2 [(0, .ref (eA E 0)), (1, .int a1)] := hl
  unfold fX6_write at hf
  refine lv_aload_n hx hb dX6_write_0 rfl (lv_at hl 0 rfl) ?_
  refine lv_iload_n hx hb dX6_write_1 rfl (lv_at hl 1 rfl) ?_
  rcases bx_inv hf with ⟨r2, s3, q1, hf⟩ | ⟨ex4, s5, q1, hf⟩
  rotate_left
  · cases hf
    exact ss_xthrVv (As := [.int a1]) hx hb hlk hex hml hown hK hW kb_X6_refuseUnlessBlock kM_RX6_161 rfl (okq_lt (by decide)) (c_fx (by decide)) (mX6_refuseUnlessBlock l hfl (a1 := a1) q1) rfl dX6_write_2 rfl hl.1 (Nat.le_of_ble_eq_true rfl) ⟨Nat.le_of_ble_eq_true rfl, Nat.le_of_ble_eq_true rfl⟩ ⟨Nat.le_refl 1, Nat.le_refl 6⟩
  refine ss_xcallVv (As := [.int a1]) hx hb hml hown hK hW kb_X6_refuseUnlessBlock kM_RX6_161 rfl (okq_lt (by decide)) (c_fx (by decide)) (mX6_refuseUnlessBlock l hfl (a1 := a1) q1) rfl dX6_write_2 rfl hl.1 (Nat.le_of_ble_eq_true rfl) ⟨Nat.le_of_ble_eq_true rfl, Nat.le_of_ble_eq_true rfl⟩ ⟨Nat.zero_le _, Nat.zero_le _⟩ (fun H locs hW => ?_)
  refine lv_aload_n hx hb dX6_write_5 rfl (lv_at hl 0 rfl) ?_
  refine g_X_buffer hx hb hown hK hW kF_RX6_34 dX6_write_6 ?_
  refine lv_aload_n hx hb dX6_write_9 rfl (lv_at hl 0 rfl) ?_
  refine g_X_now hx hb hown hK hW kF_RX6_12 dX6_write_10 ?_
  refine lv_iload_n hx hb dX6_write_13 rfl (lv_at hl 1 rfl) ?_
  obtain ⟨s7, q6, hf⟩ := bd_inv hf
  refine ss_callVv (As := [.ref (eA E (10 + 8 * 0)), .int a1]) hx hb hml hown hK hW kb_X0_tell kM_RX6_223 rfl (okq_lt (by decide)) (c_fx (by decide)) (mX0_tell l (i1 := 0) (a2 := a1) (by omega) q6) rfl dX6_write_14 rfl hl.1 (Nat.le_of_ble_eq_true rfl) ⟨Nat.le_of_ble_eq_true rfl, Nat.le_of_ble_eq_true rfl⟩ ⟨Nat.zero_le _, Nat.zero_le _⟩ (fun H locs hW => ?_)
  refine lv_aload_n hx hb dX6_write_17 rfl (lv_at hl 0 rfl) ?_
  refine g_X_buffer hx hb hown hK hW kF_RX6_34 dX6_write_18 ?_
  refine g_BT_length hx hb hown hK hW kF_RX6_194 dX6_write_21 ?_
  cases hf
  exact ss_ixret hx hb hr hlk hW dX6_write_24
def fX6_load (a1 : Int32) (σ : Sg) : Option ((Int32 ⊕ Nat) × Sg) := bx (fX6_refuseUnlessBlock a1 σ) fun r2 s3 => bd2 (fX0_tellsBlock s3) fun r7 s8 => if r7 = 0 then (some (.inr 0, s8)) else (bd (fX4_codesOf 0 a1 s8) fun r11 => if (s8 5 5) = r11 then (bd (fX2_decode 0 0 s8) fun s14 => bd (fX6_beginChange s14) fun s16 => bd (fX4_putBlock 0 a1 s16) fun s18 => nm (up2 s18 5 1 0) fun s19 => nm (up2 s19 (86 + 3 * 1) 3 0) fun s20 => bd (fX2_decode 1 0 s20) fun s22 => bd (fX2_othersThan 1 0 (s22 (10 + 8 * 0) 0) s22) fun r24 => some (.inl r24, s22)) else (some (.inr 0, s8)))
set_option maxHeartbeats 4000000 in
set_option maxRecDepth 100000 in
theorem mX6_load (l : Launch) (hfl : l.stackTraces = false) {E : En} {σ μ : Sg} {dg : Int64} {a1 : Int32}  {res : Int32 ⊕ Nat} {σ' : Sg} (hf : fX6_load a1 σ = some (res, σ')) : vx_Met l yX6_load [.code yX6_load cX6_load 2 (some .int)] (RmX res 7 144) (va_Pc [.ref (eA E 0), .int a1] (Wd E σ μ dg)) (Qxi E σ' μ dg res) (Xx E σ' μ dg res) (xc res) (xs6 res) (eP E) := by
  refine ss_ofX (by decide) (Nat.le_of_ble_eq_true rfl) (fun p e s m below meth c hx hb hr hlk hml hown hex hK hW ls hl => ?_)
  have hown : s.vm.findClass RX6 = some m.cls := hown
  have hl : lv_has ls 2 [(0, .ref (eA E 0)), (1, .int a1)] := hl
  unfold fX6_load at hf
  refine lv_aload_n hx hb dX6_load_0 rfl (lv_at hl 0 rfl) ?_
  refine lv_iload_n hx hb dX6_load_1 rfl (lv_at hl 1 rfl) ?_
  rcases bx_inv hf with ⟨r2, s3, q1, hf⟩ | ⟨ex4, s5, q1, hf⟩
  rotate_left
  · cases hf
    exact ss_xthrVv (As := [.int a1]) hx hb hlk hex hml hown hK hW kb_X6_refuseUnlessBlock kM_RX6_161 rfl (okq_lt (by decide)) (c_fx (by decide)) (mX6_refuseUnlessBlock l hfl (a1 := a1) q1) rfl dX6_load_2 rfl hl.1 (Nat.le_of_ble_eq_true rfl) ⟨Nat.le_of_ble_eq_true rfl, Nat.le_of_ble_eq_true rfl⟩ ⟨Nat.le_refl 1, Nat.le_refl 6⟩
  refine ss_xcallVv (As := [.int a1]) hx hb hml hown hK hW kb_X6_refuseUnlessBlock kM_RX6_161 rfl (okq_lt (by decide)) (c_fx (by decide)) (mX6_refuseUnlessBlock l hfl (a1 := a1) q1) rfl dX6_load_2 rfl hl.1 (Nat.le_of_ble_eq_true rfl) ⟨Nat.le_of_ble_eq_true rfl, Nat.le_of_ble_eq_true rfl⟩ ⟨Nat.zero_le _, Nat.zero_le _⟩ (fun H locs hW => ?_)
  refine lv_aload_n hx hb dX6_load_5 rfl (lv_at hl 0 rfl) ?_
  refine g_X_buffer hx hb hown hK hW kF_RX6_34 dX6_load_6 ?_
  obtain ⟨r7, s8, q6, hf⟩ := bd2_inv hf
  refine ss_callVi (As := []) hx hb hml hown hK hW kb_X0_tellsBlock kM_RX6_200 rfl (okq_lt (by decide)) (c_fx (by decide)) (mX0_tellsBlock l  q6) rfl dX6_load_9 rfl hl.1 (Nat.le_of_ble_eq_true rfl) ⟨Nat.le_of_ble_eq_true rfl, Nat.le_of_ble_eq_true rfl⟩ ⟨Nat.zero_le _, Nat.zero_le _⟩ (fun H locs hW => ?_)
  refine lv_if_eq (tgt := 33) hx hb dX6_load_12 (by decide) (fun c9 => ?_) (fun c9 => ?_)
  · have hf := br_p c9 hf
    cases hf
    exact ss_throwS hx hb hfl hlk hex hml hl.1 hown hK hW (k0 := 0) (text := "the buffer does not tell such a block") (by simp [strs]) kL_RX6_62 kT_0_66 dX6_load_33 dX6_load_36 dX6_load_37 dX6_load_39 dX6_load_42 (Nat.le_of_ble_eq_true rfl) (Nat.le_of_ble_eq_true rfl) ⟨Nat.le_refl 1, Nat.le_refl 6⟩
  · have hf := br_n c9 hf
    refine lv_aload_n hx hb dX6_load_15 rfl (lv_at hl 0 rfl) ?_
    refine g_X_buffer hx hb hown hK hW kF_RX6_34 dX6_load_16 ?_
    refine g_BT_codeCount hx hb hown hK hW kF_RX6_203 dX6_load_19 ?_
    refine lv_aload_n hx hb dX6_load_22 rfl (lv_at hl 0 rfl) ?_
    refine g_X_now hx hb hown hK hW kF_RX6_12 dX6_load_23 ?_
    refine lv_iload_n hx hb dX6_load_26 rfl (lv_at hl 1 rfl) ?_
    obtain ⟨r11, q10, hf⟩ := bd_inv hf
    refine ss_callVi (As := [.int a1]) hx hb hml hown hK hW kb_X4_codesOf kM_RX6_206 rfl (okq_lt (by omega)) (c_st (i := 0) (by omega) 0 (by decide)) (mX4_codesOf l (i0 := 0) (a1 := a1) (by omega) q10) rfl dX6_load_27 rfl hl.1 (Nat.le_of_ble_eq_true rfl) ⟨Nat.le_of_ble_eq_true rfl, Nat.le_of_ble_eq_true rfl⟩ ⟨Nat.zero_le _, Nat.zero_le _⟩ (fun H locs hW => ?_)
    refine lv_icmp_eq (tgt := 43) hx hb dX6_load_30 (by decide) (fun c12 => ?_) (fun c12 => ?_)
    · have hf := br_p c12 hf
      refine lv_aload_n hx hb dX6_load_43 rfl (lv_at hl 0 rfl) ?_
      refine g_X_decoder hx hb hown hK hW kF_RX6_48 dX6_load_44 ?_
      refine lv_aload_n hx hb dX6_load_47 rfl (lv_at hl 0 rfl) ?_
      refine g_X_now hx hb hown hK hW kF_RX6_12 dX6_load_48 ?_
      obtain ⟨s14, q13, hf⟩ := bd_inv hf
      refine ss_callVv (As := [.ref (eA E (10 + 8 * 0))]) hx hb hml hown hK hW kb_X2_decode kM_RX6_124 rfl (okq_lt (by omega)) (c_dc (d := 0) (by omega) 0 (by decide)) (mX2_decode l (i0 := 0) (i1 := 0) (by omega) (by omega) q13) rfl dX6_load_51 rfl hl.1 (Nat.le_of_ble_eq_true rfl) ⟨Nat.le_of_ble_eq_true rfl, Nat.le_of_ble_eq_true rfl⟩ ⟨Nat.zero_le _, Nat.zero_le _⟩ (fun H locs hW => ?_)
      refine lv_aload_n hx hb dX6_load_54 rfl (lv_at hl 0 rfl) ?_
      obtain ⟨s16, q15, hf⟩ := bd_inv hf
      refine ss_callVv (As := []) hx hb hml hown hK hW kb_X6_beginChange kM_RX6_69 rfl (okq_lt (by decide)) (c_fx (by decide)) (mX6_beginChange l  q15) rfl dX6_load_55 rfl hl.1 (Nat.le_of_ble_eq_true rfl) ⟨Nat.le_of_ble_eq_true rfl, Nat.le_of_ble_eq_true rfl⟩ ⟨Nat.zero_le _, Nat.zero_le _⟩ (fun H locs hW => ?_)
      refine lv_aload_n hx hb dX6_load_58 rfl (lv_at hl 0 rfl) ?_
      refine g_X_now hx hb hown hK hW kF_RX6_12 dX6_load_59 ?_
      refine lv_iload_n hx hb dX6_load_62 rfl (lv_at hl 1 rfl) ?_
      refine lv_aload_n hx hb dX6_load_63 rfl (lv_at hl 0 rfl) ?_
      refine g_X_buffer hx hb hown hK hW kF_RX6_34 dX6_load_64 ?_
      obtain ⟨s18, q17, hf⟩ := bd_inv hf
      refine ss_callVv (As := [.int a1, .ref (eA E 5)]) hx hb hml hown hK hW kb_X4_putBlock kM_RX6_211 rfl (okq_lt (by omega)) (c_st (i := 0) (by omega) 0 (by decide)) (mX4_putBlock l (i0 := 0) (a1 := a1) (by omega) q17) rfl dX6_load_67 rfl hl.1 (Nat.le_of_ble_eq_true rfl) ⟨Nat.le_of_ble_eq_true rfl, Nat.le_of_ble_eq_true rfl⟩ ⟨Nat.zero_le _, Nat.zero_le _⟩ (fun H locs hW => ?_)
      refine lv_aload_n hx hb dX6_load_70 rfl (lv_at hl 0 rfl) ?_
      refine g_X_buffer hx hb hown hK hW kF_RX6_34 dX6_load_71 ?_
      refine lv_iconst (v := 0) hx hb dX6_load_74 (by decide) ?_
      refine p_BT_length hx hb hown hK hW kF_RX6_194 dX6_load_75 (fun H locs hW => ?_)
      obtain ⟨s19, es19⟩ : ∃ y : Sg, y = (up2 s18 5 1 0) := ⟨_, rfl⟩
      have hf := nm_use es19 hf
      rw [← es19] at hW
      refine lv_aload_n hx hb dX6_load_78 rfl (lv_at hl 0 rfl) ?_
      refine g_X_decoderAfter hx hb hown hK hW kF_RX6_52 dX6_load_79 ?_
      refine lv_iconst (v := 0) hx hb dX6_load_82 (by decide) ?_
      refine p_Dec_upToDate (i := 1) hx hb hown hK hW (by omega) (by decide) kF_RX6_215 dX6_load_83 (fun H locs hW => ?_)
      obtain ⟨s20, es20⟩ : ∃ y : Sg, y = (up2 s19 (86 + 3 * 1) 3 0) := ⟨_, rfl⟩
      have hf := nm_use es20 hf
      rw [← es20] at hW
      refine lv_aload_n hx hb dX6_load_86 rfl (lv_at hl 0 rfl) ?_
      refine g_X_decoderAfter hx hb hown hK hW kF_RX6_52 dX6_load_87 ?_
      refine lv_aload_n hx hb dX6_load_90 rfl (lv_at hl 0 rfl) ?_
      refine g_X_now hx hb hown hK hW kF_RX6_12 dX6_load_91 ?_
      obtain ⟨s22, q21, hf⟩ := bd_inv hf
      refine ss_callVv (As := [.ref (eA E (10 + 8 * 0))]) hx hb hml hown hK hW kb_X2_decode kM_RX6_124 rfl (okq_lt (by omega)) (c_dc (d := 1) (by omega) 0 (by decide)) (mX2_decode l (i0 := 1) (i1 := 0) (by omega) (by omega) q21) rfl dX6_load_94 rfl hl.1 (Nat.le_of_ble_eq_true rfl) ⟨Nat.le_of_ble_eq_true rfl, Nat.le_of_ble_eq_true rfl⟩ ⟨Nat.zero_le _, Nat.zero_le _⟩ (fun H locs hW => ?_)
      refine lv_aload_n hx hb dX6_load_97 rfl (lv_at hl 0 rfl) ?_
      refine g_X_decoderAfter hx hb hown hK hW kF_RX6_52 dX6_load_98 ?_
      refine lv_aload_n hx hb dX6_load_101 rfl (lv_at hl 0 rfl) ?_
      refine g_X_decoder hx hb hown hK hW kF_RX6_48 dX6_load_102 ?_
      refine lv_aload_n hx hb dX6_load_105 rfl (lv_at hl 0 rfl) ?_
      refine g_X_now hx hb hown hK hW kF_RX6_12 dX6_load_106 ?_
      refine g_State_many (i := 0) hx hb hown hK hW (by omega) kF_RX6_72 dX6_load_109 ?_
      obtain ⟨r24, q23, hf⟩ := bd_inv hf
      refine ss_callVi (As := [.ref (eA E (86 + 3 * 0)), .int (s22 (10 + 8 * 0) 0)]) hx hb hml hown hK hW kb_X2_othersThan kM_RX6_219 rfl (okq_lt (by omega)) (c_dc (d := 1) (by omega) 0 (by decide)) (mX2_othersThan l (i0 := 1) (i1 := 0) (a2 := (s22 (10 + 8 * 0) 0)) (by omega) (by omega) q23) rfl dX6_load_112 rfl hl.1 (Nat.le_of_ble_eq_true rfl) ⟨Nat.le_of_ble_eq_true rfl, Nat.le_of_ble_eq_true rfl⟩ ⟨Nat.zero_le _, Nat.zero_le _⟩ (fun H locs hW => ?_)
      cases hf
      exact ss_ixret hx hb hr hlk hW dX6_load_115
    · have hf := br_n c12 hf
      cases hf
      exact ss_throwS hx hb hfl hlk hex hml hl.1 hown hK hW (k0 := 0) (text := "the buffer does not tell such a block") (by simp [strs]) kL_RX6_62 kT_0_66 dX6_load_33 dX6_load_36 dX6_load_37 dX6_load_39 dX6_load_42 (Nat.le_of_ble_eq_true rfl) (Nat.le_of_ble_eq_true rfl) ⟨Nat.le_refl 1, Nat.le_refl 6⟩
def fX6_refuseUnlessSamples (a1 : Int32) (a2 : Int32) (σ : Sg) : Option ((Unit ⊕ Nat) × Sg) := bd (fX4_hasSample 0 a1 σ) fun r2 => if r2 = 0 then (some (.inr 1, σ)) else (if a2 < 1 then (some (.inr 1, σ)) else (if a2 ≤ ((σ (10 + 8 * 0) 0) - a1) then (some (.inl (), σ)) else (some (.inr 1, σ))))
set_option maxHeartbeats 4000000 in
set_option maxRecDepth 100000 in
theorem mX6_refuseUnlessSamples (l : Launch) (hfl : l.stackTraces = false) {E : En} {σ μ : Sg} {dg : Int64} {a1 : Int32} {a2 : Int32}  {res : Unit ⊕ Nat} {σ' : Sg} (hf : fX6_refuseUnlessSamples a1 a2 σ = some (res, σ')) : vx_Met l yX6_refuseUnlessSamples [.code yX6_refuseUnlessSamples cX6_refuseUnlessSamples 3 none] (RmX res 6 90) (va_Pc [.ref (eA E 0), .int a1, .int a2] (Wd E σ μ dg)) (Qxv E σ' μ dg res) (Xx E σ' μ dg res) (xc res) (xs6 res) (eP E) := by
  refine ss_ofX (by decide) (Nat.le_of_ble_eq_true rfl) (fun p e s m below meth c hx hb hr hlk hml hown hex hK hW ls hl => ?_)
  have hown : s.vm.findClass RX6 = some m.cls := hown
  have hl : lv_has ls 3 [(0, .ref (eA E 0)), (1, .int a1), (2, .int a2)] := hl
  unfold fX6_refuseUnlessSamples at hf
  refine lv_aload_n hx hb dX6_refuseUnlessSamples_0 rfl (lv_at hl 0 rfl) ?_
  refine g_X_now hx hb hown hK hW kF_RX6_12 dX6_refuseUnlessSamples_1 ?_
  refine lv_iload_n hx hb dX6_refuseUnlessSamples_4 rfl (lv_at hl 1 rfl) ?_
  obtain ⟨r2, q1, hf⟩ := bd_inv hf
  refine ss_callVi (As := [.int a1]) hx hb hml hown hK hW kb_X4_hasSample kM_RX6_80 rfl (okq_lt (by omega)) (c_st (i := 0) (by omega) 0 (by decide)) (mX4_hasSample l (i0 := 0) (a1 := a1) (by omega) q1) rfl dX6_refuseUnlessSamples_5 rfl hl.1 (Nat.le_of_ble_eq_true rfl) ⟨Nat.le_of_ble_eq_true rfl, Nat.le_of_ble_eq_true rfl⟩ ⟨Nat.zero_le _, Nat.zero_le _⟩ (fun H locs hW => ?_)
  refine lv_if_eq (tgt := 29) hx hb dX6_refuseUnlessSamples_8 (by decide) (fun c3 => ?_) (fun c3 => ?_)
  · have hf := br_p c3 hf
    cases hf
    exact ss_throwW hx hb hfl hlk hex hml hl.1 hown hK hW (k0 := 1) (text := "there are not all these samples") (by simp [strs]) kL_RX6_84 kT_1_88 dX6_refuseUnlessSamples_29 dX6_refuseUnlessSamples_32 dX6_refuseUnlessSamples_33 dX6_refuseUnlessSamples_36 dX6_refuseUnlessSamples_39 (Nat.le_of_ble_eq_true rfl) (Nat.le_of_ble_eq_true rfl) ⟨Nat.le_refl 1, Nat.le_refl 6⟩
  · have hf := br_n c3 hf
    refine lv_iload_n hx hb dX6_refuseUnlessSamples_11 rfl (lv_at hl 2 rfl) ?_
    refine lv_iconst (v := 1) hx hb dX6_refuseUnlessSamples_12 (by decide) ?_
    refine lv_icmp_lt (tgt := 29) hx hb dX6_refuseUnlessSamples_13 (by decide) (fun c4 => ?_) (fun c4 => ?_)
    · have hf := br_p c4 hf
      cases hf
      exact ss_throwW hx hb hfl hlk hex hml hl.1 hown hK hW (k0 := 1) (text := "there are not all these samples") (by simp [strs]) kL_RX6_84 kT_1_88 dX6_refuseUnlessSamples_29 dX6_refuseUnlessSamples_32 dX6_refuseUnlessSamples_33 dX6_refuseUnlessSamples_36 dX6_refuseUnlessSamples_39 (Nat.le_of_ble_eq_true rfl) (Nat.le_of_ble_eq_true rfl) ⟨Nat.le_refl 1, Nat.le_refl 6⟩
    · have hf := br_n c4 hf
      refine lv_iload_n hx hb dX6_refuseUnlessSamples_16 rfl (lv_at hl 2 rfl) ?_
      refine lv_aload_n hx hb dX6_refuseUnlessSamples_17 rfl (lv_at hl 0 rfl) ?_
      refine g_X_now hx hb hown hK hW kF_RX6_12 dX6_refuseUnlessSamples_18 ?_
      refine g_State_many (i := 0) hx hb hown hK hW (by omega) kF_RX6_72 dX6_refuseUnlessSamples_21 ?_
      refine lv_iload_n hx hb dX6_refuseUnlessSamples_24 rfl (lv_at hl 1 rfl) ?_
      refine lv_isub hx hb dX6_refuseUnlessSamples_25 ?_
      refine lv_icmp_le (tgt := 40) hx hb dX6_refuseUnlessSamples_26 (by decide) (fun c5 => ?_) (fun c5 => ?_)
      · have hf := br_p c5 hf
        cases hf
        exact ss_vxret hx hb hr hlk hW dX6_refuseUnlessSamples_40
      · have hf := br_n c5 hf
        cases hf
        exact ss_throwW hx hb hfl hlk hex hml hl.1 hown hK hW (k0 := 1) (text := "there are not all these samples") (by simp [strs]) kL_RX6_84 kT_1_88 dX6_refuseUnlessSamples_29 dX6_refuseUnlessSamples_32 dX6_refuseUnlessSamples_33 dX6_refuseUnlessSamples_36 dX6_refuseUnlessSamples_39 (Nat.le_of_ble_eq_true rfl) (Nat.le_of_ble_eq_true rfl) ⟨Nat.le_refl 1, Nat.le_refl 6⟩
def fX6_ifBlock (a1 : Int32) (a2 : Int32) (a3 : Int32) (σ : Sg) : Option ((Int32 ⊕ Nat) × Sg) := bx (fX6_refuseUnlessSamples a1 a2 σ) fun r2 s3 => bd (fX6_isNumber a3) fun r7 => if r7 = 0 then (some (.inr 0, s3)) else (bd2 (fX1_errorAsBlock 0 a1 (a1 + a2) a3 s3) fun r10 s11 => some (.inl r10, s11))
set_option maxHeartbeats 4000000 in
set_option maxRecDepth 100000 in
theorem mX6_ifBlock (l : Launch) (hfl : l.stackTraces = false) {E : En} {σ μ : Sg} {dg : Int64} {a1 : Int32} {a2 : Int32} {a3 : Int32}  {res : Int32 ⊕ Nat} {σ' : Sg} (hf : fX6_ifBlock a1 a2 a3 σ = some (res, σ')) : vx_Met l yX6_ifBlock [.code yX6_ifBlock cX6_ifBlock 4 (some .int)] (RmX res 7 112) (va_Pc [.ref (eA E 0), .int a1, .int a2, .int a3] (Wd E σ μ dg)) (Qxi E σ' μ dg res) (Xx E σ' μ dg res) (xc res) (xs6 res) (eP E) := by
  refine ss_ofX (by decide) (Nat.le_of_ble_eq_true rfl) (fun p e s m below meth c hx hb hr hlk hml hown hex hK hW ls hl => ?_)
  have hown : s.vm.findClass RX6 = some m.cls := hown
  have hl : lv_has ls 4 [(0, .ref (eA E 0)), (1, .int a1), (2, .int a2), (3, .int a3)] := hl
  unfold fX6_ifBlock at hf
  refine lv_aload_n hx hb dX6_ifBlock_0 rfl (lv_at hl 0 rfl) ?_
  refine lv_iload_n hx hb dX6_ifBlock_1 rfl (lv_at hl 1 rfl) ?_
  refine lv_iload_n hx hb dX6_ifBlock_2 rfl (lv_at hl 2 rfl) ?_
  rcases bx_inv hf with ⟨r2, s3, q1, hf⟩ | ⟨ex4, s5, q1, hf⟩
  rotate_left
  · cases hf
    exact ss_xthrVv (As := [.int a1, .int a2]) hx hb hlk hex hml hown hK hW kb_X6_refuseUnlessSamples kM_RX6_305 rfl (okq_lt (by decide)) (c_fx (by decide)) (mX6_refuseUnlessSamples l hfl (a1 := a1) (a2 := a2) q1) rfl dX6_ifBlock_3 rfl hl.1 (Nat.le_of_ble_eq_true rfl) ⟨Nat.le_of_ble_eq_true rfl, Nat.le_of_ble_eq_true rfl⟩ ⟨Nat.le_refl 1, Nat.le_refl 6⟩
  refine ss_xcallVv (As := [.int a1, .int a2]) hx hb hml hown hK hW kb_X6_refuseUnlessSamples kM_RX6_305 rfl (okq_lt (by decide)) (c_fx (by decide)) (mX6_refuseUnlessSamples l hfl (a1 := a1) (a2 := a2) q1) rfl dX6_ifBlock_3 rfl hl.1 (Nat.le_of_ble_eq_true rfl) ⟨Nat.le_of_ble_eq_true rfl, Nat.le_of_ble_eq_true rfl⟩ ⟨Nat.zero_le _, Nat.zero_le _⟩ (fun H locs hW => ?_)
  refine lv_iload_n hx hb dX6_ifBlock_6 rfl (lv_at hl 3 rfl) ?_
  obtain ⟨r7, q6, hf⟩ := bd_inv hf
  refine ss_callSi (As := [.int a3]) hx hb hml hown hK hW kb_X6_isNumber kM_RX6_241 (mX6_isNumber l (a0 := a3) q6) rfl dX6_ifBlock_7 rfl hl.1 (Nat.le_of_ble_eq_true rfl) ⟨Nat.le_of_ble_eq_true rfl, Nat.le_of_ble_eq_true rfl⟩ ⟨Nat.zero_le _, Nat.zero_le _⟩ (fun H locs hW => ?_)
  refine lv_if_ne (tgt := 24) hx hb dX6_ifBlock_10 (by decide) (fun c8 => ?_) (fun c8 => ?_)
  · have hf := br_n c8 hf
    refine lv_aload_n hx hb dX6_ifBlock_24 rfl (lv_at hl 0 rfl) ?_
    refine g_X_coder hx hb hown hK hW kF_RX6_41 dX6_ifBlock_25 ?_
    refine lv_aload_n hx hb dX6_ifBlock_28 rfl (lv_at hl 0 rfl) ?_
    refine g_X_now hx hb hown hK hW kF_RX6_12 dX6_ifBlock_29 ?_
    refine lv_iload_n hx hb dX6_ifBlock_32 rfl (lv_at hl 1 rfl) ?_
    refine lv_iload_n hx hb dX6_ifBlock_33 rfl (lv_at hl 1 rfl) ?_
    refine lv_iload_n hx hb dX6_ifBlock_34 rfl (lv_at hl 2 rfl) ?_
    refine lv_iadd hx hb dX6_ifBlock_35 ?_
    refine lv_iload_n hx hb dX6_ifBlock_36 rfl (lv_at hl 3 rfl) ?_
    obtain ⟨r10, s11, q9, hf⟩ := bd2_inv hf
    refine ss_callVi (As := [.ref (eA E (10 + 8 * 0)), .int a1, .int (a1 + a2), .int a3]) hx hb hml hown hK hW kb_X1_errorAsBlock kM_RX6_308 rfl (okq_lt (by decide)) (c_fx (by decide)) (mX1_errorAsBlock l (i1 := 0) (a2 := a1) (a3 := (a1 + a2)) (a4 := a3) (by omega) q9) rfl dX6_ifBlock_37 rfl hl.1 (Nat.le_of_ble_eq_true rfl) ⟨Nat.le_of_ble_eq_true rfl, Nat.le_of_ble_eq_true rfl⟩ ⟨Nat.zero_le _, Nat.zero_le _⟩ (fun H locs hW => ?_)
    cases hf
    exact ss_ixret hx hb hr hlk hW dX6_ifBlock_40
  · have hf := br_p c8 hf
    cases hf
    exact ss_throwW hx hb hfl hlk hex hml hl.1 hown hK hW (k0 := 0) (text := "a step's number is 0 to 48") (by simp [strs]) kL_RX6_62 kT_0_66 dX6_ifBlock_13 dX6_ifBlock_16 dX6_ifBlock_17 dX6_ifBlock_20 dX6_ifBlock_23 (Nat.le_of_ble_eq_true rfl) (Nat.le_of_ble_eq_true rfl) ⟨Nat.le_refl 1, Nat.le_refl 6⟩
def fX6_bestStep (a1 : Int32) (a2 : Int32) (σ : Sg) : Option ((Int32 ⊕ Nat) × Sg) := bx (fX6_refuseUnlessSamples a1 a2 σ) fun r2 s3 => bd2 (fX1_bestStart 0 a1 (a1 + a2) s3) fun r7 s8 => some (.inl r7, s8)
set_option maxHeartbeats 4000000 in
set_option maxRecDepth 100000 in
theorem mX6_bestStep (l : Launch) (hfl : l.stackTraces = false) {E : En} {σ μ : Sg} {dg : Int64} {a1 : Int32} {a2 : Int32}  {res : Int32 ⊕ Nat} {σ' : Sg} (hf : fX6_bestStep a1 a2 σ = some (res, σ')) : vx_Met l yX6_bestStep [.code yX6_bestStep cX6_bestStep 3 (some .int)] (RmX res 7 119) (va_Pc [.ref (eA E 0), .int a1, .int a2] (Wd E σ μ dg)) (Qxi E σ' μ dg res) (Xx E σ' μ dg res) (xc res) (xs6 res) (eP E) := by
  refine ss_ofX (by decide) (Nat.le_of_ble_eq_true rfl) (fun p e s m below meth c hx hb hr hlk hml hown hex hK hW ls hl => ?_)
  have hown : s.vm.findClass RX6 = some m.cls := hown
  have hl : lv_has ls 3 [(0, .ref (eA E 0)), (1, .int a1), (2, .int a2)] := hl
  unfold fX6_bestStep at hf
  refine lv_aload_n hx hb dX6_bestStep_0 rfl (lv_at hl 0 rfl) ?_
  refine lv_iload_n hx hb dX6_bestStep_1 rfl (lv_at hl 1 rfl) ?_
  refine lv_iload_n hx hb dX6_bestStep_2 rfl (lv_at hl 2 rfl) ?_
  rcases bx_inv hf with ⟨r2, s3, q1, hf⟩ | ⟨ex4, s5, q1, hf⟩
  rotate_left
  · cases hf
    exact ss_xthrVv (As := [.int a1, .int a2]) hx hb hlk hex hml hown hK hW kb_X6_refuseUnlessSamples kM_RX6_305 rfl (okq_lt (by decide)) (c_fx (by decide)) (mX6_refuseUnlessSamples l hfl (a1 := a1) (a2 := a2) q1) rfl dX6_bestStep_3 rfl hl.1 (Nat.le_of_ble_eq_true rfl) ⟨Nat.le_of_ble_eq_true rfl, Nat.le_of_ble_eq_true rfl⟩ ⟨Nat.le_refl 1, Nat.le_refl 6⟩
  refine ss_xcallVv (As := [.int a1, .int a2]) hx hb hml hown hK hW kb_X6_refuseUnlessSamples kM_RX6_305 rfl (okq_lt (by decide)) (c_fx (by decide)) (mX6_refuseUnlessSamples l hfl (a1 := a1) (a2 := a2) q1) rfl dX6_bestStep_3 rfl hl.1 (Nat.le_of_ble_eq_true rfl) ⟨Nat.le_of_ble_eq_true rfl, Nat.le_of_ble_eq_true rfl⟩ ⟨Nat.zero_le _, Nat.zero_le _⟩ (fun H locs hW => ?_)
  refine lv_aload_n hx hb dX6_bestStep_6 rfl (lv_at hl 0 rfl) ?_
  refine g_X_coder hx hb hown hK hW kF_RX6_41 dX6_bestStep_7 ?_
  refine lv_aload_n hx hb dX6_bestStep_10 rfl (lv_at hl 0 rfl) ?_
  refine g_X_now hx hb hown hK hW kF_RX6_12 dX6_bestStep_11 ?_
  refine lv_iload_n hx hb dX6_bestStep_14 rfl (lv_at hl 1 rfl) ?_
  refine lv_iload_n hx hb dX6_bestStep_15 rfl (lv_at hl 1 rfl) ?_
  refine lv_iload_n hx hb dX6_bestStep_16 rfl (lv_at hl 2 rfl) ?_
  refine lv_iadd hx hb dX6_bestStep_17 ?_
  obtain ⟨r7, s8, q6, hf⟩ := bd2_inv hf
  refine ss_callVi (As := [.ref (eA E (10 + 8 * 0)), .int a1, .int (a1 + a2)]) hx hb hml hown hK hW kb_X1_bestStart kM_RX6_312 rfl (okq_lt (by decide)) (c_fx (by decide)) (mX1_bestStart l (i1 := 0) (a2 := a1) (a3 := (a1 + a2)) (by omega) q6) rfl dX6_bestStep_18 rfl hl.1 (Nat.le_of_ble_eq_true rfl) ⟨Nat.le_of_ble_eq_true rfl, Nat.le_of_ble_eq_true rfl⟩ ⟨Nat.zero_le _, Nat.zero_le _⟩ (fun H locs hW => ?_)
  cases hf
  exact ss_ixret hx hb hr hlk hW dX6_bestStep_21
def fX6_refuseUnlessSlot (a1 : Int32) (σ : Sg) : Option ((Unit ⊕ Nat) × Sg) := if a1 < 0 then (some (.inr 0, σ)) else (if a1 < 2 then (some (.inl (), σ)) else (some (.inr 0, σ)))
set_option maxHeartbeats 4000000 in
set_option maxRecDepth 100000 in
theorem mX6_refuseUnlessSlot (l : Launch) (hfl : l.stackTraces = false) {E : En} {σ μ : Sg} {dg : Int64} {a1 : Int32}  {res : Unit ⊕ Nat} {σ' : Sg} (hf : fX6_refuseUnlessSlot a1 σ = some (res, σ')) : vx_Met l yX6_refuseUnlessSlot [.code yX6_refuseUnlessSlot cX6_refuseUnlessSlot 2 none] (RmX res 6 90) (va_Pc [.ref (eA E 0), .int a1] (Wd E σ μ dg)) (Qxv E σ' μ dg res) (Xx E σ' μ dg res) (xc res) (xs6 res) (eP E) := by
  refine ss_ofX (by decide) (Nat.le_of_ble_eq_true rfl) (fun p e s m below meth c hx hb hr hlk hml hown hex hK hW ls hl => ?_)
  have hown : s.vm.findClass RX6 = some m.cls := hown
  have hl : lv_has ls 2 [(0, .ref (eA E 0)), (1, .int a1)] := hl
  unfold fX6_refuseUnlessSlot at hf
  refine lv_iload_n hx hb dX6_refuseUnlessSlot_0 rfl (lv_at hl 1 rfl) ?_
  refine lv_if_lt (tgt := 9) hx hb dX6_refuseUnlessSlot_1 (by decide) (fun c1 => ?_) (fun c1 => ?_)
  · have hf := br_p c1 hf
    cases hf
    exact ss_throwW hx hb hfl hlk hex hml hl.1 hown hK hW (k0 := 0) (text := "a slot is 0 or 1") (by simp [strs]) kL_RX6_62 kT_0_66 dX6_refuseUnlessSlot_9 dX6_refuseUnlessSlot_12 dX6_refuseUnlessSlot_13 dX6_refuseUnlessSlot_16 dX6_refuseUnlessSlot_19 (Nat.le_of_ble_eq_true rfl) (Nat.le_of_ble_eq_true rfl) ⟨Nat.le_refl 1, Nat.le_refl 6⟩
  · have hf := br_n c1 hf
    refine lv_iload_n hx hb dX6_refuseUnlessSlot_4 rfl (lv_at hl 1 rfl) ?_
    refine lv_iconst (v := 2) hx hb dX6_refuseUnlessSlot_5 (by decide) ?_
    refine lv_icmp_lt (tgt := 20) hx hb dX6_refuseUnlessSlot_6 (by decide) (fun c2 => ?_) (fun c2 => ?_)
    · have hf := br_p c2 hf
      cases hf
      exact ss_vxret hx hb hr hlk hW dX6_refuseUnlessSlot_20
    · have hf := br_n c2 hf
      cases hf
      exact ss_throwW hx hb hfl hlk hex hml hl.1 hown hK hW (k0 := 0) (text := "a slot is 0 or 1") (by simp [strs]) kL_RX6_62 kT_0_66 dX6_refuseUnlessSlot_9 dX6_refuseUnlessSlot_12 dX6_refuseUnlessSlot_13 dX6_refuseUnlessSlot_16 dX6_refuseUnlessSlot_19 (Nat.le_of_ble_eq_true rfl) (Nat.le_of_ble_eq_true rfl) ⟨Nat.le_refl 1, Nat.le_refl 6⟩
def fX6_keep (a1 : Int32) (σ : Sg) : Option ((Int32 ⊕ Nat) × Sg) := bx (fX6_refuseUnlessSlot a1 σ) fun r2 s3 => gd (¬ (a1 < 0 ∨ 2 ≤ (a1).toNatClampNeg)) <| nm (1 + (a1).toNatClampNeg) fun j7 => gd (j7 < 9) <| bd (fX4_copyFrom j7 0 s3) fun s9 => gd (¬ (a1 < 0 ∨ 2 ≤ (a1).toNatClampNeg)) <| nm (up2 s9 4 ((a1).toNatClampNeg) 1) fun s11 => some (.inl (s11 (10 + 8 * 0) 0), s11)
set_option maxHeartbeats 4000000 in
set_option maxRecDepth 100000 in
theorem mX6_keep (l : Launch) (hfl : l.stackTraces = false) {E : En} {σ μ : Sg} {dg : Int64} {a1 : Int32}  {res : Int32 ⊕ Nat} {σ' : Sg} (hf : fX6_keep a1 σ = some (res, σ')) : vx_Met l yX6_keep [.code yX6_keep cX6_keep 2 (some .int)] (RmX res 7 111) (va_Pc [.ref (eA E 0), .int a1] (Wd E σ μ dg)) (Qxi E σ' μ dg res) (Xx E σ' μ dg res) (xc res) (xs6 res) (eP E) := by
  refine ss_ofX (by decide) (Nat.le_of_ble_eq_true rfl) (fun p e s m below meth c hx hb hr hlk hml hown hex hK hW ls hl => ?_)
  have hown : s.vm.findClass RX6 = some m.cls := hown
  have hl : lv_has ls 2 [(0, .ref (eA E 0)), (1, .int a1)] := hl
  unfold fX6_keep at hf
  refine lv_aload_n hx hb dX6_keep_0 rfl (lv_at hl 0 rfl) ?_
  refine lv_iload_n hx hb dX6_keep_1 rfl (lv_at hl 1 rfl) ?_
  rcases bx_inv hf with ⟨r2, s3, q1, hf⟩ | ⟨ex4, s5, q1, hf⟩
  rotate_left
  · cases hf
    exact ss_xthrVv (As := [.int a1]) hx hb hlk hex hml hown hK hW kb_X6_refuseUnlessSlot kM_RX6_227 rfl (okq_lt (by decide)) (c_fx (by decide)) (mX6_refuseUnlessSlot l hfl (a1 := a1) q1) rfl dX6_keep_2 rfl hl.1 (Nat.le_of_ble_eq_true rfl) ⟨Nat.le_of_ble_eq_true rfl, Nat.le_of_ble_eq_true rfl⟩ ⟨Nat.le_refl 1, Nat.le_refl 6⟩
  refine ss_xcallVv (As := [.int a1]) hx hb hml hown hK hW kb_X6_refuseUnlessSlot kM_RX6_227 rfl (okq_lt (by decide)) (c_fx (by decide)) (mX6_refuseUnlessSlot l hfl (a1 := a1) q1) rfl dX6_keep_2 rfl hl.1 (Nat.le_of_ble_eq_true rfl) ⟨Nat.le_of_ble_eq_true rfl, Nat.le_of_ble_eq_true rfl⟩ ⟨Nat.zero_le _, Nat.zero_le _⟩ (fun H locs hW => ?_)
  refine lv_aload_n hx hb dX6_keep_5 rfl (lv_at hl 0 rfl) ?_
  refine g_X_slots hx hb hown hK hW kF_RX6_23 dX6_keep_6 ?_
  refine lv_iload_n hx hb dX6_keep_9 rfl (lv_at hl 1 rfl) ?_
  obtain ⟨hk6, hf⟩ := gd_inv hf
  refine ss_aald hx hb hK hW (q := 3) (b := eA _ (10 + 8 * (1 + (a1).toNatClampNeg))) (okq_lt (by decide)) (c_fx (by decide)) hk6 rfl dX6_keep_10 ?_
  obtain ⟨j7, ej7⟩ : ∃ y : Nat, y = (1 + (a1).toNatClampNeg) := ⟨_, rfl⟩
  have hf := nm_use ej7 hf
  rw [← ej7]
  obtain ⟨hj7, hf⟩ := gd_inv hf
  refine lv_aload_n hx hb dX6_keep_11 rfl (lv_at hl 0 rfl) ?_
  refine g_X_now hx hb hown hK hW kF_RX6_12 dX6_keep_12 ?_
  obtain ⟨s9, q8, hf⟩ := bd_inv hf
  refine ss_callVv (As := [.ref (eA E (10 + 8 * 0))]) hx hb hml hown hK hW kb_X4_copyFrom kM_RX6_230 rfl (okq_lt (by omega)) (c_st (i := j7) (by omega) 0 (by decide)) (mX4_copyFrom l (i0 := j7) (i1 := 0) (by omega) (by omega) q8) rfl dX6_keep_15 rfl hl.1 (Nat.le_of_ble_eq_true rfl) ⟨Nat.le_of_ble_eq_true rfl, Nat.le_of_ble_eq_true rfl⟩ ⟨Nat.zero_le _, Nat.zero_le _⟩ (fun H locs hW => ?_)
  refine lv_aload_n hx hb dX6_keep_18 rfl (lv_at hl 0 rfl) ?_
  refine g_X_kept hx hb hown hK hW kF_RX6_27 dX6_keep_19 ?_
  refine lv_iload_n hx hb dX6_keep_22 rfl (lv_at hl 1 rfl) ?_
  refine lv_iconst (v := 1) hx hb dX6_keep_23 (by decide) ?_
  obtain ⟨hk10, hf⟩ := gd_inv hf
  refine s_kept hx hb hK hW rfl hk10 (by decide) dX6_keep_24 (fun H locs hW => ?_)
  obtain ⟨s11, es11⟩ : ∃ y : Sg, y = (up2 s9 4 ((a1).toNatClampNeg) 1) := ⟨_, rfl⟩
  have hf := nm_use es11 hf
  rw [← es11] at hW
  refine lv_aload_n hx hb dX6_keep_25 rfl (lv_at hl 0 rfl) ?_
  refine g_X_now hx hb hown hK hW kF_RX6_12 dX6_keep_26 ?_
  refine g_State_many (i := 0) hx hb hown hK hW (by omega) kF_RX6_72 dX6_keep_29 ?_
  cases hf
  exact ss_ixret hx hb hr hlk hW dX6_keep_32
def fX6_undo (σ : Sg) : Option ((Int32 ⊕ Nat) × Sg) := if (σ 1 1) = 0 then (some (.inr 2, σ)) else (bd (fX3_restore 0 σ) fun s3 => nm (up2 s3 (86 + 3 * 0) 3 0) fun s4 => some (.inl (s4 1 1), s4))
set_option maxHeartbeats 4000000 in
set_option maxRecDepth 100000 in
theorem mX6_undo (l : Launch) (hfl : l.stackTraces = false) {E : En} {σ μ : Sg} {dg : Int64}   {res : Int32 ⊕ Nat} {σ' : Sg} (hf : fX6_undo σ = some (res, σ')) : vx_Met l yX6_undo [.code yX6_undo cX6_undo 1 (some .int)] (RmX res 6 124) (va_Pc [.ref (eA E 0)] (Wd E σ μ dg)) (Qxi E σ' μ dg res) (Xx E σ' μ dg res) (xc res) (xs6 res) (eP E) := by
  refine ss_ofX (by decide) (Nat.le_of_ble_eq_true rfl) (fun p e s m below meth c hx hb hr hlk hml hown hex hK hW ls hl => ?_)
  have hown : s.vm.findClass RX6 = some m.cls := hown
  have hl : lv_has ls 1 [(0, .ref (eA E 0))] := hl
  unfold fX6_undo at hf
  refine lv_aload_n hx hb dX6_undo_0 rfl (lv_at hl 0 rfl) ?_
  refine g_X_history hx hb hown hK hW kF_RX6_19 dX6_undo_1 ?_
  refine g_Hist_many hx hb hown hK hW kF_RX6_235 dX6_undo_4 ?_
  refine lv_if_ne (tgt := 20) hx hb dX6_undo_7 (by decide) (fun c1 => ?_) (fun c1 => ?_)
  · have hf := br_n c1 hf
    refine lv_aload_n hx hb dX6_undo_20 rfl (lv_at hl 0 rfl) ?_
    refine g_X_history hx hb hown hK hW kF_RX6_19 dX6_undo_21 ?_
    refine lv_aload_n hx hb dX6_undo_24 rfl (lv_at hl 0 rfl) ?_
    refine g_X_now hx hb hown hK hW kF_RX6_12 dX6_undo_25 ?_
    obtain ⟨s3, q2, hf⟩ := bd_inv hf
    refine ss_callVv (As := [.ref (eA E (10 + 8 * 0))]) hx hb hml hown hK hW kb_X3_restore kM_RX6_238 rfl (okq_lt (by decide)) (c_fx (by decide)) (mX3_restore l (i1 := 0) (by omega) q2) rfl dX6_undo_28 rfl hl.1 (Nat.le_of_ble_eq_true rfl) ⟨Nat.le_of_ble_eq_true rfl, Nat.le_of_ble_eq_true rfl⟩ ⟨Nat.zero_le _, Nat.zero_le _⟩ (fun H locs hW => ?_)
    refine lv_aload_n hx hb dX6_undo_31 rfl (lv_at hl 0 rfl) ?_
    refine g_X_decoder hx hb hown hK hW kF_RX6_48 dX6_undo_32 ?_
    refine lv_iconst (v := 0) hx hb dX6_undo_35 (by decide) ?_
    refine p_Dec_upToDate (i := 0) hx hb hown hK hW (by omega) (by decide) kF_RX6_215 dX6_undo_36 (fun H locs hW => ?_)
    obtain ⟨s4, es4⟩ : ∃ y : Sg, y = (up2 s3 (86 + 3 * 0) 3 0) := ⟨_, rfl⟩
    have hf := nm_use es4 hf
    rw [← es4] at hW
    refine lv_aload_n hx hb dX6_undo_39 rfl (lv_at hl 0 rfl) ?_
    refine g_X_history hx hb hown hK hW kF_RX6_19 dX6_undo_40 ?_
    refine g_Hist_many hx hb hown hK hW kF_RX6_235 dX6_undo_43 ?_
    cases hf
    exact ss_ixret hx hb hr hlk hW dX6_undo_46
  · have hf := br_p c1 hf
    cases hf
    exact ss_throwS hx hb hfl hlk hex hml hl.1 hown hK hW (k0 := 2) (text := "there is no saved state") (by simp [strs]) kL_RX6_119 kT_2_123 dX6_undo_10 dX6_undo_13 dX6_undo_14 dX6_undo_16 dX6_undo_19 (Nat.le_of_ble_eq_true rfl) (Nat.le_of_ble_eq_true rfl) ⟨Nat.le_refl 1, Nat.le_refl 6⟩
def fX6_goBack (a1 : Int32) (σ : Sg) : Option ((Int32 ⊕ Nat) × Sg) := bx (fX6_refuseUnlessSlot a1 σ) fun r2 s3 => gd (¬ (a1 < 0 ∨ 2 ≤ (a1).toNatClampNeg)) <| if (s3 4 (a1).toNatClampNeg) = 0 then (some (.inr 2, s3)) else (bd (fX6_beginChange s3) fun s9 => gd (¬ (a1 < 0 ∨ 2 ≤ (a1).toNatClampNeg)) <| nm (1 + (a1).toNatClampNeg) fun j11 => gd (j11 < 9) <| bd (fX4_copyFrom 0 j11 s9) fun s13 => some (.inl (s13 (10 + 8 * 0) 0), s13))
set_option maxHeartbeats 4000000 in
set_option maxRecDepth 100000 in
theorem mX6_goBack (l : Launch) (hfl : l.stackTraces = false) {E : En} {σ μ : Sg} {dg : Int64} {a1 : Int32}  {res : Int32 ⊕ Nat} {σ' : Sg} (hf : fX6_goBack a1 σ = some (res, σ')) : vx_Met l yX6_goBack [.code yX6_goBack cX6_goBack 2 (some .int)] (RmX res 7 144) (va_Pc [.ref (eA E 0), .int a1] (Wd E σ μ dg)) (Qxi E σ' μ dg res) (Xx E σ' μ dg res) (xc res) (xs6 res) (eP E) := by
  refine ss_ofX (by decide) (Nat.le_of_ble_eq_true rfl) (fun p e s m below meth c hx hb hr hlk hml hown hex hK hW ls hl => ?_)
  have hown : s.vm.findClass RX6 = some m.cls := hown
  have hl : lv_has ls 2 [(0, .ref (eA E 0)), (1, .int a1)] := hl
  unfold fX6_goBack at hf
  refine lv_aload_n hx hb dX6_goBack_0 rfl (lv_at hl 0 rfl) ?_
  refine lv_iload_n hx hb dX6_goBack_1 rfl (lv_at hl 1 rfl) ?_
  rcases bx_inv hf with ⟨r2, s3, q1, hf⟩ | ⟨ex4, s5, q1, hf⟩
  rotate_left
  · cases hf
    exact ss_xthrVv (As := [.int a1]) hx hb hlk hex hml hown hK hW kb_X6_refuseUnlessSlot kM_RX6_227 rfl (okq_lt (by decide)) (c_fx (by decide)) (mX6_refuseUnlessSlot l hfl (a1 := a1) q1) rfl dX6_goBack_2 rfl hl.1 (Nat.le_of_ble_eq_true rfl) ⟨Nat.le_of_ble_eq_true rfl, Nat.le_of_ble_eq_true rfl⟩ ⟨Nat.le_refl 1, Nat.le_refl 6⟩
  refine ss_xcallVv (As := [.int a1]) hx hb hml hown hK hW kb_X6_refuseUnlessSlot kM_RX6_227 rfl (okq_lt (by decide)) (c_fx (by decide)) (mX6_refuseUnlessSlot l hfl (a1 := a1) q1) rfl dX6_goBack_2 rfl hl.1 (Nat.le_of_ble_eq_true rfl) ⟨Nat.le_of_ble_eq_true rfl, Nat.le_of_ble_eq_true rfl⟩ ⟨Nat.zero_le _, Nat.zero_le _⟩ (fun H locs hW => ?_)
  refine lv_aload_n hx hb dX6_goBack_5 rfl (lv_at hl 0 rfl) ?_
  refine g_X_kept hx hb hown hK hW kF_RX6_27 dX6_goBack_6 ?_
  refine lv_iload_n hx hb dX6_goBack_9 rfl (lv_at hl 1 rfl) ?_
  obtain ⟨hk6, hf⟩ := gd_inv hf
  refine l_kept hx hb hK hW rfl hk6 dX6_goBack_10 ?_
  refine lv_if_ne (tgt := 24) hx hb dX6_goBack_11 (by decide) (fun c7 => ?_) (fun c7 => ?_)
  · have hf := br_n c7 hf
    refine lv_aload_n hx hb dX6_goBack_24 rfl (lv_at hl 0 rfl) ?_
    obtain ⟨s9, q8, hf⟩ := bd_inv hf
    refine ss_callVv (As := []) hx hb hml hown hK hW kb_X6_beginChange kM_RX6_69 rfl (okq_lt (by decide)) (c_fx (by decide)) (mX6_beginChange l  q8) rfl dX6_goBack_25 rfl hl.1 (Nat.le_of_ble_eq_true rfl) ⟨Nat.le_of_ble_eq_true rfl, Nat.le_of_ble_eq_true rfl⟩ ⟨Nat.zero_le _, Nat.zero_le _⟩ (fun H locs hW => ?_)
    refine lv_aload_n hx hb dX6_goBack_28 rfl (lv_at hl 0 rfl) ?_
    refine g_X_now hx hb hown hK hW kF_RX6_12 dX6_goBack_29 ?_
    refine lv_aload_n hx hb dX6_goBack_32 rfl (lv_at hl 0 rfl) ?_
    refine g_X_slots hx hb hown hK hW kF_RX6_23 dX6_goBack_33 ?_
    refine lv_iload_n hx hb dX6_goBack_36 rfl (lv_at hl 1 rfl) ?_
    obtain ⟨hk10, hf⟩ := gd_inv hf
    refine ss_aald hx hb hK hW (q := 3) (b := eA _ (10 + 8 * (1 + (a1).toNatClampNeg))) (okq_lt (by decide)) (c_fx (by decide)) hk10 rfl dX6_goBack_37 ?_
    obtain ⟨j11, ej11⟩ : ∃ y : Nat, y = (1 + (a1).toNatClampNeg) := ⟨_, rfl⟩
    have hf := nm_use ej11 hf
    rw [← ej11]
    obtain ⟨hj11, hf⟩ := gd_inv hf
    obtain ⟨s13, q12, hf⟩ := bd_inv hf
    refine ss_callVv (As := [.ref (eA E (10 + 8 * j11))]) hx hb hml hown hK hW kb_X4_copyFrom kM_RX6_230 rfl (okq_lt (by omega)) (c_st (i := 0) (by omega) 0 (by decide)) (mX4_copyFrom l (i0 := 0) (i1 := j11) (by omega) (by omega) q12) rfl dX6_goBack_38 rfl hl.1 (Nat.le_of_ble_eq_true rfl) ⟨Nat.le_of_ble_eq_true rfl, Nat.le_of_ble_eq_true rfl⟩ ⟨Nat.zero_le _, Nat.zero_le _⟩ (fun H locs hW => ?_)
    refine lv_aload_n hx hb dX6_goBack_41 rfl (lv_at hl 0 rfl) ?_
    refine g_X_now hx hb hown hK hW kF_RX6_12 dX6_goBack_42 ?_
    refine g_State_many (i := 0) hx hb hown hK hW (by omega) kF_RX6_72 dX6_goBack_45 ?_
    cases hf
    exact ss_ixret hx hb hr hlk hW dX6_goBack_48
  · have hf := br_p c7 hf
    cases hf
    exact ss_throwS hx hb hfl hlk hex hml hl.1 hown hK hW (k0 := 2) (text := "there is no snapshot in the slot") (by simp [strs]) kL_RX6_119 kT_2_123 dX6_goBack_14 dX6_goBack_17 dX6_goBack_18 dX6_goBack_20 dX6_goBack_23 (Nat.le_of_ble_eq_true rfl) (Nat.le_of_ble_eq_true rfl) ⟨Nat.le_refl 1, Nat.le_refl 6⟩
