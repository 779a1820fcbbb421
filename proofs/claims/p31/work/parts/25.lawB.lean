def fL_law_b210  (x4 : Int32) (x5 : Int32) (x6 : Int32) (k0 : Int32) (σ : Sg) : Option (Int32 × Sg) := if k0 = 0 then (some (0, σ)) else (bo (fX6_wave 3 σ) fun r3 s4 => if r3 = x4 then (bo (fX6_goBack 0 s4) fun r7 s8 => if r7 = x4 then (bo (fX6_count 4 s8) fun r11 s12 => if r11 = x5 then (bo (fX6_count 9 s12) fun r15 s16 => if r15 = x6 then (bd2 (fL_holds s16) fun r19 s20 => if r19 = 0 then (some (0, s20)) else (some (1, s20))) else (some (0, s16))) else (some (0, s12))) else (some (0, s8))) else (some (0, s4)))
def fL_law_b209  (x4 : Int32) (x5 : Int32) (x6 : Int32) (σ : Sg) : Option (Int32 × Sg) := fL_law_b210 x4 x5 x6 0 σ
def fL_law_b115  (x2 : Int32) (σ : Sg) : Option (Int32 × Sg) := bo (fX6_count 0 σ) fun r23 s24 => bo (fX6_count 4 s24) fun r26 s27 => bo (fX6_count 9 s27) fun r29 s30 => if x2 = 0 then (fL_law_b209 r23 r26 r29 s30) else (bo (fX6_keep 0 s30) fun r33 s34 => if r33 = r23 then (bo (fX6_add 1 2047 5 s34) fun r37 s38 => if r37 < 0 then (fL_law_b209 r23 r26 r29 s38) else (bd2 (fX6_code s38) fun r41 s42 => if r41 ≤ 0 then (fL_law_b209 r23 r26 r29 s42) else (bo (fX6_undo s42) fun r45 s46 => if r45 < 0 then (fL_law_b209 r23 r26 r29 s46) else (bo (fX6_undo s46) fun r49 s50 => if r49 < 0 then (fL_law_b209 r23 r26 r29 s50) else (bo (fX6_count 4 s50) fun r53 s54 => if r53 = r26 then (bo (fX6_count 9 s54) fun r57 s58 => if r57 = r29 then (fL_law_b210 r23 r26 r29 1 s58) else (fL_law_b209 r23 r26 r29 s58)) else (fL_law_b209 r23 r26 r29 s54)))))) else (fL_law_b209 r23 r26 r29 s34))
def fL_law_L61 (L : Nat) (xs : Nat → Int32) (n : Nat) (x2 : Int32) (x3 : Int32) (x4 : Int32) (σ : Sg) : Option (Int32 × Sg) := match n with
  | 0 => none
  | n + 1 => if x3 ≤ x4 then (fL_law_b115 x2 σ) else (if x2 = 0 then (fL_law_b115 x2 σ) else (gd (¬ (2 * x4) < 0) <| nm (cellF L xs (2 * x4)) fun y63 => gd (¬ ((2 * x4) + 1) < 0) <| nm (cellF L xs ((2 * x4) + 1)) fun y65 => bd2 (fL_change y63 y65 σ) fun r67 s68 => if r67 = 0 then (nm (x4 + 1) fun x4_70 => (fun x2 x3 x4 σ => fL_law_L61 L xs n x2 x3 x4 σ) 0 x3 x4_70 s68) else (bd2 (fL_holds s68) fun r72 s73 => if r72 = 0 then (nm (x4 + 1) fun x4_75 => (fun x2 x3 x4 σ => fL_law_L61 L xs n x2 x3 x4 σ) 0 x3 x4_75 s73) else (nm (x4 + 1) fun x4_76 => (fun x2 x3 x4 σ => fL_law_L61 L xs n x2 x3 x4 σ) 1 x3 x4_76 s73))))
def fL_law_b38 (L : Nat) (xs : Nat → Int32) (k0 : Int32) (σ : Sg) : Option (Int32 × Sg) := if ((Int32.ofNat L) / 2) ≤ 24 then (nm ((Int32.ofNat L) / 2) fun x3_78 => fL_law_L61 L xs 80 k0 x3_78 0 σ) else (fL_law_L61 L xs 80 k0 24 0 σ)
def fL_law_b37 (L : Nat) (xs : Nat → Int32) (σ : Sg) : Option (Int32 × Sg) := fL_law_b38 L xs 0 σ
def fL_law (L : Nat) (xs : Nat → Int32) (σ : Sg) : Option (Int32 × Sg) := bd2 (fL_holds σ) fun r80 s81 => if r80 = 0 then (fL_law_b37 L xs s81) else (bd2 (fX6_loudness s81) fun r84 s85 => if (Op.cmpValue (FP.fcmp r84 FP.fconst0) .l) = 0 then (bo (fX6_count 11 s85) fun r88 s89 => if r88 = 0 then (fL_law_b38 L xs 1 s89) else (fL_law_b37 L xs s89)) else (fL_law_b37 L xs s85))
set_option maxHeartbeats 4000000 in
set_option maxRecDepth 100000 in
theorem law_main {p : Program} {e : Env} {s : State} {m : MethodId} {below : List Frame} {meth : Method} {c : Code} {H : Heap} {locs : List Loc} {ls : Array Slot} (l : Launch) (hfl : l.stackTraces = false) {E : En} {σ μ : Sg} {dg : Int64} (hX0 : eX E = 0) {b L : Nat} {xs : Nat → Int32} {σ' : Sg} (hf : fL_law L xs σ = some (1, σ')) (hx : p.tables.exec = Jvm.exec) (hb : c.code = code) (hr : meth.sig.returnType = ret) (hlk : meth.locks = false) (hml : c.maxLocals = 7) (hown : s.vm.findClass RL = some m.cls) (hB : s.heap.size = eB E) (hL : L ≤ 260) (hbl : b < s.heap.size) (hX : va_X b L xs s s.heap) (hK : Ks E s) (hW : Wk E σ μ dg s H locs) (hl : lv_has ls 7 [(1, .ref (eA E 0)), (0, .ref b)]) : W p l e room_1 s m #[Value.ref b] below meth c H locs 91 3077 (lw_Z below #[Value.ref b] s) (F0 m 8 ls []) := by
  have hbA : ¬ eP E b := fun q => by have q1 : eB E ≤ b := q; omega
  unfold fL_law at hf
  have h210 : ∀ (x4 : Int32) (x5 : Int32) (x6 : Int32) (k0 : Int32) (σ : Sg) (H : Heap) (locs : List Loc) (ls : Array Slot), Wk E σ μ dg s H locs → lv_has ls 7 [(1, .ref (eA E 0)), (4, .int x4), (5, .int x5), (6, .int x6)] → fL_law_b210 x4 x5 x6 k0 σ = some (1, σ') → W p l e room_1 s m #[Value.ref b] below meth c H locs 300 20000 (lw_Z below #[Value.ref b] s) (F0 m 210 ls [.int k0]) := by
    intro x4 x5 x6 k0 σ  H locs ls hW hl hf
    unfold fL_law_b210 at hf
    refine lv_istore_n (lv' := [(2, .int k0), (1, .ref (eA E 0)), (4, .int x4), (5, .int x5), (6, .int x6)]) hx hb dL_law_210 rfl hl (by decide) rfl (fun ls hl => ?_)
    refine lv_iload_n hx hb dL_law_211 rfl (lv_at hl 0 rfl) ?_
    refine lv_if_eq (tgt := 267) hx hb dL_law_212 (by decide) (fun c1 => ?_) (fun c1 => ?_)
    · have hf := br_p c1 hf
      refine lv_iconst (v := 0) hx hb dL_law_267 (by decide) ?_
      exact absurd (Prod.mk.inj (Option.some.inj hf)).1 (by decide)
    · have hf := br_n c1 hf
      refine lv_aload_n hx hb dL_law_215 rfl (lv_at hl 1 rfl) ?_
      refine lv_iconst (v := 3) hx hb dL_law_216 (by decide) ?_
      obtain ⟨r3, s4, q2, hf⟩ := bo_inv hf
      refine ss_xcallVi (As := [.int 3]) hx hb hml hown hK hW kb_X6_wave kM_RL_21 rfl (okq_lt (by decide)) (c_fx (by decide)) (mX6_wave l hfl (a1 := 3) q2) rfl dL_law_217 rfl hl.1 (Nat.le_of_ble_eq_true rfl) ⟨Nat.le_of_ble_eq_true rfl, Nat.le_of_ble_eq_true rfl⟩ ⟨Nat.le_trans (show _ ≤ 300 by omega) (Nat.le_of_ble_eq_true rfl), Nat.le_trans (show _ ≤ 20000 by omega) (Nat.le_of_ble_eq_true rfl)⟩ (fun H locs hW => ?_)
      refine lv_iload hx hb dL_law_220 (lv_at hl 2 rfl) ?_
      refine lv_icmp_ne (tgt := 267) hx hb dL_law_222 (by decide) (fun c5 => ?_) (fun c5 => ?_)
      · have hf := br_n c5 hf
        refine lv_iconst (v := 0) hx hb dL_law_267 (by decide) ?_
        exact absurd (Prod.mk.inj (Option.some.inj hf)).1 (by decide)
      · have hf := br_p c5 hf
        refine lv_aload_n hx hb dL_law_225 rfl (lv_at hl 1 rfl) ?_
        refine lv_iconst (v := 0) hx hb dL_law_226 (by decide) ?_
        obtain ⟨r7, s8, q6, hf⟩ := bo_inv hf
        refine ss_xcallVi (As := [.int 0]) hx hb hml hown hK hW kb_X6_goBack kM_RL_110 rfl (okq_lt (by decide)) (c_fx (by decide)) (mX6_goBack l hfl (a1 := 0) q6) rfl dL_law_227 rfl hl.1 (Nat.le_of_ble_eq_true rfl) ⟨Nat.le_of_ble_eq_true rfl, Nat.le_of_ble_eq_true rfl⟩ ⟨Nat.le_trans (show _ ≤ 300 by omega) (Nat.le_of_ble_eq_true rfl), Nat.le_trans (show _ ≤ 20000 by omega) (Nat.le_of_ble_eq_true rfl)⟩ (fun H locs hW => ?_)
        refine lv_iload hx hb dL_law_230 (lv_at hl 2 rfl) ?_
        refine lv_icmp_ne (tgt := 267) hx hb dL_law_232 (by decide) (fun c9 => ?_) (fun c9 => ?_)
        · have hf := br_n c9 hf
          refine lv_iconst (v := 0) hx hb dL_law_267 (by decide) ?_
          exact absurd (Prod.mk.inj (Option.some.inj hf)).1 (by decide)
        · have hf := br_p c9 hf
          refine lv_aload_n hx hb dL_law_235 rfl (lv_at hl 1 rfl) ?_
          refine lv_iconst (v := 4) hx hb dL_law_236 (by decide) ?_
          obtain ⟨r11, s12, q10, hf⟩ := bo_inv hf
          refine ss_xcallVi (As := [.int 4]) hx hb hml hown hK hW kb_X6_count kM_RL_9 rfl (okq_lt (by decide)) (c_fx (by decide)) (mX6_count l hfl (a1 := 4) q10) rfl dL_law_237 rfl hl.1 (Nat.le_of_ble_eq_true rfl) ⟨Nat.le_of_ble_eq_true rfl, Nat.le_of_ble_eq_true rfl⟩ ⟨Nat.le_trans (show _ ≤ 300 by omega) (Nat.le_of_ble_eq_true rfl), Nat.le_trans (show _ ≤ 20000 by omega) (Nat.le_of_ble_eq_true rfl)⟩ (fun H locs hW => ?_)
          refine lv_iload hx hb dL_law_240 (lv_at hl 3 rfl) ?_
          refine lv_icmp_ne (tgt := 267) hx hb dL_law_242 (by decide) (fun c13 => ?_) (fun c13 => ?_)
          · have hf := br_n c13 hf
            refine lv_iconst (v := 0) hx hb dL_law_267 (by decide) ?_
            exact absurd (Prod.mk.inj (Option.some.inj hf)).1 (by decide)
          · have hf := br_p c13 hf
            refine lv_aload_n hx hb dL_law_245 rfl (lv_at hl 1 rfl) ?_
            refine lv_bipush (v := 9) hx hb dL_law_246 (by decide) ?_
            obtain ⟨r15, s16, q14, hf⟩ := bo_inv hf
            refine ss_xcallVi (As := [.int 9]) hx hb hml hown hK hW kb_X6_count kM_RL_9 rfl (okq_lt (by decide)) (c_fx (by decide)) (mX6_count l hfl (a1 := 9) q14) rfl dL_law_248 rfl hl.1 (Nat.le_of_ble_eq_true rfl) ⟨Nat.le_of_ble_eq_true rfl, Nat.le_of_ble_eq_true rfl⟩ ⟨Nat.le_trans (show _ ≤ 300 by omega) (Nat.le_of_ble_eq_true rfl), Nat.le_trans (show _ ≤ 20000 by omega) (Nat.le_of_ble_eq_true rfl)⟩ (fun H locs hW => ?_)
            refine lv_iload hx hb dL_law_251 (lv_at hl 4 rfl) ?_
            refine lv_icmp_ne (tgt := 267) hx hb dL_law_253 (by decide) (fun c17 => ?_) (fun c17 => ?_)
            · have hf := br_n c17 hf
              refine lv_iconst (v := 0) hx hb dL_law_267 (by decide) ?_
              exact absurd (Prod.mk.inj (Option.some.inj hf)).1 (by decide)
            · have hf := br_p c17 hf
              refine lv_aload_n hx hb dL_law_256 rfl (lv_at hl 1 rfl) ?_
              obtain ⟨r19, s20, q18, hf⟩ := bd2_inv hf
              refine ss_callSi (As := [.ref (eA E 0)]) hx hb hml hown hK hW kb_L_holds kM_RL_90 (mL_holds l hfl  q18) rfl dL_law_257 rfl hl.1 (Nat.le_of_ble_eq_true rfl) ⟨Nat.le_of_ble_eq_true rfl, Nat.le_of_ble_eq_true rfl⟩ ⟨Nat.le_trans (show _ ≤ 300 by omega) (Nat.le_of_ble_eq_true rfl), Nat.le_trans (show _ ≤ 20000 by omega) (Nat.le_of_ble_eq_true rfl)⟩ (fun H locs hW => ?_)
              refine lv_if_eq (tgt := 267) hx hb dL_law_260 (by decide) (fun c21 => ?_) (fun c21 => ?_)
              · have hf := br_p c21 hf
                refine lv_iconst (v := 0) hx hb dL_law_267 (by decide) ?_
                exact absurd (Prod.mk.inj (Option.some.inj hf)).1 (by decide)
              · have hf := br_n c21 hf
                refine lv_iconst (v := 1) hx hb dL_law_263 (by decide) ?_
                refine lv_goto (tgt := 268) hx hb dL_law_264 (by decide) ?_
                exact lw_fin hB hx hb hr hlk hW (by omega) (by omega) dL_law_268
  have h209 : ∀ (x4 : Int32) (x5 : Int32) (x6 : Int32) (σ : Sg) (H : Heap) (locs : List Loc) (ls : Array Slot), Wk E σ μ dg s H locs → lv_has ls 7 [(1, .ref (eA E 0)), (4, .int x4), (5, .int x5), (6, .int x6)] → fL_law_b209 x4 x5 x6 σ = some (1, σ') → W p l e room_1 s m #[Value.ref b] below meth c H locs 300 20000 (lw_Z below #[Value.ref b] s) (F0 m 209 ls []) := by
    intro x4 x5 x6 σ  H locs ls hW hl hf
    unfold fL_law_b209 at hf
    refine lv_iconst (v := 0) hx hb dL_law_209 (by decide) ?_
    exact W.widen (by omega) (by omega) (h210 x4 x5 x6 0 σ _ _ _ hW (lv_sub hl [0, 1, 2, 3] rfl) hf)
  have h115 : ∀ (x2 : Int32) (σ : Sg) (H : Heap) (locs : List Loc) (ls : Array Slot), Wk E σ μ dg s H locs → lv_has ls 7 [(1, .ref (eA E 0)), (2, .int x2)] → fL_law_b115 x2 σ = some (1, σ') → W p l e room_1 s m #[Value.ref b] below meth c H locs 300 20000 (lw_Z below #[Value.ref b] s) (F0 m 115 ls []) := by
    intro x2 σ  H locs ls hW hl hf
    unfold fL_law_b115 at hf
    refine lv_aload_n hx hb dL_law_115 rfl (lv_at hl 0 rfl) ?_
    refine lv_iconst (v := 0) hx hb dL_law_116 (by decide) ?_
    obtain ⟨r23, s24, q22, hf⟩ := bo_inv hf
    refine ss_xcallVi (As := [.int 0]) hx hb hml hown hK hW kb_X6_count kM_RL_9 rfl (okq_lt (by decide)) (c_fx (by decide)) (mX6_count l hfl (a1 := 0) q22) rfl dL_law_117 rfl hl.1 (Nat.le_of_ble_eq_true rfl) ⟨Nat.le_of_ble_eq_true rfl, Nat.le_of_ble_eq_true rfl⟩ ⟨Nat.le_trans (show _ ≤ 300 by omega) (Nat.le_of_ble_eq_true rfl), Nat.le_trans (show _ ≤ 20000 by omega) (Nat.le_of_ble_eq_true rfl)⟩ (fun H locs hW => ?_)
    refine lv_istore (lv' := [(4, .int r23), (1, .ref (eA E 0)), (2, .int x2)]) hx hb dL_law_120 hl (by decide) rfl (fun ls hl => ?_)
    refine lv_aload_n hx hb dL_law_122 rfl (lv_at hl 1 rfl) ?_
    refine lv_iconst (v := 4) hx hb dL_law_123 (by decide) ?_
    obtain ⟨r26, s27, q25, hf⟩ := bo_inv hf
    refine ss_xcallVi (As := [.int 4]) hx hb hml hown hK hW kb_X6_count kM_RL_9 rfl (okq_lt (by decide)) (c_fx (by decide)) (mX6_count l hfl (a1 := 4) q25) rfl dL_law_124 rfl hl.1 (Nat.le_of_ble_eq_true rfl) ⟨Nat.le_of_ble_eq_true rfl, Nat.le_of_ble_eq_true rfl⟩ ⟨Nat.le_trans (show _ ≤ 300 by omega) (Nat.le_of_ble_eq_true rfl), Nat.le_trans (show _ ≤ 20000 by omega) (Nat.le_of_ble_eq_true rfl)⟩ (fun H locs hW => ?_)
    refine lv_istore (lv' := [(5, .int r26), (4, .int r23), (1, .ref (eA E 0)), (2, .int x2)]) hx hb dL_law_127 hl (by decide) rfl (fun ls hl => ?_)
    refine lv_aload_n hx hb dL_law_129 rfl (lv_at hl 2 rfl) ?_
    refine lv_bipush (v := 9) hx hb dL_law_130 (by decide) ?_
    obtain ⟨r29, s30, q28, hf⟩ := bo_inv hf
    refine ss_xcallVi (As := [.int 9]) hx hb hml hown hK hW kb_X6_count kM_RL_9 rfl (okq_lt (by decide)) (c_fx (by decide)) (mX6_count l hfl (a1 := 9) q28) rfl dL_law_132 rfl hl.1 (Nat.le_of_ble_eq_true rfl) ⟨Nat.le_of_ble_eq_true rfl, Nat.le_of_ble_eq_true rfl⟩ ⟨Nat.le_trans (show _ ≤ 300 by omega) (Nat.le_of_ble_eq_true rfl), Nat.le_trans (show _ ≤ 20000 by omega) (Nat.le_of_ble_eq_true rfl)⟩ (fun H locs hW => ?_)
    refine lv_istore (lv' := [(6, .int r29), (5, .int r26), (4, .int r23), (1, .ref (eA E 0)), (2, .int x2)]) hx hb dL_law_135 hl (by decide) rfl (fun ls hl => ?_)
    refine lv_iload_n hx hb dL_law_137 rfl (lv_at hl 4 rfl) ?_
    refine lv_if_eq (tgt := 209) hx hb dL_law_138 (by decide) (fun c31 => ?_) (fun c31 => ?_)
    · have hf := br_p c31 hf
      exact W.widen (by omega) (by omega) (h209 r23 r26 r29 s30 _ _ _ hW (lv_sub hl [3, 2, 1, 0] rfl) hf)
    · have hf := br_n c31 hf
      refine lv_aload_n hx hb dL_law_141 rfl (lv_at hl 3 rfl) ?_
      refine lv_iconst (v := 0) hx hb dL_law_142 (by decide) ?_
      obtain ⟨r33, s34, q32, hf⟩ := bo_inv hf
      refine ss_xcallVi (As := [.int 0]) hx hb hml hown hK hW kb_X6_keep kM_RL_104 rfl (okq_lt (by decide)) (c_fx (by decide)) (mX6_keep l hfl (a1 := 0) q32) rfl dL_law_143 rfl hl.1 (Nat.le_of_ble_eq_true rfl) ⟨Nat.le_of_ble_eq_true rfl, Nat.le_of_ble_eq_true rfl⟩ ⟨Nat.le_trans (show _ ≤ 300 by omega) (Nat.le_of_ble_eq_true rfl), Nat.le_trans (show _ ≤ 20000 by omega) (Nat.le_of_ble_eq_true rfl)⟩ (fun H locs hW => ?_)
      refine lv_iload hx hb dL_law_146 (lv_at hl 2 rfl) ?_
      refine lv_icmp_ne (tgt := 209) hx hb dL_law_148 (by decide) (fun c35 => ?_) (fun c35 => ?_)
      · have hf := br_n c35 hf
        exact W.widen (by omega) (by omega) (h209 r23 r26 r29 s34 _ _ _ hW (lv_sub hl [3, 2, 1, 0] rfl) hf)
      · have hf := br_p c35 hf
        refine lv_aload_n hx hb dL_law_151 rfl (lv_at hl 3 rfl) ?_
        refine lv_iconst (v := 1) hx hb dL_law_152 (by decide) ?_
        refine lv_sipush (v := 2047) hx hb dL_law_153 (by decide) ?_
        refine lv_iconst (v := 5) hx hb dL_law_156 (by decide) ?_
        obtain ⟨r37, s38, q36, hf⟩ := bo_inv hf
        refine ss_xcallVi (As := [.int 1, .int 2047, .int 5]) hx hb hml hown hK hW kb_X6_add kM_RL_30 rfl (okq_lt (by decide)) (c_fx (by decide)) (mX6_add l hfl (a1 := 1) (a2 := 2047) (a3 := 5) q36) rfl dL_law_157 rfl hl.1 (Nat.le_of_ble_eq_true rfl) ⟨Nat.le_of_ble_eq_true rfl, Nat.le_of_ble_eq_true rfl⟩ ⟨Nat.le_trans (show _ ≤ 300 by omega) (Nat.le_of_ble_eq_true rfl), Nat.le_trans (show _ ≤ 20000 by omega) (Nat.le_of_ble_eq_true rfl)⟩ (fun H locs hW => ?_)
        refine lv_if_lt (tgt := 209) hx hb dL_law_160 (by decide) (fun c39 => ?_) (fun c39 => ?_)
        · have hf := br_p c39 hf
          exact W.widen (by omega) (by omega) (h209 r23 r26 r29 s38 _ _ _ hW (lv_sub hl [3, 2, 1, 0] rfl) hf)
        · have hf := br_n c39 hf
          refine lv_aload_n hx hb dL_law_163 rfl (lv_at hl 3 rfl) ?_
          obtain ⟨r41, s42, q40, hf⟩ := bd2_inv hf
          refine ss_callVi (As := []) hx hb hml hown hK hW kb_X6_code kM_RL_50 rfl (okq_lt (by decide)) (c_fx (by decide)) (mX6_code l  q40) rfl dL_law_164 rfl hl.1 (Nat.le_of_ble_eq_true rfl) ⟨Nat.le_of_ble_eq_true rfl, Nat.le_of_ble_eq_true rfl⟩ ⟨Nat.le_trans (show _ ≤ 300 by omega) (Nat.le_of_ble_eq_true rfl), Nat.le_trans (show _ ≤ 20000 by omega) (Nat.le_of_ble_eq_true rfl)⟩ (fun H locs hW => ?_)
          refine lv_if_le (tgt := 209) hx hb dL_law_167 (by decide) (fun c43 => ?_) (fun c43 => ?_)
          · have hf := br_p c43 hf
            exact W.widen (by omega) (by omega) (h209 r23 r26 r29 s42 _ _ _ hW (lv_sub hl [3, 2, 1, 0] rfl) hf)
          · have hf := br_n c43 hf
            refine lv_aload_n hx hb dL_law_170 rfl (lv_at hl 3 rfl) ?_
            obtain ⟨r45, s46, q44, hf⟩ := bo_inv hf
            refine ss_xcallVi (As := []) hx hb hml hown hK hW kb_X6_undo kM_RL_107 rfl (okq_lt (by decide)) (c_fx (by decide)) (mX6_undo l hfl  q44) rfl dL_law_171 rfl hl.1 (Nat.le_of_ble_eq_true rfl) ⟨Nat.le_of_ble_eq_true rfl, Nat.le_of_ble_eq_true rfl⟩ ⟨Nat.le_trans (show _ ≤ 300 by omega) (Nat.le_of_ble_eq_true rfl), Nat.le_trans (show _ ≤ 20000 by omega) (Nat.le_of_ble_eq_true rfl)⟩ (fun H locs hW => ?_)
            refine lv_if_lt (tgt := 209) hx hb dL_law_174 (by decide) (fun c47 => ?_) (fun c47 => ?_)
            · have hf := br_p c47 hf
              exact W.widen (by omega) (by omega) (h209 r23 r26 r29 s46 _ _ _ hW (lv_sub hl [3, 2, 1, 0] rfl) hf)
            · have hf := br_n c47 hf
              refine lv_aload_n hx hb dL_law_177 rfl (lv_at hl 3 rfl) ?_
              obtain ⟨r49, s50, q48, hf⟩ := bo_inv hf
              refine ss_xcallVi (As := []) hx hb hml hown hK hW kb_X6_undo kM_RL_107 rfl (okq_lt (by decide)) (c_fx (by decide)) (mX6_undo l hfl  q48) rfl dL_law_178 rfl hl.1 (Nat.le_of_ble_eq_true rfl) ⟨Nat.le_of_ble_eq_true rfl, Nat.le_of_ble_eq_true rfl⟩ ⟨Nat.le_trans (show _ ≤ 300 by omega) (Nat.le_of_ble_eq_true rfl), Nat.le_trans (show _ ≤ 20000 by omega) (Nat.le_of_ble_eq_true rfl)⟩ (fun H locs hW => ?_)
              refine lv_if_lt (tgt := 209) hx hb dL_law_181 (by decide) (fun c51 => ?_) (fun c51 => ?_)
              · have hf := br_p c51 hf
                exact W.widen (by omega) (by omega) (h209 r23 r26 r29 s50 _ _ _ hW (lv_sub hl [3, 2, 1, 0] rfl) hf)
              · have hf := br_n c51 hf
                refine lv_aload_n hx hb dL_law_184 rfl (lv_at hl 3 rfl) ?_
                refine lv_iconst (v := 4) hx hb dL_law_185 (by decide) ?_
                obtain ⟨r53, s54, q52, hf⟩ := bo_inv hf
                refine ss_xcallVi (As := [.int 4]) hx hb hml hown hK hW kb_X6_count kM_RL_9 rfl (okq_lt (by decide)) (c_fx (by decide)) (mX6_count l hfl (a1 := 4) q52) rfl dL_law_186 rfl hl.1 (Nat.le_of_ble_eq_true rfl) ⟨Nat.le_of_ble_eq_true rfl, Nat.le_of_ble_eq_true rfl⟩ ⟨Nat.le_trans (show _ ≤ 300 by omega) (Nat.le_of_ble_eq_true rfl), Nat.le_trans (show _ ≤ 20000 by omega) (Nat.le_of_ble_eq_true rfl)⟩ (fun H locs hW => ?_)
                refine lv_iload hx hb dL_law_189 (lv_at hl 1 rfl) ?_
                refine lv_icmp_ne (tgt := 209) hx hb dL_law_191 (by decide) (fun c55 => ?_) (fun c55 => ?_)
                · have hf := br_n c55 hf
                  exact W.widen (by omega) (by omega) (h209 r23 r26 r29 s54 _ _ _ hW (lv_sub hl [3, 2, 1, 0] rfl) hf)
                · have hf := br_p c55 hf
                  refine lv_aload_n hx hb dL_law_194 rfl (lv_at hl 3 rfl) ?_
                  refine lv_bipush (v := 9) hx hb dL_law_195 (by decide) ?_
                  obtain ⟨r57, s58, q56, hf⟩ := bo_inv hf
                  refine ss_xcallVi (As := [.int 9]) hx hb hml hown hK hW kb_X6_count kM_RL_9 rfl (okq_lt (by decide)) (c_fx (by decide)) (mX6_count l hfl (a1 := 9) q56) rfl dL_law_197 rfl hl.1 (Nat.le_of_ble_eq_true rfl) ⟨Nat.le_of_ble_eq_true rfl, Nat.le_of_ble_eq_true rfl⟩ ⟨Nat.le_trans (show _ ≤ 300 by omega) (Nat.le_of_ble_eq_true rfl), Nat.le_trans (show _ ≤ 20000 by omega) (Nat.le_of_ble_eq_true rfl)⟩ (fun H locs hW => ?_)
                  refine lv_iload hx hb dL_law_200 (lv_at hl 0 rfl) ?_
                  refine lv_icmp_ne (tgt := 209) hx hb dL_law_202 (by decide) (fun c59 => ?_) (fun c59 => ?_)
                  · have hf := br_n c59 hf
                    exact W.widen (by omega) (by omega) (h209 r23 r26 r29 s58 _ _ _ hW (lv_sub hl [3, 2, 1, 0] rfl) hf)
                  · have hf := br_p c59 hf
                    refine lv_iconst (v := 1) hx hb dL_law_205 (by decide) ?_
                    refine lv_goto (tgt := 210) hx hb dL_law_206 (by decide) ?_
                    exact W.widen (by omega) (by omega) (h210 r23 r26 r29 1 s58 _ _ _ hW (lv_sub hl [3, 2, 1, 0] rfl) hf)
  have h61 : ∀ (n61 : Nat) (x2 : Int32) (x3 : Int32) (x4 : Int32) (σ : Sg) (hn61 : n61 ≤ 80) (H : Heap) (locs : List Loc) (ls : Array Slot), Wk E σ μ dg s H locs → lv_has ls 7 [(0, .ref b), (1, .ref (eA E 0)), (2, .int x2), (3, .int x3), (4, .int x4)] → fL_law_L61 L xs n61 x2 x3 x4 σ = some (1, σ') → W p l e room_1 s m #[Value.ref b] below meth c H locs (300 - n61) (20000 - 64 * n61) (lw_Z below #[Value.ref b] s) (F0 m 61 ls []) := by
    intro n61
    induction n61 with
    | zero =>
      intro x2 x3 x4 σ hn61  H locs ls hW hl hf
      exact absurd hf (by simp [fL_law_L61])
    | succ n61 ih61 =>
      intro x2 x3 x4 σ hn61  H locs ls hW hl hf
      rw [fL_law_L61] at hf
      refine lv_iload hx hb dL_law_61 (lv_at hl 4 rfl) ?_
      refine lv_iload_n hx hb dL_law_63 rfl (lv_at hl 3 rfl) ?_
      refine lv_icmp_ge (tgt := 115) hx hb dL_law_64 (by decide) (fun c60 => ?_) (fun c60 => ?_)
      · have hf := br_p c60 hf
        exact W.widen (by omega) (by omega) (h115 x2 σ _ _ _ hW (lv_sub hl [1, 2] rfl) hf)
      · have hf := br_n c60 hf
        refine lv_iload_n hx hb dL_law_67 rfl (lv_at hl 2 rfl) ?_
        refine lv_if_eq (tgt := 115) hx hb dL_law_68 (by decide) (fun c61 => ?_) (fun c61 => ?_)
        · have hf := br_p c61 hf
          exact W.widen (by omega) (by omega) (h115 x2 σ _ _ _ hW (lv_sub hl [1, 2] rfl) hf)
        · have hf := br_n c61 hf
          refine lv_aload_n hx hb dL_law_71 rfl (lv_at hl 1 rfl) ?_
          refine lv_aload_n hx hb dL_law_72 rfl (lv_at hl 0 rfl) ?_
          refine lv_iconst (v := 2) hx hb dL_law_73 (by decide) ?_
          refine lv_iload hx hb dL_law_74 (lv_at hl 4 rfl) ?_
          refine lv_imul hx hb dL_law_76 ?_
          obtain ⟨hk62, hf⟩ := gd_inv hf
          refine ss_cell hx hb hml hown hK hW hX hbl hbA hL hk62 kb_L_cell kM_RL_97 dL_law_77 hl.1 (Nat.le_of_ble_eq_true rfl) ⟨Nat.le_of_ble_eq_true rfl, Nat.le_of_ble_eq_true rfl⟩ ⟨Nat.le_trans (show _ ≤ 300 by omega) (Nat.le_of_ble_eq_true rfl), Nat.le_trans (show _ ≤ 20000 by omega) (Nat.le_of_ble_eq_true rfl)⟩ (fun H locs hW => ?_)
          refine lv_topi (fun y63 ey63 => ?_)
          have hf := nm_use ey63 hf
          refine lv_aload_n hx hb dL_law_80 rfl (lv_at hl 0 rfl) ?_
          refine lv_iconst (v := 2) hx hb dL_law_81 (by decide) ?_
          refine lv_iload hx hb dL_law_82 (lv_at hl 4 rfl) ?_
          refine lv_imul hx hb dL_law_84 ?_
          refine lv_iconst (v := 1) hx hb dL_law_85 (by decide) ?_
          refine lv_iadd hx hb dL_law_86 ?_
          obtain ⟨hk64, hf⟩ := gd_inv hf
          refine ss_cell hx hb hml hown hK hW hX hbl hbA hL hk64 kb_L_cell kM_RL_97 dL_law_87 hl.1 (Nat.le_of_ble_eq_true rfl) ⟨Nat.le_of_ble_eq_true rfl, Nat.le_of_ble_eq_true rfl⟩ ⟨Nat.le_trans (show _ ≤ 300 by omega) (Nat.le_of_ble_eq_true rfl), Nat.le_trans (show _ ≤ 20000 by omega) (Nat.le_of_ble_eq_true rfl)⟩ (fun H locs hW => ?_)
          refine lv_topi (fun y65 ey65 => ?_)
          have hf := nm_use ey65 hf
          obtain ⟨r67, s68, q66, hf⟩ := bd2_inv hf
          refine ss_callSiK (As := [.ref (eA E 0), .int y63, .int y65]) hx hb hml hown hK hW kb_L_change kM_RL_101 (mL_change l hfl hX0 (a1 := y63) (a2 := y65) q66) rfl dL_law_90 rfl hl.1 (Nat.le_of_ble_eq_true rfl) ⟨Nat.le_of_ble_eq_true rfl, Nat.le_of_ble_eq_true rfl⟩ ⟨Nat.le_trans (show _ ≤ 300 by omega) (Nat.le_of_ble_eq_true rfl), Nat.le_trans (show _ ≤ 20000 by omega) (Nat.le_of_ble_eq_true rfl)⟩ (fun H locs hW => ?_)
          refine lv_if_eq (tgt := 107) hx hb dL_law_93 (by decide) (fun c69 => ?_) (fun c69 => ?_)
          · have hf := br_p c69 hf
            refine lv_iconst (v := 0) hx hb dL_law_107 (by decide) ?_
            refine lv_istore_n (lv' := [(2, .int 0), (0, .ref b), (1, .ref (eA E 0)), (3, .int x3), (4, .int x4)]) hx hb dL_law_108 rfl hl (by decide) rfl (fun ls hl => ?_)
            obtain ⟨x4_70, ex4_70⟩ : ∃ y : Int32, y = (x4 + 1) := ⟨_, rfl⟩
            have hf := nm_use ex4_70 hf
            refine lv_iinc (v := x4_70) (lv' := [(4, .int x4_70), (2, .int 0), (0, .ref b), (1, .ref (eA E 0)), (3, .int x3)]) hx hb dL_law_109 hl (k := 4) rfl (by rw [ex4_70]; rfl) (by decide) rfl (fun ls hl => ?_)
            refine lv_goto (tgt := 61) hx hb dL_law_112 (by decide) ?_
            exact W.widen (by omega) (by omega) (ih61 0 x3 x4_70 s68 (by omega) _ _ _ hW (lv_sub hl [2, 3, 1, 4, 0] rfl) hf)
          · have hf := br_n c69 hf
            refine lv_aload_n hx hb dL_law_96 rfl (lv_at hl 1 rfl) ?_
            obtain ⟨r72, s73, q71, hf⟩ := bd2_inv hf
            refine ss_callSi (As := [.ref (eA E 0)]) hx hb hml hown hK hW kb_L_holds kM_RL_90 (mL_holds l hfl  q71) rfl dL_law_97 rfl hl.1 (Nat.le_of_ble_eq_true rfl) ⟨Nat.le_of_ble_eq_true rfl, Nat.le_of_ble_eq_true rfl⟩ ⟨Nat.le_trans (show _ ≤ 300 by omega) (Nat.le_of_ble_eq_true rfl), Nat.le_trans (show _ ≤ 20000 by omega) (Nat.le_of_ble_eq_true rfl)⟩ (fun H locs hW => ?_)
            refine lv_if_eq (tgt := 107) hx hb dL_law_100 (by decide) (fun c74 => ?_) (fun c74 => ?_)
            · have hf := br_p c74 hf
              refine lv_iconst (v := 0) hx hb dL_law_107 (by decide) ?_
              refine lv_istore_n (lv' := [(2, .int 0), (0, .ref b), (1, .ref (eA E 0)), (3, .int x3), (4, .int x4)]) hx hb dL_law_108 rfl hl (by decide) rfl (fun ls hl => ?_)
              obtain ⟨x4_75, ex4_75⟩ : ∃ y : Int32, y = (x4 + 1) := ⟨_, rfl⟩
              have hf := nm_use ex4_75 hf
              refine lv_iinc (v := x4_75) (lv' := [(4, .int x4_75), (2, .int 0), (0, .ref b), (1, .ref (eA E 0)), (3, .int x3)]) hx hb dL_law_109 hl (k := 4) rfl (by rw [ex4_75]; rfl) (by decide) rfl (fun ls hl => ?_)
              refine lv_goto (tgt := 61) hx hb dL_law_112 (by decide) ?_
              exact W.widen (by omega) (by omega) (ih61 0 x3 x4_75 s73 (by omega) _ _ _ hW (lv_sub hl [2, 3, 1, 4, 0] rfl) hf)
            · have hf := br_n c74 hf
              refine lv_iconst (v := 1) hx hb dL_law_103 (by decide) ?_
              refine lv_goto (tgt := 108) hx hb dL_law_104 (by decide) ?_
              refine lv_istore_n (lv' := [(2, .int 1), (0, .ref b), (1, .ref (eA E 0)), (3, .int x3), (4, .int x4)]) hx hb dL_law_108 rfl hl (by decide) rfl (fun ls hl => ?_)
              obtain ⟨x4_76, ex4_76⟩ : ∃ y : Int32, y = (x4 + 1) := ⟨_, rfl⟩
              have hf := nm_use ex4_76 hf
              refine lv_iinc (v := x4_76) (lv' := [(4, .int x4_76), (2, .int 1), (0, .ref b), (1, .ref (eA E 0)), (3, .int x3)]) hx hb dL_law_109 hl (k := 4) rfl (by rw [ex4_76]; rfl) (by decide) rfl (fun ls hl => ?_)
              refine lv_goto (tgt := 61) hx hb dL_law_112 (by decide) ?_
              exact W.widen (by omega) (by omega) (ih61 1 x3 x4_76 s73 (by omega) _ _ _ hW (lv_sub hl [2, 3, 1, 4, 0] rfl) hf)
  have h38 : ∀ (k0 : Int32) (σ : Sg) (H : Heap) (locs : List Loc) (ls : Array Slot), Wk E σ μ dg s H locs → lv_has ls 7 [(0, .ref b), (1, .ref (eA E 0))] → fL_law_b38 L xs k0 σ = some (1, σ') → W p l e room_1 s m #[Value.ref b] below meth c H locs 91 3077 (lw_Z below #[Value.ref b] s) (F0 m 38 ls [.int k0]) := by
    intro k0 σ  H locs ls hW hl hf
    unfold fL_law_b38 at hf
    refine lv_istore_n (lv' := [(2, .int k0), (0, .ref b), (1, .ref (eA E 0))]) hx hb dL_law_38 rfl hl (by decide) rfl (fun ls hl => ?_)
    refine lv_aload_n hx hb dL_law_39 rfl (lv_at hl 1 rfl) ?_
    refine va_slen hx hb hX hbl hbA hW.2 dL_law_40 ?_
    refine lv_iconst (v := 2) hx hb dL_law_41 (by decide) ?_
    refine lv_idiv hx hb dL_law_42 (by decide) ?_
    refine lv_bipush (v := 24) hx hb dL_law_43 (by decide) ?_
    refine lv_icmp_le (tgt := 53) hx hb dL_law_45 (by decide) (fun c77 => ?_) (fun c77 => ?_)
    · have hf := br_p c77 hf
      refine lv_aload_n hx hb dL_law_53 rfl (lv_at hl 1 rfl) ?_
      refine va_slen hx hb hX hbl hbA hW.2 dL_law_54 ?_
      refine lv_iconst (v := 2) hx hb dL_law_55 (by decide) ?_
      refine lv_idiv hx hb dL_law_56 (by decide) ?_
      refine lv_topi (fun x3_78 ex3_78 => ?_)
      have hf := nm_use ex3_78 hf
      refine lv_istore_n (lv' := [(3, .int x3_78), (2, .int k0), (0, .ref b), (1, .ref (eA E 0))]) hx hb dL_law_57 rfl hl (by decide) rfl (fun ls hl => ?_)
      refine lv_iconst (v := 0) hx hb dL_law_58 (by decide) ?_
      refine lv_istore (lv' := [(4, .int 0), (3, .int x3_78), (2, .int k0), (0, .ref b), (1, .ref (eA E 0))]) hx hb dL_law_59 hl (by decide) rfl (fun ls hl => ?_)
      exact W.widen (by omega) (by omega) (h61 80 k0 x3_78 0 σ (by omega) _ _ _ hW (lv_sub hl [3, 4, 2, 1, 0] rfl) hf)
    · have hf := br_n c77 hf
      refine lv_bipush (v := 24) hx hb dL_law_48 (by decide) ?_
      refine lv_goto (tgt := 57) hx hb dL_law_50 (by decide) ?_
      refine lv_istore_n (lv' := [(3, .int 24), (2, .int k0), (0, .ref b), (1, .ref (eA E 0))]) hx hb dL_law_57 rfl hl (by decide) rfl (fun ls hl => ?_)
      refine lv_iconst (v := 0) hx hb dL_law_58 (by decide) ?_
      refine lv_istore (lv' := [(4, .int 0), (3, .int 24), (2, .int k0), (0, .ref b), (1, .ref (eA E 0))]) hx hb dL_law_59 hl (by decide) rfl (fun ls hl => ?_)
      exact W.widen (by omega) (by omega) (h61 80 k0 24 0 σ (by omega) _ _ _ hW (lv_sub hl [3, 4, 2, 1, 0] rfl) hf)
  have h37 : ∀ (σ : Sg) (H : Heap) (locs : List Loc) (ls : Array Slot), Wk E σ μ dg s H locs → lv_has ls 7 [(0, .ref b), (1, .ref (eA E 0))] → fL_law_b37 L xs σ = some (1, σ') → W p l e room_1 s m #[Value.ref b] below meth c H locs 91 3077 (lw_Z below #[Value.ref b] s) (F0 m 37 ls []) := by
    intro σ  H locs ls hW hl hf
    unfold fL_law_b37 at hf
    refine lv_iconst (v := 0) hx hb dL_law_37 (by decide) ?_
    exact W.widen (by omega) (by omega) (h38 0 σ _ _ _ hW (lv_sub hl [0, 1] rfl) hf)
  refine lv_aload_n hx hb dL_law_8 rfl (lv_at hl 0 rfl) ?_
  obtain ⟨r80, s81, q79, hf⟩ := bd2_inv hf
  refine ss_callSi (As := [.ref (eA E 0)]) hx hb hml hown hK hW kb_L_holds kM_RL_90 (mL_holds l hfl  q79) rfl dL_law_9 rfl hl.1 (Nat.le_of_ble_eq_true rfl) ⟨Nat.le_of_ble_eq_true rfl, Nat.le_of_ble_eq_true rfl⟩ ⟨Nat.le_trans (show _ ≤ 300 by omega) (Nat.le_of_ble_eq_true rfl), Nat.le_trans (show _ ≤ 20000 by omega) (Nat.le_of_ble_eq_true rfl)⟩ (fun H locs hW => ?_)
  refine lv_if_eq (tgt := 37) hx hb dL_law_12 (by decide) (fun c82 => ?_) (fun c82 => ?_)
  · have hf := br_p c82 hf
    exact W.widen (by omega) (by omega) (h37 s81 _ _ _ hW (lv_sub hl [1, 0] rfl) hf)
  · have hf := br_n c82 hf
    refine lv_aload_n hx hb dL_law_15 rfl (lv_at hl 0 rfl) ?_
    obtain ⟨r84, s85, q83, hf⟩ := bd2_inv hf
    refine ss_callVf (As := []) hx hb hml hown hK hW kb_X6_loudness kM_RL_93 rfl (okq_lt (by decide)) (c_fx (by decide)) (mX6_loudness l  q83) rfl dL_law_16 rfl hl.1 (Nat.le_of_ble_eq_true rfl) ⟨Nat.le_of_ble_eq_true rfl, Nat.le_of_ble_eq_true rfl⟩ ⟨Nat.le_trans (show _ ≤ 300 by omega) (Nat.le_of_ble_eq_true rfl), Nat.le_trans (show _ ≤ 20000 by omega) (Nat.le_of_ble_eq_true rfl)⟩ (fun H locs hW => ?_)
    refine lv_fconst0 hx hb dL_law_19 ?_
    refine lv_fcmp hx hb dL_law_20 ?_
    refine lv_if_ne (tgt := 37) hx hb dL_law_21 (by decide) (fun c86 => ?_) (fun c86 => ?_)
    · have hf := br_n c86 hf
      exact W.widen (by omega) (by omega) (h37 s85 _ _ _ hW (lv_sub hl [1, 0] rfl) hf)
    · have hf := br_p c86 hf
      refine lv_aload_n hx hb dL_law_24 rfl (lv_at hl 0 rfl) ?_
      refine lv_bipush (v := 11) hx hb dL_law_25 (by decide) ?_
      obtain ⟨r88, s89, q87, hf⟩ := bo_inv hf
      refine ss_xcallVi (As := [.int 11]) hx hb hml hown hK hW kb_X6_count kM_RL_9 rfl (okq_lt (by decide)) (c_fx (by decide)) (mX6_count l hfl (a1 := 11) q87) rfl dL_law_27 rfl hl.1 (Nat.le_of_ble_eq_true rfl) ⟨Nat.le_of_ble_eq_true rfl, Nat.le_of_ble_eq_true rfl⟩ ⟨Nat.le_trans (show _ ≤ 300 by omega) (Nat.le_of_ble_eq_true rfl), Nat.le_trans (show _ ≤ 20000 by omega) (Nat.le_of_ble_eq_true rfl)⟩ (fun H locs hW => ?_)
      refine lv_if_ne (tgt := 37) hx hb dL_law_30 (by decide) (fun c90 => ?_) (fun c90 => ?_)
      · have hf := br_n c90 hf
        exact W.widen (by omega) (by omega) (h37 s89 _ _ _ hW (lv_sub hl [1, 0] rfl) hf)
      · have hf := br_p c90 hf
        refine lv_iconst (v := 1) hx hb dL_law_33 (by decide) ?_
        refine lv_goto (tgt := 38) hx hb dL_law_34 (by decide) ?_
        exact W.widen (by omega) (by omega) (h38 1 s89 _ _ _ hW (lv_sub hl [1, 0] rfl) hf)
