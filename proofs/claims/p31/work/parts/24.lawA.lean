def fL_low (a0 : Int32) (a1 : Int32) : Option Int32 := gd (¬ a1 = 0) <| some ((a0 &&& 2147483647) - (a0 &&& 2147483647) / a1 * a1)
set_option maxHeartbeats 4000000 in
set_option maxRecDepth 100000 in
theorem mL_low (l : Launch) {E : En} {σ μ : Sg} {dg : Int64} {a0 : Int32} {a1 : Int32}  {r : Int32} (hf : fL_low a0 a1 = some r) : Met l yL_low [.code yL_low cL_low 2 (some .int)] (Rm 0 0) (va_Pc [.int a0, .int a1] (Wd E σ μ dg)) (Qi E σ μ dg r) 0 0 (eP E) := by
  refine ss_of (by decide) (Nat.le_of_ble_eq_true rfl) (fun p e s m below meth c hx hb hr hlk hml hown hK hW ls hl => ?_)
  have hown : s.vm.findClass RL = some m.cls := hown
  have hl : lv_has ls 2 [(0, .int a0), (1, .int a1)] := hl
  unfold fL_low at hf
  refine lv_iload_n hx hb dL_low_0 rfl (lv_at hl 0 rfl) ?_
  refine lv_ldc (own := RL) hx hb hown (hK.2.1.at kC_RL_8 _) dL_low_1 ?_
  refine lv_iand hx hb dL_low_3 ?_
  refine lv_iload_n hx hb dL_low_4 rfl (lv_at hl 1 rfl) ?_
  obtain ⟨hz1, hf⟩ := gd_inv hf
  refine lv_irem hx hb dL_low_5 hz1 ?_
  exact ss_iret hx hb hr hlk hW (Option.some.inj hf) dL_low_6
def fL_isSpoiled_b207 (a1 : Int32) (a2 : Int32) (x4 : Int32) (x8 : Int32) (σ : Sg) : Option (Int32 × Sg) := if x8 = 0 then (some (0, σ)) else (if (x4 &&& 1) = 0 then (some (1, σ)) else (bo (fX6_spoil a1 a2 σ) fun r4 s5 => if r4 < 0 then (some (0, s5)) else (some (1, s5))))
def fL_isSpoiled_L167 (a1 : Int32) (a2 : Int32) (n : Nat) (x4 : Int32) (x5 : Int32) (x8 : Int32) (x9 : Int32) (σ : Sg) : Option (Int32 × Sg) := match n with
  | 0 => none
  | n + 1 => if x5 ≤ x9 then (fL_isSpoiled_b207 a1 a2 x4 x8 σ) else (if x8 = 0 then (fL_isSpoiled_b207 a1 a2 x4 x8 σ) else (bo (fX6_sampleOf x9 1 σ) fun r10 s11 => gd (¬ (x9 < 0 ∨ 64 ≤ (x9).toNatClampNeg)) <| if r10 = (s11 92 (x9).toNatClampNeg) then (nm (x9 + 1) fun x9_15 => (fun x4 x5 x8 x9 σ => fL_isSpoiled_L167 a1 a2 n x4 x5 x8 x9 σ) x4 x5 1 x9_15 s11) else (nm (x9 + 1) fun x9_14 => (fun x4 x5 x8 x9 σ => fL_isSpoiled_L167 a1 a2 n x4 x5 x8 x9 σ) x4 x5 0 x9_14 s11)))
def fL_isSpoiled_L94 (a1 : Int32) (a2 : Int32) (n : Nat) (x3 : Int32) (x4 : Int32) (x5 : Int32) (x6 : Int32) (x8 : Int32) (x9 : Int32) (σ : Sg) : Option (Int32 × Sg) := match n with
  | 0 => none
  | n + 1 => if x5 ≤ x9 then (if x8 = 0 then (fL_isSpoiled_L167 a1 a2 80 x4 x5 0 0 σ) else (if x6 = (x5 - x3) then (bo (fX6_spoil a1 a2 σ) fun r20 s21 => if r20 = x4 then (fL_isSpoiled_L167 a1 a2 80 x4 x5 1 0 s21) else (fL_isSpoiled_L167 a1 a2 80 x4 x5 0 0 s21)) else (fL_isSpoiled_L167 a1 a2 80 x4 x5 0 0 σ))) else (bo (fX6_sampleOf x9 1 σ) fun r24 s25 => gd (¬ (x9 < 0 ∨ 64 ≤ (x9).toNatClampNeg)) <| if r24 = (s25 92 (x9).toNatClampNeg) then (nm (x6 + 1) fun x6_30 => nm (x9 + 1) fun x9_31 => (fun x3 x4 x5 x6 x8 x9 σ => fL_isSpoiled_L94 a1 a2 n x3 x4 x5 x6 x8 x9 σ) x3 x4 x5 x6_30 x8 x9_31 s25) else (nm (x6 + 0) fun x6_28 => nm (x9 + 1) fun x9_29 => (fun x3 x4 x5 x6 x8 x9 σ => fL_isSpoiled_L94 a1 a2 n x3 x4 x5 x6 x8 x9 σ) x3 x4 x5 x6_28 x8 x9_29 s25))
def fL_isSpoiled_L34 (a1 : Int32) (a2 : Int32) (n : Nat) (x3 : Int32) (x4 : Int32) (x5 : Int32) (x6 : Int32) (x8 : Int32) (σ : Sg) : Option (Int32 × Sg) := match n with
  | 0 => none
  | n + 1 => if x5 ≤ x8 then (bo (fX6_spoil a1 a2 σ) fun r34 s35 => if r34 = (x4 ^^^ (1 <<< (a2 &&& 31))) then (bo (fX6_ifSpoiled a1 a2 s35) fun r38 s39 => if r38 = x3 then (fL_isSpoiled_L94 a1 a2 80 x3 x4 x5 x6 1 0 s39) else (fL_isSpoiled_L94 a1 a2 80 x3 x4 x5 x6 0 0 s39)) else (fL_isSpoiled_L94 a1 a2 80 x3 x4 x5 x6 0 0 s35)) else (bo (fX6_sampleOf x8 1 σ) fun r42 s43 => gd (¬ (x8 < 0 ∨ 64 ≤ (x8).toNatClampNeg)) <| nm (up2 s43 92 ((x8).toNatClampNeg) r42) fun s45 => nm (x8 + 1) fun x8_46 => (fun x3 x4 x5 x6 x8 σ => fL_isSpoiled_L34 a1 a2 n x3 x4 x5 x6 x8 σ) x3 x4 x5 x6 x8_46 s45)
def fL_isSpoiled (a1 : Int32) (a2 : Int32) (σ : Sg) : Option (Int32 × Sg) := bo (fX6_ifSpoiled a1 a2 σ) fun r48 s49 => bo (fX6_sampleOf a1 3 s49) fun r51 s52 => bo (fX6_count 0 s52) fun r54 s55 => nm (upR s55 92 (fun _ => 0)) fun s56 => fL_isSpoiled_L34 a1 a2 80 r48 r51 r54 0 0 s56
set_option maxHeartbeats 4000000 in
set_option maxRecDepth 100000 in
theorem mL_isSpoiled (l : Launch) {E0 : En} {σ μ : Sg} {dg : Int64} (hfl : l.stackTraces = false) (hX0 : eX E0 = 0) {a1 : Int32} {a2 : Int32}  {r : Int32} {σ' : Sg} (hf : fL_isSpoiled a1 a2 σ = some (r, σ')) : Met l yL_isSpoiled [.code yL_isSpoiled cL_isSpoiled 10 (some .boolean)] (RmK 8 166 1 64) (va_Pc [.ref (eA E0 0), .int a1, .int a2] (Wd E0 σ μ dg)) (Qi E0 σ' μ dg r) 1 64 (eP E0) := by
  refine ss_of (by decide) (Nat.le_of_ble_eq_true rfl) (fun p e s m below meth c hx hb hr hlk hml hown hK hW ls hl => ?_)
  have hown : s.vm.findClass RL = some m.cls := hown
  have hl : lv_has ls 10 [(0, .ref (eA E0 0)), (1, .int a1), (2, .int a2)] := hl
  unfold fL_isSpoiled at hf
  refine lv_aload_n hx hb dL_isSpoiled_0 rfl (lv_at hl 0 rfl) ?_
  refine lv_iload_n hx hb dL_isSpoiled_1 rfl (lv_at hl 1 rfl) ?_
  refine lv_iload_n hx hb dL_isSpoiled_2 rfl (lv_at hl 2 rfl) ?_
  obtain ⟨r48, s49, q47, hf⟩ := bo_inv hf
  refine ss_xcallVi (As := [.int a1, .int a2]) hx hb hml hown hK hW kb_X6_ifSpoiled kM_RL_58 rfl (okq_lt (by decide)) (c_fx (by decide)) (mX6_ifSpoiled l hfl (a1 := a1) (a2 := a2) q47) rfl dL_isSpoiled_3 rfl hl.1 (Nat.le_of_ble_eq_true rfl) ⟨Nat.le_of_ble_eq_true rfl, Nat.le_of_ble_eq_true rfl⟩ ⟨Nat.zero_le _, Nat.zero_le _⟩ (fun H locs hW => ?_)
  refine lv_istore_n (lv' := [(3, .int r48), (0, .ref (eA E0 0)), (1, .int a1), (2, .int a2)]) hx hb dL_isSpoiled_6 rfl hl (by decide) rfl (fun ls hl => ?_)
  refine lv_aload_n hx hb dL_isSpoiled_7 rfl (lv_at hl 1 rfl) ?_
  refine lv_iload_n hx hb dL_isSpoiled_8 rfl (lv_at hl 2 rfl) ?_
  refine lv_iconst (v := 3) hx hb dL_isSpoiled_9 (by decide) ?_
  obtain ⟨r51, s52, q50, hf⟩ := bo_inv hf
  refine ss_xcallVi (As := [.int a1, .int 3]) hx hb hml hown hK hW kb_X6_sampleOf kM_RL_24 rfl (okq_lt (by decide)) (c_fx (by decide)) (mX6_sampleOf l hfl (a1 := a1) (a2 := 3) q50) rfl dL_isSpoiled_10 rfl hl.1 (Nat.le_of_ble_eq_true rfl) ⟨Nat.le_of_ble_eq_true rfl, Nat.le_of_ble_eq_true rfl⟩ ⟨Nat.zero_le _, Nat.zero_le _⟩ (fun H locs hW => ?_)
  refine lv_istore (lv' := [(4, .int r51), (3, .int r48), (0, .ref (eA E0 0)), (1, .int a1), (2, .int a2)]) hx hb dL_isSpoiled_13 hl (by decide) rfl (fun ls hl => ?_)
  refine lv_aload_n hx hb dL_isSpoiled_15 rfl (lv_at hl 2 rfl) ?_
  refine lv_iconst (v := 0) hx hb dL_isSpoiled_16 (by decide) ?_
  obtain ⟨r54, s55, q53, hf⟩ := bo_inv hf
  refine ss_xcallVi (As := [.int 0]) hx hb hml hown hK hW kb_X6_count kM_RL_9 rfl (okq_lt (by decide)) (c_fx (by decide)) (mX6_count l hfl (a1 := 0) q53) rfl dL_isSpoiled_17 rfl hl.1 (Nat.le_of_ble_eq_true rfl) ⟨Nat.le_of_ble_eq_true rfl, Nat.le_of_ble_eq_true rfl⟩ ⟨Nat.zero_le _, Nat.zero_le _⟩ (fun H locs hW => ?_)
  refine lv_istore (lv' := [(5, .int r54), (4, .int r51), (3, .int r48), (0, .ref (eA E0 0)), (1, .int a1), (2, .int a2)]) hx hb dL_isSpoiled_20 hl (by decide) rfl (fun ls hl => ?_)
  refine lv_iconst (v := 0) hx hb dL_isSpoiled_22 (by decide) ?_
  refine lv_istore (lv' := [(6, .int 0), (5, .int r54), (4, .int r51), (3, .int r48), (0, .ref (eA E0 0)), (1, .int a1), (2, .int a2)]) hx hb dL_isSpoiled_23 hl (by decide) rfl (fun ls hl => ?_)
  refine lv_bipush (v := 64) hx hb dL_isSpoiled_25 (by decide) ?_
  refine ss_newi hx hb kAr_i hX0 hK hW ⟨Nat.le_refl 1, Nat.le_refl 64⟩ dL_isSpoiled_27 (fun E hXX hA hdrop H hK hW => ?_)
  have hl : lv_has ls 10 [(6, .int 0), (5, .int r54), (4, .int r51), (3, .int r48), (0, .ref (eA E 0)), (1, .int a1), (2, .int a2)] := by rw [hA 0 (by decide)]; exact hl
  have h207 : ∀ (x4 : Int32) (x8 : Int32) (σ : Sg) (H : Heap) (locs : List Loc) (ls : Array Slot), Wk E σ μ dg s H locs → lv_has ls 10 [(0, .ref (eA E 0)), (1, .int a1), (2, .int a2), (4, .int x4), (8, .int x8)] → fL_isSpoiled_b207 a1 a2 x4 x8 σ = some (r, σ') → W p l e (RmK 8 166 1 64) s m [.ref (eA E0 0), .int a1, .int a2].toArray below meth c H locs 1 64 (MQ below (Qi E0 σ' μ dg r) [.ref (eA E0 0), .int a1, .int a2].toArray s 1 64 (eP E0)) (F0 m 207 ls []) := by
    intro x4 x8 σ  H locs ls hW hl hf
    unfold fL_isSpoiled_b207 at hf
    refine lv_iload hx hb dL_isSpoiled_207 (lv_at hl 4 rfl) ?_
    refine lv_if_eq (tgt := 232) hx hb dL_isSpoiled_209 (by decide) (fun c1 => ?_) (fun c1 => ?_)
    · have hf := br_p c1 hf
      refine lv_iconst (v := 0) hx hb dL_isSpoiled_232 (by decide) ?_
      cases hf
      exact ss_zretK (E := E0) hx hb hr hlk (hdrop hW) rfl rfl dL_isSpoiled_233
    · have hf := br_n c1 hf
      refine lv_iload hx hb dL_isSpoiled_212 (lv_at hl 3 rfl) ?_
      refine lv_iconst (v := 1) hx hb dL_isSpoiled_214 (by decide) ?_
      refine lv_iand hx hb dL_isSpoiled_215 ?_
      refine lv_if_eq (tgt := 228) hx hb dL_isSpoiled_216 (by decide) (fun c2 => ?_) (fun c2 => ?_)
      · have hf := br_p c2 hf
        refine lv_iconst (v := 1) hx hb dL_isSpoiled_228 (by decide) ?_
        refine lv_goto (tgt := 233) hx hb dL_isSpoiled_229 (by decide) ?_
        cases hf
        exact ss_zretK (E := E0) hx hb hr hlk (hdrop hW) rfl rfl dL_isSpoiled_233
      · have hf := br_n c2 hf
        refine lv_aload_n hx hb dL_isSpoiled_219 rfl (lv_at hl 0 rfl) ?_
        refine lv_iload_n hx hb dL_isSpoiled_220 rfl (lv_at hl 1 rfl) ?_
        refine lv_iload_n hx hb dL_isSpoiled_221 rfl (lv_at hl 2 rfl) ?_
        obtain ⟨r4, s5, q3, hf⟩ := bo_inv hf
        refine ss_xcallVi (As := [.int a1, .int a2]) hx hb hml hown hK hW kb_X6_spoil kM_RL_61 rfl (okq_lt (by decide)) (c_fx (by decide)) (mX6_spoil l hfl (a1 := a1) (a2 := a2) q3) rfl dL_isSpoiled_222 rfl hl.1 (Nat.le_of_ble_eq_true rfl) ⟨Nat.le_of_ble_eq_true rfl, Nat.le_of_ble_eq_true rfl⟩ ⟨Nat.le_refl 1, Nat.le_refl 64⟩ (fun H locs hW => ?_)
        refine lv_if_lt (tgt := 232) hx hb dL_isSpoiled_225 (by decide) (fun c6 => ?_) (fun c6 => ?_)
        · have hf := br_p c6 hf
          refine lv_iconst (v := 0) hx hb dL_isSpoiled_232 (by decide) ?_
          cases hf
          exact ss_zretK (E := E0) hx hb hr hlk (hdrop hW) rfl rfl dL_isSpoiled_233
        · have hf := br_n c6 hf
          refine lv_iconst (v := 1) hx hb dL_isSpoiled_228 (by decide) ?_
          refine lv_goto (tgt := 233) hx hb dL_isSpoiled_229 (by decide) ?_
          cases hf
          exact ss_zretK (E := E0) hx hb hr hlk (hdrop hW) rfl rfl dL_isSpoiled_233
  have h167 : ∀ (n167 : Nat) (x4 : Int32) (x5 : Int32) (x8 : Int32) (x9 : Int32) (σ : Sg) (H : Heap) (locs : List Loc) (ls : Array Slot), Wk E σ μ dg s H locs → lv_has ls 10 [(0, .ref (eA E 0)), (1, .int a1), (2, .int a2), (4, .int x4), (5, .int x5), (7, .ref (eA E 92)), (8, .int x8), (9, .int x9)] → fL_isSpoiled_L167 a1 a2 n167 x4 x5 x8 x9 σ = some (r, σ') → W p l e (RmK 8 166 1 64) s m [.ref (eA E0 0), .int a1, .int a2].toArray below meth c H locs 1 64 (MQ below (Qi E0 σ' μ dg r) [.ref (eA E0 0), .int a1, .int a2].toArray s 1 64 (eP E0)) (F0 m 167 ls []) := by
    intro n167
    induction n167 with
    | zero =>
      intro x4 x5 x8 x9 σ  H locs ls hW hl hf
      exact absurd hf (by simp [fL_isSpoiled_L167])
    | succ n167 ih167 =>
      intro x4 x5 x8 x9 σ  H locs ls hW hl hf
      rw [fL_isSpoiled_L167] at hf
      refine lv_iload hx hb dL_isSpoiled_167 (lv_at hl 7 rfl) ?_
      refine lv_iload hx hb dL_isSpoiled_169 (lv_at hl 4 rfl) ?_
      refine lv_icmp_ge (tgt := 207) hx hb dL_isSpoiled_171 (by decide) (fun c7 => ?_) (fun c7 => ?_)
      · have hf := br_p c7 hf
        exact h207 x4 x8 σ _ _ _ hW (lv_sub hl [0, 1, 2, 3, 6] rfl) hf
      · have hf := br_n c7 hf
        refine lv_iload hx hb dL_isSpoiled_174 (lv_at hl 6 rfl) ?_
        refine lv_if_eq (tgt := 207) hx hb dL_isSpoiled_176 (by decide) (fun c8 => ?_) (fun c8 => ?_)
        · have hf := br_p c8 hf
          exact h207 x4 x8 σ _ _ _ hW (lv_sub hl [0, 1, 2, 3, 6] rfl) hf
        · have hf := br_n c8 hf
          refine lv_aload_n hx hb dL_isSpoiled_179 rfl (lv_at hl 0 rfl) ?_
          refine lv_iload hx hb dL_isSpoiled_180 (lv_at hl 7 rfl) ?_
          refine lv_iconst (v := 1) hx hb dL_isSpoiled_182 (by decide) ?_
          obtain ⟨r10, s11, q9, hf⟩ := bo_inv hf
          refine ss_xcallVi (As := [.int x9, .int 1]) hx hb hml hown hK hW kb_X6_sampleOf kM_RL_24 rfl (okq_lt (by decide)) (c_fx (by decide)) (mX6_sampleOf l hfl (a1 := x9) (a2 := 1) q9) rfl dL_isSpoiled_183 rfl hl.1 (Nat.le_of_ble_eq_true rfl) ⟨Nat.le_of_ble_eq_true rfl, Nat.le_of_ble_eq_true rfl⟩ ⟨Nat.le_refl 1, Nat.le_refl 64⟩ (fun H locs hW => ?_)
          refine lv_aload hx hb dL_isSpoiled_186 (lv_at hl 5 rfl) ?_
          refine lv_iload hx hb dL_isSpoiled_188 (lv_at hl 7 rfl) ?_
          obtain ⟨hk12, hf⟩ := gd_inv hf
          refine l_LM hx hb hK hW hXX rfl hk12 dL_isSpoiled_190 ?_
          refine lv_icmp_ne (tgt := 198) hx hb dL_isSpoiled_191 (by decide) (fun c13 => ?_) (fun c13 => ?_)
          · have hf := br_n c13 hf
            refine lv_iconst (v := 0) hx hb dL_isSpoiled_198 (by decide) ?_
            refine lv_istore (lv' := [(8, .int 0), (0, .ref (eA E 0)), (1, .int a1), (2, .int a2), (4, .int x4), (5, .int x5), (7, .ref (eA E 92)), (9, .int x9)]) hx hb dL_isSpoiled_199 hl (by decide) rfl (fun ls hl => ?_)
            obtain ⟨x9_14, ex9_14⟩ : ∃ y : Int32, y = (x9 + 1) := ⟨_, rfl⟩
            have hf := nm_use ex9_14 hf
            refine lv_iinc (v := x9_14) (lv' := [(9, .int x9_14), (8, .int 0), (0, .ref (eA E 0)), (1, .int a1), (2, .int a2), (4, .int x4), (5, .int x5), (7, .ref (eA E 92))]) hx hb dL_isSpoiled_201 hl (k := 7) rfl (by rw [ex9_14]; rfl) (by decide) rfl (fun ls hl => ?_)
            refine lv_goto (tgt := 167) hx hb dL_isSpoiled_204 (by decide) ?_
            exact ih167 x4 x5 0 x9_14 s11 _ _ _ hW (lv_sub hl [2, 3, 4, 5, 6, 7, 1, 0] rfl) hf
          · have hf := br_p c13 hf
            refine lv_iconst (v := 1) hx hb dL_isSpoiled_194 (by decide) ?_
            refine lv_goto (tgt := 199) hx hb dL_isSpoiled_195 (by decide) ?_
            refine lv_istore (lv' := [(8, .int 1), (0, .ref (eA E 0)), (1, .int a1), (2, .int a2), (4, .int x4), (5, .int x5), (7, .ref (eA E 92)), (9, .int x9)]) hx hb dL_isSpoiled_199 hl (by decide) rfl (fun ls hl => ?_)
            obtain ⟨x9_15, ex9_15⟩ : ∃ y : Int32, y = (x9 + 1) := ⟨_, rfl⟩
            have hf := nm_use ex9_15 hf
            refine lv_iinc (v := x9_15) (lv' := [(9, .int x9_15), (8, .int 1), (0, .ref (eA E 0)), (1, .int a1), (2, .int a2), (4, .int x4), (5, .int x5), (7, .ref (eA E 92))]) hx hb dL_isSpoiled_201 hl (k := 7) rfl (by rw [ex9_15]; rfl) (by decide) rfl (fun ls hl => ?_)
            refine lv_goto (tgt := 167) hx hb dL_isSpoiled_204 (by decide) ?_
            exact ih167 x4 x5 1 x9_15 s11 _ _ _ hW (lv_sub hl [2, 3, 4, 5, 6, 7, 1, 0] rfl) hf
  have h94 : ∀ (n94 : Nat) (x3 : Int32) (x4 : Int32) (x5 : Int32) (x6 : Int32) (x8 : Int32) (x9 : Int32) (σ : Sg) (H : Heap) (locs : List Loc) (ls : Array Slot), Wk E σ μ dg s H locs → lv_has ls 10 [(0, .ref (eA E 0)), (1, .int a1), (2, .int a2), (3, .int x3), (4, .int x4), (5, .int x5), (6, .int x6), (7, .ref (eA E 92)), (8, .int x8), (9, .int x9)] → fL_isSpoiled_L94 a1 a2 n94 x3 x4 x5 x6 x8 x9 σ = some (r, σ') → W p l e (RmK 8 166 1 64) s m [.ref (eA E0 0), .int a1, .int a2].toArray below meth c H locs 1 64 (MQ below (Qi E0 σ' μ dg r) [.ref (eA E0 0), .int a1, .int a2].toArray s 1 64 (eP E0)) (F0 m 94 ls []) := by
    intro n94
    induction n94 with
    | zero =>
      intro x3 x4 x5 x6 x8 x9 σ  H locs ls hW hl hf
      exact absurd hf (by simp [fL_isSpoiled_L94])
    | succ n94 ih94 =>
      intro x3 x4 x5 x6 x8 x9 σ  H locs ls hW hl hf
      rw [fL_isSpoiled_L94] at hf
      refine lv_iload hx hb dL_isSpoiled_94 (lv_at hl 9 rfl) ?_
      refine lv_iload hx hb dL_isSpoiled_96 (lv_at hl 5 rfl) ?_
      refine lv_icmp_ge (tgt := 132) hx hb dL_isSpoiled_98 (by decide) (fun c16 => ?_) (fun c16 => ?_)
      · have hf := br_p c16 hf
        refine lv_iload hx hb dL_isSpoiled_132 (lv_at hl 8 rfl) ?_
        refine lv_if_eq (tgt := 161) hx hb dL_isSpoiled_134 (by decide) (fun c17 => ?_) (fun c17 => ?_)
        · have hf := br_p c17 hf
          refine lv_iconst (v := 0) hx hb dL_isSpoiled_161 (by decide) ?_
          refine lv_istore (lv' := [(8, .int 0), (0, .ref (eA E 0)), (1, .int a1), (2, .int a2), (3, .int x3), (4, .int x4), (5, .int x5), (6, .int x6), (7, .ref (eA E 92)), (9, .int x9)]) hx hb dL_isSpoiled_162 hl (by decide) rfl (fun ls hl => ?_)
          refine lv_iconst (v := 0) hx hb dL_isSpoiled_164 (by decide) ?_
          refine lv_istore (lv' := [(9, .int 0), (8, .int 0), (0, .ref (eA E 0)), (1, .int a1), (2, .int a2), (3, .int x3), (4, .int x4), (5, .int x5), (6, .int x6), (7, .ref (eA E 92))]) hx hb dL_isSpoiled_165 hl (by decide) rfl (fun ls hl => ?_)
          exact h167 80 x4 x5 0 0 σ _ _ _ hW (lv_sub hl [2, 3, 4, 6, 7, 9, 1, 0] rfl) hf
        · have hf := br_n c17 hf
          refine lv_iload hx hb dL_isSpoiled_137 (lv_at hl 6 rfl) ?_
          refine lv_iload hx hb dL_isSpoiled_139 (lv_at hl 5 rfl) ?_
          refine lv_iload_n hx hb dL_isSpoiled_141 rfl (lv_at hl 3 rfl) ?_
          refine lv_isub hx hb dL_isSpoiled_142 ?_
          refine lv_icmp_ne (tgt := 161) hx hb dL_isSpoiled_143 (by decide) (fun c18 => ?_) (fun c18 => ?_)
          · have hf := br_n c18 hf
            refine lv_iconst (v := 0) hx hb dL_isSpoiled_161 (by decide) ?_
            refine lv_istore (lv' := [(8, .int 0), (0, .ref (eA E 0)), (1, .int a1), (2, .int a2), (3, .int x3), (4, .int x4), (5, .int x5), (6, .int x6), (7, .ref (eA E 92)), (9, .int x9)]) hx hb dL_isSpoiled_162 hl (by decide) rfl (fun ls hl => ?_)
            refine lv_iconst (v := 0) hx hb dL_isSpoiled_164 (by decide) ?_
            refine lv_istore (lv' := [(9, .int 0), (8, .int 0), (0, .ref (eA E 0)), (1, .int a1), (2, .int a2), (3, .int x3), (4, .int x4), (5, .int x5), (6, .int x6), (7, .ref (eA E 92))]) hx hb dL_isSpoiled_165 hl (by decide) rfl (fun ls hl => ?_)
            exact h167 80 x4 x5 0 0 σ _ _ _ hW (lv_sub hl [2, 3, 4, 6, 7, 9, 1, 0] rfl) hf
          · have hf := br_p c18 hf
            refine lv_aload_n hx hb dL_isSpoiled_146 rfl (lv_at hl 0 rfl) ?_
            refine lv_iload_n hx hb dL_isSpoiled_147 rfl (lv_at hl 1 rfl) ?_
            refine lv_iload_n hx hb dL_isSpoiled_148 rfl (lv_at hl 2 rfl) ?_
            obtain ⟨r20, s21, q19, hf⟩ := bo_inv hf
            refine ss_xcallVi (As := [.int a1, .int a2]) hx hb hml hown hK hW kb_X6_spoil kM_RL_61 rfl (okq_lt (by decide)) (c_fx (by decide)) (mX6_spoil l hfl (a1 := a1) (a2 := a2) q19) rfl dL_isSpoiled_149 rfl hl.1 (Nat.le_of_ble_eq_true rfl) ⟨Nat.le_of_ble_eq_true rfl, Nat.le_of_ble_eq_true rfl⟩ ⟨Nat.le_refl 1, Nat.le_refl 64⟩ (fun H locs hW => ?_)
            refine lv_iload hx hb dL_isSpoiled_152 (lv_at hl 4 rfl) ?_
            refine lv_icmp_ne (tgt := 161) hx hb dL_isSpoiled_154 (by decide) (fun c22 => ?_) (fun c22 => ?_)
            · have hf := br_n c22 hf
              refine lv_iconst (v := 0) hx hb dL_isSpoiled_161 (by decide) ?_
              refine lv_istore (lv' := [(8, .int 0), (0, .ref (eA E 0)), (1, .int a1), (2, .int a2), (3, .int x3), (4, .int x4), (5, .int x5), (6, .int x6), (7, .ref (eA E 92)), (9, .int x9)]) hx hb dL_isSpoiled_162 hl (by decide) rfl (fun ls hl => ?_)
              refine lv_iconst (v := 0) hx hb dL_isSpoiled_164 (by decide) ?_
              refine lv_istore (lv' := [(9, .int 0), (8, .int 0), (0, .ref (eA E 0)), (1, .int a1), (2, .int a2), (3, .int x3), (4, .int x4), (5, .int x5), (6, .int x6), (7, .ref (eA E 92))]) hx hb dL_isSpoiled_165 hl (by decide) rfl (fun ls hl => ?_)
              exact h167 80 x4 x5 0 0 s21 _ _ _ hW (lv_sub hl [2, 3, 4, 6, 7, 9, 1, 0] rfl) hf
            · have hf := br_p c22 hf
              refine lv_iconst (v := 1) hx hb dL_isSpoiled_157 (by decide) ?_
              refine lv_goto (tgt := 162) hx hb dL_isSpoiled_158 (by decide) ?_
              refine lv_istore (lv' := [(8, .int 1), (0, .ref (eA E 0)), (1, .int a1), (2, .int a2), (3, .int x3), (4, .int x4), (5, .int x5), (6, .int x6), (7, .ref (eA E 92)), (9, .int x9)]) hx hb dL_isSpoiled_162 hl (by decide) rfl (fun ls hl => ?_)
              refine lv_iconst (v := 0) hx hb dL_isSpoiled_164 (by decide) ?_
              refine lv_istore (lv' := [(9, .int 0), (8, .int 1), (0, .ref (eA E 0)), (1, .int a1), (2, .int a2), (3, .int x3), (4, .int x4), (5, .int x5), (6, .int x6), (7, .ref (eA E 92))]) hx hb dL_isSpoiled_165 hl (by decide) rfl (fun ls hl => ?_)
              exact h167 80 x4 x5 1 0 s21 _ _ _ hW (lv_sub hl [2, 3, 4, 6, 7, 9, 1, 0] rfl) hf
      · have hf := br_n c16 hf
        refine lv_iload hx hb dL_isSpoiled_101 (lv_at hl 6 rfl) ?_
        refine lv_aload_n hx hb dL_isSpoiled_103 rfl (lv_at hl 0 rfl) ?_
        refine lv_iload hx hb dL_isSpoiled_104 (lv_at hl 9 rfl) ?_
        refine lv_iconst (v := 1) hx hb dL_isSpoiled_106 (by decide) ?_
        obtain ⟨r24, s25, q23, hf⟩ := bo_inv hf
        refine ss_xcallVi (As := [.int x9, .int 1]) hx hb hml hown hK hW kb_X6_sampleOf kM_RL_24 rfl (okq_lt (by decide)) (c_fx (by decide)) (mX6_sampleOf l hfl (a1 := x9) (a2 := 1) q23) rfl dL_isSpoiled_107 rfl hl.1 (Nat.le_of_ble_eq_true rfl) ⟨Nat.le_of_ble_eq_true rfl, Nat.le_of_ble_eq_true rfl⟩ ⟨Nat.le_refl 1, Nat.le_refl 64⟩ (fun H locs hW => ?_)
        refine lv_aload hx hb dL_isSpoiled_110 (lv_at hl 7 rfl) ?_
        refine lv_iload hx hb dL_isSpoiled_112 (lv_at hl 9 rfl) ?_
        obtain ⟨hk26, hf⟩ := gd_inv hf
        refine l_LM hx hb hK hW hXX rfl hk26 dL_isSpoiled_114 ?_
        refine lv_icmp_ne (tgt := 122) hx hb dL_isSpoiled_115 (by decide) (fun c27 => ?_) (fun c27 => ?_)
        · have hf := br_n c27 hf
          refine lv_iconst (v := 0) hx hb dL_isSpoiled_122 (by decide) ?_
          refine lv_iadd hx hb dL_isSpoiled_123 ?_
          refine lv_topi (fun x6_28 ex6_28 => ?_)
          have hf := nm_use ex6_28 hf
          refine lv_istore (lv' := [(6, .int x6_28), (0, .ref (eA E 0)), (1, .int a1), (2, .int a2), (3, .int x3), (4, .int x4), (5, .int x5), (7, .ref (eA E 92)), (8, .int x8), (9, .int x9)]) hx hb dL_isSpoiled_124 hl (by decide) rfl (fun ls hl => ?_)
          obtain ⟨x9_29, ex9_29⟩ : ∃ y : Int32, y = (x9 + 1) := ⟨_, rfl⟩
          have hf := nm_use ex9_29 hf
          refine lv_iinc (v := x9_29) (lv' := [(9, .int x9_29), (6, .int x6_28), (0, .ref (eA E 0)), (1, .int a1), (2, .int a2), (3, .int x3), (4, .int x4), (5, .int x5), (7, .ref (eA E 92)), (8, .int x8)]) hx hb dL_isSpoiled_126 hl (k := 9) rfl (by rw [ex9_29]; rfl) (by decide) rfl (fun ls hl => ?_)
          refine lv_goto (tgt := 94) hx hb dL_isSpoiled_129 (by decide) ?_
          exact ih94 x3 x4 x5 x6_28 x8 x9_29 s25 _ _ _ hW (lv_sub hl [2, 3, 4, 5, 6, 7, 1, 8, 9, 0] rfl) hf
        · have hf := br_p c27 hf
          refine lv_iconst (v := 1) hx hb dL_isSpoiled_118 (by decide) ?_
          refine lv_goto (tgt := 123) hx hb dL_isSpoiled_119 (by decide) ?_
          refine lv_iadd hx hb dL_isSpoiled_123 ?_
          refine lv_topi (fun x6_30 ex6_30 => ?_)
          have hf := nm_use ex6_30 hf
          refine lv_istore (lv' := [(6, .int x6_30), (0, .ref (eA E 0)), (1, .int a1), (2, .int a2), (3, .int x3), (4, .int x4), (5, .int x5), (7, .ref (eA E 92)), (8, .int x8), (9, .int x9)]) hx hb dL_isSpoiled_124 hl (by decide) rfl (fun ls hl => ?_)
          obtain ⟨x9_31, ex9_31⟩ : ∃ y : Int32, y = (x9 + 1) := ⟨_, rfl⟩
          have hf := nm_use ex9_31 hf
          refine lv_iinc (v := x9_31) (lv' := [(9, .int x9_31), (6, .int x6_30), (0, .ref (eA E 0)), (1, .int a1), (2, .int a2), (3, .int x3), (4, .int x4), (5, .int x5), (7, .ref (eA E 92)), (8, .int x8)]) hx hb dL_isSpoiled_126 hl (k := 9) rfl (by rw [ex9_31]; rfl) (by decide) rfl (fun ls hl => ?_)
          refine lv_goto (tgt := 94) hx hb dL_isSpoiled_129 (by decide) ?_
          exact ih94 x3 x4 x5 x6_30 x8 x9_31 s25 _ _ _ hW (lv_sub hl [2, 3, 4, 5, 6, 7, 1, 8, 9, 0] rfl) hf
  have h34 : ∀ (n34 : Nat) (x3 : Int32) (x4 : Int32) (x5 : Int32) (x6 : Int32) (x8 : Int32) (σ : Sg) (H : Heap) (locs : List Loc) (ls : Array Slot), Wk E σ μ dg s H locs → lv_has ls 10 [(0, .ref (eA E 0)), (1, .int a1), (2, .int a2), (3, .int x3), (4, .int x4), (5, .int x5), (6, .int x6), (7, .ref (eA E 92)), (8, .int x8)] → fL_isSpoiled_L34 a1 a2 n34 x3 x4 x5 x6 x8 σ = some (r, σ') → W p l e (RmK 8 166 1 64) s m [.ref (eA E0 0), .int a1, .int a2].toArray below meth c H locs 1 64 (MQ below (Qi E0 σ' μ dg r) [.ref (eA E0 0), .int a1, .int a2].toArray s 1 64 (eP E0)) (F0 m 34 ls []) := by
    intro n34
    induction n34 with
    | zero =>
      intro x3 x4 x5 x6 x8 σ  H locs ls hW hl hf
      exact absurd hf (by simp [fL_isSpoiled_L34])
    | succ n34 ih34 =>
      intro x3 x4 x5 x6 x8 σ  H locs ls hW hl hf
      rw [fL_isSpoiled_L34] at hf
      refine lv_iload hx hb dL_isSpoiled_34 (lv_at hl 8 rfl) ?_
      refine lv_iload hx hb dL_isSpoiled_36 (lv_at hl 5 rfl) ?_
      refine lv_icmp_ge (tgt := 59) hx hb dL_isSpoiled_38 (by decide) (fun c32 => ?_) (fun c32 => ?_)
      · have hf := br_p c32 hf
        refine lv_aload_n hx hb dL_isSpoiled_59 rfl (lv_at hl 0 rfl) ?_
        refine lv_iload_n hx hb dL_isSpoiled_60 rfl (lv_at hl 1 rfl) ?_
        refine lv_iload_n hx hb dL_isSpoiled_61 rfl (lv_at hl 2 rfl) ?_
        obtain ⟨r34, s35, q33, hf⟩ := bo_inv hf
        refine ss_xcallVi (As := [.int a1, .int a2]) hx hb hml hown hK hW kb_X6_spoil kM_RL_61 rfl (okq_lt (by decide)) (c_fx (by decide)) (mX6_spoil l hfl (a1 := a1) (a2 := a2) q33) rfl dL_isSpoiled_62 rfl hl.1 (Nat.le_of_ble_eq_true rfl) ⟨Nat.le_of_ble_eq_true rfl, Nat.le_of_ble_eq_true rfl⟩ ⟨Nat.le_refl 1, Nat.le_refl 64⟩ (fun H locs hW => ?_)
        refine lv_iload hx hb dL_isSpoiled_65 (lv_at hl 4 rfl) ?_
        refine lv_iconst (v := 1) hx hb dL_isSpoiled_67 (by decide) ?_
        refine lv_iload_n hx hb dL_isSpoiled_68 rfl (lv_at hl 2 rfl) ?_
        refine lv_ishl hx hb dL_isSpoiled_69 ?_
        refine lv_ixor hx hb dL_isSpoiled_70 ?_
        refine lv_icmp_ne (tgt := 88) hx hb dL_isSpoiled_71 (by decide) (fun c36 => ?_) (fun c36 => ?_)
        · have hf := br_n c36 hf
          refine lv_iconst (v := 0) hx hb dL_isSpoiled_88 (by decide) ?_
          refine lv_istore (lv' := [(8, .int 0), (0, .ref (eA E 0)), (1, .int a1), (2, .int a2), (3, .int x3), (4, .int x4), (5, .int x5), (6, .int x6), (7, .ref (eA E 92))]) hx hb dL_isSpoiled_89 hl (by decide) rfl (fun ls hl => ?_)
          refine lv_iconst (v := 0) hx hb dL_isSpoiled_91 (by decide) ?_
          refine lv_istore (lv' := [(9, .int 0), (8, .int 0), (0, .ref (eA E 0)), (1, .int a1), (2, .int a2), (3, .int x3), (4, .int x4), (5, .int x5), (6, .int x6), (7, .ref (eA E 92))]) hx hb dL_isSpoiled_92 hl (by decide) rfl (fun ls hl => ?_)
          exact h94 80 x3 x4 x5 x6 0 0 s35 _ _ _ hW (lv_sub hl [2, 3, 4, 5, 6, 7, 8, 9, 1, 0] rfl) hf
        · have hf := br_p c36 hf
          refine lv_aload_n hx hb dL_isSpoiled_74 rfl (lv_at hl 0 rfl) ?_
          refine lv_iload_n hx hb dL_isSpoiled_75 rfl (lv_at hl 1 rfl) ?_
          refine lv_iload_n hx hb dL_isSpoiled_76 rfl (lv_at hl 2 rfl) ?_
          obtain ⟨r38, s39, q37, hf⟩ := bo_inv hf
          refine ss_xcallVi (As := [.int a1, .int a2]) hx hb hml hown hK hW kb_X6_ifSpoiled kM_RL_58 rfl (okq_lt (by decide)) (c_fx (by decide)) (mX6_ifSpoiled l hfl (a1 := a1) (a2 := a2) q37) rfl dL_isSpoiled_77 rfl hl.1 (Nat.le_of_ble_eq_true rfl) ⟨Nat.le_of_ble_eq_true rfl, Nat.le_of_ble_eq_true rfl⟩ ⟨Nat.le_refl 1, Nat.le_refl 64⟩ (fun H locs hW => ?_)
          refine lv_iload_n hx hb dL_isSpoiled_80 rfl (lv_at hl 3 rfl) ?_
          refine lv_icmp_ne (tgt := 88) hx hb dL_isSpoiled_81 (by decide) (fun c40 => ?_) (fun c40 => ?_)
          · have hf := br_n c40 hf
            refine lv_iconst (v := 0) hx hb dL_isSpoiled_88 (by decide) ?_
            refine lv_istore (lv' := [(8, .int 0), (0, .ref (eA E 0)), (1, .int a1), (2, .int a2), (3, .int x3), (4, .int x4), (5, .int x5), (6, .int x6), (7, .ref (eA E 92))]) hx hb dL_isSpoiled_89 hl (by decide) rfl (fun ls hl => ?_)
            refine lv_iconst (v := 0) hx hb dL_isSpoiled_91 (by decide) ?_
            refine lv_istore (lv' := [(9, .int 0), (8, .int 0), (0, .ref (eA E 0)), (1, .int a1), (2, .int a2), (3, .int x3), (4, .int x4), (5, .int x5), (6, .int x6), (7, .ref (eA E 92))]) hx hb dL_isSpoiled_92 hl (by decide) rfl (fun ls hl => ?_)
            exact h94 80 x3 x4 x5 x6 0 0 s39 _ _ _ hW (lv_sub hl [2, 3, 4, 5, 6, 7, 8, 9, 1, 0] rfl) hf
          · have hf := br_p c40 hf
            refine lv_iconst (v := 1) hx hb dL_isSpoiled_84 (by decide) ?_
            refine lv_goto (tgt := 89) hx hb dL_isSpoiled_85 (by decide) ?_
            refine lv_istore (lv' := [(8, .int 1), (0, .ref (eA E 0)), (1, .int a1), (2, .int a2), (3, .int x3), (4, .int x4), (5, .int x5), (6, .int x6), (7, .ref (eA E 92))]) hx hb dL_isSpoiled_89 hl (by decide) rfl (fun ls hl => ?_)
            refine lv_iconst (v := 0) hx hb dL_isSpoiled_91 (by decide) ?_
            refine lv_istore (lv' := [(9, .int 0), (8, .int 1), (0, .ref (eA E 0)), (1, .int a1), (2, .int a2), (3, .int x3), (4, .int x4), (5, .int x5), (6, .int x6), (7, .ref (eA E 92))]) hx hb dL_isSpoiled_92 hl (by decide) rfl (fun ls hl => ?_)
            exact h94 80 x3 x4 x5 x6 1 0 s39 _ _ _ hW (lv_sub hl [2, 3, 4, 5, 6, 7, 8, 9, 1, 0] rfl) hf
      · have hf := br_n c32 hf
        refine lv_aload hx hb dL_isSpoiled_41 (lv_at hl 7 rfl) ?_
        refine lv_iload hx hb dL_isSpoiled_43 (lv_at hl 8 rfl) ?_
        refine lv_aload_n hx hb dL_isSpoiled_45 rfl (lv_at hl 0 rfl) ?_
        refine lv_iload hx hb dL_isSpoiled_46 (lv_at hl 8 rfl) ?_
        refine lv_iconst (v := 1) hx hb dL_isSpoiled_48 (by decide) ?_
        obtain ⟨r42, s43, q41, hf⟩ := bo_inv hf
        refine ss_xcallVi (As := [.int x8, .int 1]) hx hb hml hown hK hW kb_X6_sampleOf kM_RL_24 rfl (okq_lt (by decide)) (c_fx (by decide)) (mX6_sampleOf l hfl (a1 := x8) (a2 := 1) q41) rfl dL_isSpoiled_49 rfl hl.1 (Nat.le_of_ble_eq_true rfl) ⟨Nat.le_of_ble_eq_true rfl, Nat.le_of_ble_eq_true rfl⟩ ⟨Nat.le_refl 1, Nat.le_refl 64⟩ (fun H locs hW => ?_)
        obtain ⟨hk44, hf⟩ := gd_inv hf
        refine s_LM hx hb hK hW hXX rfl hk44 dL_isSpoiled_52 (fun H locs hW => ?_)
        obtain ⟨s45, es45⟩ : ∃ y : Sg, y = (up2 s43 92 ((x8).toNatClampNeg) r42) := ⟨_, rfl⟩
        have hf := nm_use es45 hf
        rw [← es45] at hW
        obtain ⟨x8_46, ex8_46⟩ : ∃ y : Int32, y = (x8 + 1) := ⟨_, rfl⟩
        have hf := nm_use ex8_46 hf
        refine lv_iinc (v := x8_46) (lv' := [(8, .int x8_46), (0, .ref (eA E 0)), (1, .int a1), (2, .int a2), (3, .int x3), (4, .int x4), (5, .int x5), (6, .int x6), (7, .ref (eA E 92))]) hx hb dL_isSpoiled_53 hl (k := 8) rfl (by rw [ex8_46]; rfl) (by decide) rfl (fun ls hl => ?_)
        refine lv_goto (tgt := 34) hx hb dL_isSpoiled_56 (by decide) ?_
        exact ih34 x3 x4 x5 x6 x8_46 s45 _ _ _ hW (lv_sub hl [1, 2, 3, 4, 5, 6, 7, 8, 0] rfl) hf
  obtain ⟨s56, es56⟩ : ∃ y : Sg, y = (upR s55 92 (fun _ => 0)) := ⟨_, rfl⟩
  have hf := nm_use es56 hf
  rw [← es56] at hW
  refine lv_astore (lv' := [(7, .ref (eA E 92)), (6, .int 0), (5, .int r54), (4, .int r51), (3, .int r48), (0, .ref (eA E 0)), (1, .int a1), (2, .int a2)]) hx hb dL_isSpoiled_29 hl (by decide) rfl (fun ls hl => ?_)
  refine lv_iconst (v := 0) hx hb dL_isSpoiled_31 (by decide) ?_
  refine lv_istore (lv' := [(8, .int 0), (7, .ref (eA E 92)), (6, .int 0), (5, .int r54), (4, .int r51), (3, .int r48), (0, .ref (eA E 0)), (1, .int a1), (2, .int a2)]) hx hb dL_isSpoiled_32 hl (by decide) rfl (fun ls hl => ?_)
  exact h34 80 r48 r51 r54 0 0 s56 _ _ _ hW (lv_sub hl [6, 7, 8, 5, 4, 3, 2, 1, 0] rfl) hf
def fL_loads_L184 (a1 : Int32) (a2 : Int32) (n : Nat) (x3 : Int32) (x6 : Int32) (x7 : Int32) (σ : Sg) : Option (Int32 × Sg) := match n with
  | 0 => none
  | n + 1 => bo (fX6_blockOf a1 0 σ) fun r2 s3 => if r2 ≤ x7 then (gd (x6 = 0 ∨ x6 = 1) <| some (x6, s3)) else (if x6 = 0 then (gd (x6 = 0 ∨ x6 = 1) <| some (x6, s3)) else (bo (fX6_sampleOf ((x3 * a1) + x7) 1 s3) fun r9 s10 => bo (fX6_sampleOf ((x3 * a2) + x7) 1 s10) fun r12 s13 => if r9 = r12 then (nm (x7 + 1) fun x7_16 => (fun x3 x6 x7 σ => fL_loads_L184 a1 a2 n x3 x6 x7 σ) x3 1 x7_16 s13) else (nm (x7 + 1) fun x7_15 => (fun x3 x6 x7 σ => fL_loads_L184 a1 a2 n x3 x6 x7 σ) x3 0 x7_15 s13)))
def fL_loads_b136 (a1 : Int32) (a2 : Int32) (x3 : Int32) (x5 : Int32) (x6 : Int32) (σ : Sg) : Option (Int32 × Sg) := if x6 = 0 then (gd (x6 = 0 ∨ x6 = 1) <| some (x6, σ)) else (bo (fX6_blockOf a2 0 σ) fun r20 s21 => bo (fX6_blockOf a1 0 s21) fun r23 s24 => if r20 = r23 then (bo (fX6_write a1 s24) fun r28 s29 => if r28 = x5 then (bo (fX6_load a2 s29) fun r32 s33 => if r32 < 0 then (fL_loads_L184 a1 a2 80 x3 0 0 s33) else (fL_loads_L184 a1 a2 80 x3 1 0 s33)) else (fL_loads_L184 a1 a2 80 x3 0 0 s29)) else (gd (x6 = 0 ∨ x6 = 1) <| some (x6, s24)))
def fL_loads_b134 (a1 : Int32) (a2 : Int32) (x3 : Int32) (x5 : Int32) (k0 : Int32) (σ : Sg) : Option (Int32 × Sg) := fL_loads_b136 a1 a2 x3 x5 k0 σ
def fL_loads_b133 (a1 : Int32) (a2 : Int32) (x3 : Int32) (x5 : Int32) (σ : Sg) : Option (Int32 × Sg) := fL_loads_b134 a1 a2 x3 x5 0 σ
def fL_loads_b99 (a1 : Int32) (a2 : Int32) (x3 : Int32) (x4 : Int32) (x5 : Int32) (k0 : Int32) (σ : Sg) : Option (Int32 × Sg) := if x4 = 0 then (if k0 = 0 then (fL_loads_b133 a1 a2 x3 x5 σ) else (bo (fX6_write a1 σ) fun r38 s39 => if r38 = x5 then (bo (fX6_load a1 s39) fun r42 s43 => if r42 = 0 then (fL_loads_b134 a1 a2 x3 x5 1 s43) else (fL_loads_b133 a1 a2 x3 x5 s43)) else (fL_loads_b133 a1 a2 x3 x5 s39))) else (fL_loads_b136 a1 a2 x3 x5 k0 σ)
def fL_loads_b98 (a1 : Int32) (a2 : Int32) (x3 : Int32) (x4 : Int32) (x5 : Int32) (σ : Sg) : Option (Int32 × Sg) := fL_loads_b99 a1 a2 x3 x4 x5 0 σ
def fL_loads_b68 (a1 : Int32) (a2 : Int32) (x3 : Int32) (x4 : Int32) (x5 : Int32) (k0 : Int32) (σ : Sg) : Option (Int32 × Sg) := if k0 = 0 then (fL_loads_b98 a1 a2 x3 x4 x5 σ) else (bo (fX6_write a1 σ) fun r47 s48 => if r47 = x5 then (bd2 (fX6_clearBuffer s48) fun r51 s52 => if r51 = x5 then (fL_loads_b99 a1 a2 x3 x4 x5 1 s52) else (fL_loads_b98 a1 a2 x3 x4 x5 s52)) else (fL_loads_b98 a1 a2 x3 x4 x5 s48))
def fL_loads_b67 (a1 : Int32) (a2 : Int32) (x3 : Int32) (x4 : Int32) (x5 : Int32) (σ : Sg) : Option (Int32 × Sg) := fL_loads_b68 a1 a2 x3 x4 x5 0 σ
def fL_loads_b21 (a1 : Int32) (a2 : Int32) (x3 : Int32) (k0 : Int32) (σ : Sg) : Option (Int32 × Sg) := bo (fX6_write a1 σ) fun r55 s56 => bd2 (fX6_firstError s56) fun r58 s59 => if r58 = r55 then (bo (fX6_load a1 s59) fun r62 s63 => if r62 < 0 then (fL_loads_b67 a1 a2 x3 k0 r55 s63) else (bo (fX6_blockOf a1 3 s63) fun r66 s67 => if r66 = 0 then (bd2 (fX6_clearBuffer s67) fun r70 s71 => if r70 = 0 then (fL_loads_b68 a1 a2 x3 k0 r55 1 s71) else (fL_loads_b67 a1 a2 x3 k0 r55 s71)) else (fL_loads_b67 a1 a2 x3 k0 r55 s67))) else (fL_loads_b67 a1 a2 x3 k0 r55 s59)
def fL_loads (a1 : Int32) (a2 : Int32) (σ : Sg) : Option (Int32 × Sg) := bo (fX6_setting 0 σ) fun r74 s75 => bo (fX6_blockOf a1 3 s75) fun r77 s78 => if r77 = 1 then (fL_loads_b21 a1 a2 r74 1 s78) else (fL_loads_b21 a1 a2 r74 0 s78)
set_option maxHeartbeats 4000000 in
set_option maxRecDepth 100000 in
theorem mL_loads (l : Launch) (hfl : l.stackTraces = false) {E : En} {σ μ : Sg} {dg : Int64} {a1 : Int32} {a2 : Int32}  {r : Int32} {σ' : Sg} (hf : fL_loads a1 a2 σ = some (r, σ')) : Met l yL_loads [.code yL_loads cL_loads 8 (some .boolean)] (Rm 8 165) (va_Pc [.ref (eA E 0), .int a1, .int a2] (Wd E σ μ dg)) (Qi E σ' μ dg r) 0 0 (eP E) := by
  refine ss_of (by decide) (Nat.le_of_ble_eq_true rfl) (fun p e s m below meth c hx hb hr hlk hml hown hK hW ls hl => ?_)
  have hown : s.vm.findClass RL = some m.cls := hown
  have hl : lv_has ls 8 [(0, .ref (eA E 0)), (1, .int a1), (2, .int a2)] := hl
  unfold fL_loads at hf
  have h184 : ∀ (n184 : Nat) (x3 : Int32) (x6 : Int32) (x7 : Int32) (σ : Sg) (H : Heap) (locs : List Loc) (ls : Array Slot), Wk E σ μ dg s H locs → lv_has ls 8 [(0, .ref (eA E 0)), (1, .int a1), (2, .int a2), (3, .int x3), (6, .int x6), (7, .int x7)] → fL_loads_L184 a1 a2 n184 x3 x6 x7 σ = some (r, σ') → W p l e (Rm 8 165) s m [.ref (eA E 0), .int a1, .int a2].toArray below meth c H locs 0 0 (MQ below (Qi E σ' μ dg r) [.ref (eA E 0), .int a1, .int a2].toArray s 0 0 (eP E)) (F0 m 184 ls []) := by
    intro n184
    induction n184 with
    | zero =>
      intro x3 x6 x7 σ  H locs ls hW hl hf
      exact absurd hf (by simp [fL_loads_L184])
    | succ n184 ih184 =>
      intro x3 x6 x7 σ  H locs ls hW hl hf
      rw [fL_loads_L184] at hf
      refine lv_iload hx hb dL_loads_184 (lv_at hl 5 rfl) ?_
      refine lv_aload_n hx hb dL_loads_186 rfl (lv_at hl 0 rfl) ?_
      refine lv_iload_n hx hb dL_loads_187 rfl (lv_at hl 1 rfl) ?_
      refine lv_iconst (v := 0) hx hb dL_loads_188 (by decide) ?_
      obtain ⟨r2, s3, q1, hf⟩ := bo_inv hf
      refine ss_xcallVi (As := [.int a1, .int 0]) hx hb hml hown hK hW kb_X6_blockOf kM_RL_64 rfl (okq_lt (by decide)) (c_fx (by decide)) (mX6_blockOf l hfl (a1 := a1) (a2 := 0) q1) rfl dL_loads_189 rfl hl.1 (Nat.le_of_ble_eq_true rfl) ⟨Nat.le_of_ble_eq_true rfl, Nat.le_of_ble_eq_true rfl⟩ ⟨Nat.zero_le _, Nat.zero_le _⟩ (fun H locs hW => ?_)
      refine lv_icmp_ge (tgt := 238) hx hb dL_loads_192 (by decide) (fun c4 => ?_) (fun c4 => ?_)
      · have hf := br_p c4 hf
        refine lv_iload hx hb dL_loads_238 (lv_at hl 4 rfl) ?_
        obtain ⟨hz5, hf⟩ := gd_inv hf
        cases hf
        exact ss_zret hx hb hr hlk hW rfl (zb_n hz5) dL_loads_240
      · have hf := br_n c4 hf
        refine lv_iload hx hb dL_loads_195 (lv_at hl 4 rfl) ?_
        refine lv_if_eq (tgt := 238) hx hb dL_loads_197 (by decide) (fun c6 => ?_) (fun c6 => ?_)
        · have hf := br_p c6 hf
          refine lv_iload hx hb dL_loads_238 (lv_at hl 4 rfl) ?_
          obtain ⟨hz7, hf⟩ := gd_inv hf
          cases hf
          exact ss_zret hx hb hr hlk hW rfl (zb_n hz7) dL_loads_240
        · have hf := br_n c6 hf
          refine lv_aload_n hx hb dL_loads_200 rfl (lv_at hl 0 rfl) ?_
          refine lv_iload_n hx hb dL_loads_201 rfl (lv_at hl 3 rfl) ?_
          refine lv_iload_n hx hb dL_loads_202 rfl (lv_at hl 1 rfl) ?_
          refine lv_imul hx hb dL_loads_203 ?_
          refine lv_iload hx hb dL_loads_204 (lv_at hl 5 rfl) ?_
          refine lv_iadd hx hb dL_loads_206 ?_
          refine lv_iconst (v := 1) hx hb dL_loads_207 (by decide) ?_
          obtain ⟨r9, s10, q8, hf⟩ := bo_inv hf
          refine ss_xcallVi (As := [.int ((x3 * a1) + x7), .int 1]) hx hb hml hown hK hW kb_X6_sampleOf kM_RL_24 rfl (okq_lt (by decide)) (c_fx (by decide)) (mX6_sampleOf l hfl (a1 := ((x3 * a1) + x7)) (a2 := 1) q8) rfl dL_loads_208 rfl hl.1 (Nat.le_of_ble_eq_true rfl) ⟨Nat.le_of_ble_eq_true rfl, Nat.le_of_ble_eq_true rfl⟩ ⟨Nat.zero_le _, Nat.zero_le _⟩ (fun H locs hW => ?_)
          refine lv_aload_n hx hb dL_loads_211 rfl (lv_at hl 0 rfl) ?_
          refine lv_iload_n hx hb dL_loads_212 rfl (lv_at hl 3 rfl) ?_
          refine lv_iload_n hx hb dL_loads_213 rfl (lv_at hl 2 rfl) ?_
          refine lv_imul hx hb dL_loads_214 ?_
          refine lv_iload hx hb dL_loads_215 (lv_at hl 5 rfl) ?_
          refine lv_iadd hx hb dL_loads_217 ?_
          refine lv_iconst (v := 1) hx hb dL_loads_218 (by decide) ?_
          obtain ⟨r12, s13, q11, hf⟩ := bo_inv hf
          refine ss_xcallVi (As := [.int ((x3 * a2) + x7), .int 1]) hx hb hml hown hK hW kb_X6_sampleOf kM_RL_24 rfl (okq_lt (by decide)) (c_fx (by decide)) (mX6_sampleOf l hfl (a1 := ((x3 * a2) + x7)) (a2 := 1) q11) rfl dL_loads_219 rfl hl.1 (Nat.le_of_ble_eq_true rfl) ⟨Nat.le_of_ble_eq_true rfl, Nat.le_of_ble_eq_true rfl⟩ ⟨Nat.zero_le _, Nat.zero_le _⟩ (fun H locs hW => ?_)
          refine lv_icmp_ne (tgt := 229) hx hb dL_loads_222 (by decide) (fun c14 => ?_) (fun c14 => ?_)
          · have hf := br_n c14 hf
            refine lv_iconst (v := 0) hx hb dL_loads_229 (by decide) ?_
            refine lv_istore (lv' := [(6, .int 0), (0, .ref (eA E 0)), (1, .int a1), (2, .int a2), (3, .int x3), (7, .int x7)]) hx hb dL_loads_230 hl (by decide) rfl (fun ls hl => ?_)
            obtain ⟨x7_15, ex7_15⟩ : ∃ y : Int32, y = (x7 + 1) := ⟨_, rfl⟩
            have hf := nm_use ex7_15 hf
            refine lv_iinc (v := x7_15) (lv' := [(7, .int x7_15), (6, .int 0), (0, .ref (eA E 0)), (1, .int a1), (2, .int a2), (3, .int x3)]) hx hb dL_loads_232 hl (k := 5) rfl (by rw [ex7_15]; rfl) (by decide) rfl (fun ls hl => ?_)
            refine lv_goto (tgt := 184) hx hb dL_loads_235 (by decide) ?_
            exact ih184 x3 0 x7_15 s13 _ _ _ hW (lv_sub hl [2, 3, 4, 5, 1, 0] rfl) hf
          · have hf := br_p c14 hf
            refine lv_iconst (v := 1) hx hb dL_loads_225 (by decide) ?_
            refine lv_goto (tgt := 230) hx hb dL_loads_226 (by decide) ?_
            refine lv_istore (lv' := [(6, .int 1), (0, .ref (eA E 0)), (1, .int a1), (2, .int a2), (3, .int x3), (7, .int x7)]) hx hb dL_loads_230 hl (by decide) rfl (fun ls hl => ?_)
            obtain ⟨x7_16, ex7_16⟩ : ∃ y : Int32, y = (x7 + 1) := ⟨_, rfl⟩
            have hf := nm_use ex7_16 hf
            refine lv_iinc (v := x7_16) (lv' := [(7, .int x7_16), (6, .int 1), (0, .ref (eA E 0)), (1, .int a1), (2, .int a2), (3, .int x3)]) hx hb dL_loads_232 hl (k := 5) rfl (by rw [ex7_16]; rfl) (by decide) rfl (fun ls hl => ?_)
            refine lv_goto (tgt := 184) hx hb dL_loads_235 (by decide) ?_
            exact ih184 x3 1 x7_16 s13 _ _ _ hW (lv_sub hl [2, 3, 4, 5, 1, 0] rfl) hf
  have h136 : ∀ (x3 : Int32) (x5 : Int32) (x6 : Int32) (σ : Sg) (H : Heap) (locs : List Loc) (ls : Array Slot), Wk E σ μ dg s H locs → lv_has ls 8 [(0, .ref (eA E 0)), (1, .int a1), (2, .int a2), (3, .int x3), (5, .int x5), (6, .int x6)] → fL_loads_b136 a1 a2 x3 x5 x6 σ = some (r, σ') → W p l e (Rm 8 165) s m [.ref (eA E 0), .int a1, .int a2].toArray below meth c H locs 0 0 (MQ below (Qi E σ' μ dg r) [.ref (eA E 0), .int a1, .int a2].toArray s 0 0 (eP E)) (F0 m 136 ls []) := by
    intro x3 x5 x6 σ  H locs ls hW hl hf
    unfold fL_loads_b136 at hf
    refine lv_iload hx hb dL_loads_136 (lv_at hl 5 rfl) ?_
    refine lv_if_eq (tgt := 238) hx hb dL_loads_138 (by decide) (fun c17 => ?_) (fun c17 => ?_)
    · have hf := br_p c17 hf
      refine lv_iload hx hb dL_loads_238 (lv_at hl 5 rfl) ?_
      obtain ⟨hz18, hf⟩ := gd_inv hf
      cases hf
      exact ss_zret hx hb hr hlk hW rfl (zb_n hz18) dL_loads_240
    · have hf := br_n c17 hf
      refine lv_aload_n hx hb dL_loads_141 rfl (lv_at hl 0 rfl) ?_
      refine lv_iload_n hx hb dL_loads_142 rfl (lv_at hl 2 rfl) ?_
      refine lv_iconst (v := 0) hx hb dL_loads_143 (by decide) ?_
      obtain ⟨r20, s21, q19, hf⟩ := bo_inv hf
      refine ss_xcallVi (As := [.int a2, .int 0]) hx hb hml hown hK hW kb_X6_blockOf kM_RL_64 rfl (okq_lt (by decide)) (c_fx (by decide)) (mX6_blockOf l hfl (a1 := a2) (a2 := 0) q19) rfl dL_loads_144 rfl hl.1 (Nat.le_of_ble_eq_true rfl) ⟨Nat.le_of_ble_eq_true rfl, Nat.le_of_ble_eq_true rfl⟩ ⟨Nat.zero_le _, Nat.zero_le _⟩ (fun H locs hW => ?_)
      refine lv_aload_n hx hb dL_loads_147 rfl (lv_at hl 0 rfl) ?_
      refine lv_iload_n hx hb dL_loads_148 rfl (lv_at hl 1 rfl) ?_
      refine lv_iconst (v := 0) hx hb dL_loads_149 (by decide) ?_
      obtain ⟨r23, s24, q22, hf⟩ := bo_inv hf
      refine ss_xcallVi (As := [.int a1, .int 0]) hx hb hml hown hK hW kb_X6_blockOf kM_RL_64 rfl (okq_lt (by decide)) (c_fx (by decide)) (mX6_blockOf l hfl (a1 := a1) (a2 := 0) q22) rfl dL_loads_150 rfl hl.1 (Nat.le_of_ble_eq_true rfl) ⟨Nat.le_of_ble_eq_true rfl, Nat.le_of_ble_eq_true rfl⟩ ⟨Nat.zero_le _, Nat.zero_le _⟩ (fun H locs hW => ?_)
      refine lv_icmp_ne (tgt := 238) hx hb dL_loads_153 (by decide) (fun c25 => ?_) (fun c25 => ?_)
      · have hf := br_n c25 hf
        refine lv_iload hx hb dL_loads_238 (lv_at hl 5 rfl) ?_
        obtain ⟨hz26, hf⟩ := gd_inv hf
        cases hf
        exact ss_zret hx hb hr hlk hW rfl (zb_n hz26) dL_loads_240
      · have hf := br_p c25 hf
        refine lv_aload_n hx hb dL_loads_156 rfl (lv_at hl 0 rfl) ?_
        refine lv_iload_n hx hb dL_loads_157 rfl (lv_at hl 1 rfl) ?_
        obtain ⟨r28, s29, q27, hf⟩ := bo_inv hf
        refine ss_xcallVi (As := [.int a1]) hx hb hml hown hK hW kb_X6_write kM_RL_67 rfl (okq_lt (by decide)) (c_fx (by decide)) (mX6_write l hfl (a1 := a1) q27) rfl dL_loads_158 rfl hl.1 (Nat.le_of_ble_eq_true rfl) ⟨Nat.le_of_ble_eq_true rfl, Nat.le_of_ble_eq_true rfl⟩ ⟨Nat.zero_le _, Nat.zero_le _⟩ (fun H locs hW => ?_)
        refine lv_iload hx hb dL_loads_161 (lv_at hl 4 rfl) ?_
        refine lv_icmp_ne (tgt := 178) hx hb dL_loads_163 (by decide) (fun c30 => ?_) (fun c30 => ?_)
        · have hf := br_n c30 hf
          refine lv_iconst (v := 0) hx hb dL_loads_178 (by decide) ?_
          refine lv_istore (lv' := [(6, .int 0), (0, .ref (eA E 0)), (1, .int a1), (2, .int a2), (3, .int x3), (5, .int x5)]) hx hb dL_loads_179 hl (by decide) rfl (fun ls hl => ?_)
          refine lv_iconst (v := 0) hx hb dL_loads_181 (by decide) ?_
          refine lv_istore (lv' := [(7, .int 0), (6, .int 0), (0, .ref (eA E 0)), (1, .int a1), (2, .int a2), (3, .int x3), (5, .int x5)]) hx hb dL_loads_182 hl (by decide) rfl (fun ls hl => ?_)
          exact h184 80 x3 0 0 s29 _ _ _ hW (lv_sub hl [2, 3, 4, 5, 1, 0] rfl) hf
        · have hf := br_p c30 hf
          refine lv_aload_n hx hb dL_loads_166 rfl (lv_at hl 0 rfl) ?_
          refine lv_iload_n hx hb dL_loads_167 rfl (lv_at hl 2 rfl) ?_
          obtain ⟨r32, s33, q31, hf⟩ := bo_inv hf
          refine ss_xcallVi (As := [.int a2]) hx hb hml hown hK hW kb_X6_load kM_RL_73 rfl (okq_lt (by decide)) (c_fx (by decide)) (mX6_load l hfl (a1 := a2) q31) rfl dL_loads_168 rfl hl.1 (Nat.le_of_ble_eq_true rfl) ⟨Nat.le_of_ble_eq_true rfl, Nat.le_of_ble_eq_true rfl⟩ ⟨Nat.zero_le _, Nat.zero_le _⟩ (fun H locs hW => ?_)
          refine lv_if_lt (tgt := 178) hx hb dL_loads_171 (by decide) (fun c34 => ?_) (fun c34 => ?_)
          · have hf := br_p c34 hf
            refine lv_iconst (v := 0) hx hb dL_loads_178 (by decide) ?_
            refine lv_istore (lv' := [(6, .int 0), (0, .ref (eA E 0)), (1, .int a1), (2, .int a2), (3, .int x3), (5, .int x5)]) hx hb dL_loads_179 hl (by decide) rfl (fun ls hl => ?_)
            refine lv_iconst (v := 0) hx hb dL_loads_181 (by decide) ?_
            refine lv_istore (lv' := [(7, .int 0), (6, .int 0), (0, .ref (eA E 0)), (1, .int a1), (2, .int a2), (3, .int x3), (5, .int x5)]) hx hb dL_loads_182 hl (by decide) rfl (fun ls hl => ?_)
            exact h184 80 x3 0 0 s33 _ _ _ hW (lv_sub hl [2, 3, 4, 5, 1, 0] rfl) hf
          · have hf := br_n c34 hf
            refine lv_iconst (v := 1) hx hb dL_loads_174 (by decide) ?_
            refine lv_goto (tgt := 179) hx hb dL_loads_175 (by decide) ?_
            refine lv_istore (lv' := [(6, .int 1), (0, .ref (eA E 0)), (1, .int a1), (2, .int a2), (3, .int x3), (5, .int x5)]) hx hb dL_loads_179 hl (by decide) rfl (fun ls hl => ?_)
            refine lv_iconst (v := 0) hx hb dL_loads_181 (by decide) ?_
            refine lv_istore (lv' := [(7, .int 0), (6, .int 1), (0, .ref (eA E 0)), (1, .int a1), (2, .int a2), (3, .int x3), (5, .int x5)]) hx hb dL_loads_182 hl (by decide) rfl (fun ls hl => ?_)
            exact h184 80 x3 1 0 s33 _ _ _ hW (lv_sub hl [2, 3, 4, 5, 1, 0] rfl) hf
  have h134 : ∀ (x3 : Int32) (x5 : Int32) (k0 : Int32) (σ : Sg) (H : Heap) (locs : List Loc) (ls : Array Slot), Wk E σ μ dg s H locs → lv_has ls 8 [(0, .ref (eA E 0)), (1, .int a1), (2, .int a2), (3, .int x3), (5, .int x5)] → fL_loads_b134 a1 a2 x3 x5 k0 σ = some (r, σ') → W p l e (Rm 8 165) s m [.ref (eA E 0), .int a1, .int a2].toArray below meth c H locs 0 0 (MQ below (Qi E σ' μ dg r) [.ref (eA E 0), .int a1, .int a2].toArray s 0 0 (eP E)) (F0 m 134 ls [.int k0]) := by
    intro x3 x5 k0 σ  H locs ls hW hl hf
    unfold fL_loads_b134 at hf
    refine lv_istore (lv' := [(6, .int k0), (0, .ref (eA E 0)), (1, .int a1), (2, .int a2), (3, .int x3), (5, .int x5)]) hx hb dL_loads_134 hl (by decide) rfl (fun ls hl => ?_)
    exact h136 x3 x5 k0 σ _ _ _ hW (lv_sub hl [1, 2, 3, 4, 5, 0] rfl) hf
  have h133 : ∀ (x3 : Int32) (x5 : Int32) (σ : Sg) (H : Heap) (locs : List Loc) (ls : Array Slot), Wk E σ μ dg s H locs → lv_has ls 8 [(0, .ref (eA E 0)), (1, .int a1), (2, .int a2), (3, .int x3), (5, .int x5)] → fL_loads_b133 a1 a2 x3 x5 σ = some (r, σ') → W p l e (Rm 8 165) s m [.ref (eA E 0), .int a1, .int a2].toArray below meth c H locs 0 0 (MQ below (Qi E σ' μ dg r) [.ref (eA E 0), .int a1, .int a2].toArray s 0 0 (eP E)) (F0 m 133 ls []) := by
    intro x3 x5 σ  H locs ls hW hl hf
    unfold fL_loads_b133 at hf
    refine lv_iconst (v := 0) hx hb dL_loads_133 (by decide) ?_
    exact h134 x3 x5 0 σ _ _ _ hW (lv_sub hl [0, 1, 2, 3, 4] rfl) hf
  have h99 : ∀ (x3 : Int32) (x4 : Int32) (x5 : Int32) (k0 : Int32) (σ : Sg) (H : Heap) (locs : List Loc) (ls : Array Slot), Wk E σ μ dg s H locs → lv_has ls 8 [(0, .ref (eA E 0)), (1, .int a1), (2, .int a2), (3, .int x3), (4, .int x4), (5, .int x5)] → fL_loads_b99 a1 a2 x3 x4 x5 k0 σ = some (r, σ') → W p l e (Rm 8 165) s m [.ref (eA E 0), .int a1, .int a2].toArray below meth c H locs 0 0 (MQ below (Qi E σ' μ dg r) [.ref (eA E 0), .int a1, .int a2].toArray s 0 0 (eP E)) (F0 m 99 ls [.int k0]) := by
    intro x3 x4 x5 k0 σ  H locs ls hW hl hf
    unfold fL_loads_b99 at hf
    refine lv_istore (lv' := [(6, .int k0), (0, .ref (eA E 0)), (1, .int a1), (2, .int a2), (3, .int x3), (4, .int x4), (5, .int x5)]) hx hb dL_loads_99 hl (by decide) rfl (fun ls hl => ?_)
    refine lv_iload hx hb dL_loads_101 (lv_at hl 5 rfl) ?_
    refine lv_if_ne (tgt := 136) hx hb dL_loads_103 (by decide) (fun c35 => ?_) (fun c35 => ?_)
    · have hf := br_n c35 hf
      exact h136 x3 x5 k0 σ _ _ _ hW (lv_sub hl [1, 2, 3, 4, 6, 0] rfl) hf
    · have hf := br_p c35 hf
      refine lv_iload hx hb dL_loads_106 (lv_at hl 0 rfl) ?_
      refine lv_if_eq (tgt := 133) hx hb dL_loads_108 (by decide) (fun c36 => ?_) (fun c36 => ?_)
      · have hf := br_p c36 hf
        exact h133 x3 x5 σ _ _ _ hW (lv_sub hl [1, 2, 3, 4, 6] rfl) hf
      · have hf := br_n c36 hf
        refine lv_aload_n hx hb dL_loads_111 rfl (lv_at hl 1 rfl) ?_
        refine lv_iload_n hx hb dL_loads_112 rfl (lv_at hl 2 rfl) ?_
        obtain ⟨r38, s39, q37, hf⟩ := bo_inv hf
        refine ss_xcallVi (As := [.int a1]) hx hb hml hown hK hW kb_X6_write kM_RL_67 rfl (okq_lt (by decide)) (c_fx (by decide)) (mX6_write l hfl (a1 := a1) q37) rfl dL_loads_113 rfl hl.1 (Nat.le_of_ble_eq_true rfl) ⟨Nat.le_of_ble_eq_true rfl, Nat.le_of_ble_eq_true rfl⟩ ⟨Nat.zero_le _, Nat.zero_le _⟩ (fun H locs hW => ?_)
        refine lv_iload hx hb dL_loads_116 (lv_at hl 6 rfl) ?_
        refine lv_icmp_ne (tgt := 133) hx hb dL_loads_118 (by decide) (fun c40 => ?_) (fun c40 => ?_)
        · have hf := br_n c40 hf
          exact h133 x3 x5 s39 _ _ _ hW (lv_sub hl [1, 2, 3, 4, 6] rfl) hf
        · have hf := br_p c40 hf
          refine lv_aload_n hx hb dL_loads_121 rfl (lv_at hl 1 rfl) ?_
          refine lv_iload_n hx hb dL_loads_122 rfl (lv_at hl 2 rfl) ?_
          obtain ⟨r42, s43, q41, hf⟩ := bo_inv hf
          refine ss_xcallVi (As := [.int a1]) hx hb hml hown hK hW kb_X6_load kM_RL_73 rfl (okq_lt (by decide)) (c_fx (by decide)) (mX6_load l hfl (a1 := a1) q41) rfl dL_loads_123 rfl hl.1 (Nat.le_of_ble_eq_true rfl) ⟨Nat.le_of_ble_eq_true rfl, Nat.le_of_ble_eq_true rfl⟩ ⟨Nat.zero_le _, Nat.zero_le _⟩ (fun H locs hW => ?_)
          refine lv_if_ne (tgt := 133) hx hb dL_loads_126 (by decide) (fun c44 => ?_) (fun c44 => ?_)
          · have hf := br_n c44 hf
            exact h133 x3 x5 s43 _ _ _ hW (lv_sub hl [1, 2, 3, 4, 6] rfl) hf
          · have hf := br_p c44 hf
            refine lv_iconst (v := 1) hx hb dL_loads_129 (by decide) ?_
            refine lv_goto (tgt := 134) hx hb dL_loads_130 (by decide) ?_
            exact h134 x3 x5 1 s43 _ _ _ hW (lv_sub hl [1, 2, 3, 4, 6] rfl) hf
  have h98 : ∀ (x3 : Int32) (x4 : Int32) (x5 : Int32) (σ : Sg) (H : Heap) (locs : List Loc) (ls : Array Slot), Wk E σ μ dg s H locs → lv_has ls 8 [(0, .ref (eA E 0)), (1, .int a1), (2, .int a2), (3, .int x3), (4, .int x4), (5, .int x5)] → fL_loads_b98 a1 a2 x3 x4 x5 σ = some (r, σ') → W p l e (Rm 8 165) s m [.ref (eA E 0), .int a1, .int a2].toArray below meth c H locs 0 0 (MQ below (Qi E σ' μ dg r) [.ref (eA E 0), .int a1, .int a2].toArray s 0 0 (eP E)) (F0 m 98 ls []) := by
    intro x3 x4 x5 σ  H locs ls hW hl hf
    unfold fL_loads_b98 at hf
    refine lv_iconst (v := 0) hx hb dL_loads_98 (by decide) ?_
    exact h99 x3 x4 x5 0 σ _ _ _ hW (lv_sub hl [0, 1, 2, 3, 4, 5] rfl) hf
  have h68 : ∀ (x3 : Int32) (x4 : Int32) (x5 : Int32) (k0 : Int32) (σ : Sg) (H : Heap) (locs : List Loc) (ls : Array Slot), Wk E σ μ dg s H locs → lv_has ls 8 [(0, .ref (eA E 0)), (1, .int a1), (2, .int a2), (3, .int x3), (4, .int x4), (5, .int x5)] → fL_loads_b68 a1 a2 x3 x4 x5 k0 σ = some (r, σ') → W p l e (Rm 8 165) s m [.ref (eA E 0), .int a1, .int a2].toArray below meth c H locs 0 0 (MQ below (Qi E σ' μ dg r) [.ref (eA E 0), .int a1, .int a2].toArray s 0 0 (eP E)) (F0 m 68 ls [.int k0]) := by
    intro x3 x4 x5 k0 σ  H locs ls hW hl hf
    unfold fL_loads_b68 at hf
    refine lv_istore (lv' := [(6, .int k0), (0, .ref (eA E 0)), (1, .int a1), (2, .int a2), (3, .int x3), (4, .int x4), (5, .int x5)]) hx hb dL_loads_68 hl (by decide) rfl (fun ls hl => ?_)
    refine lv_iload hx hb dL_loads_70 (lv_at hl 0 rfl) ?_
    refine lv_if_eq (tgt := 98) hx hb dL_loads_72 (by decide) (fun c45 => ?_) (fun c45 => ?_)
    · have hf := br_p c45 hf
      exact h98 x3 x4 x5 σ _ _ _ hW (lv_sub hl [1, 2, 3, 4, 5, 6] rfl) hf
    · have hf := br_n c45 hf
      refine lv_aload_n hx hb dL_loads_75 rfl (lv_at hl 1 rfl) ?_
      refine lv_iload_n hx hb dL_loads_76 rfl (lv_at hl 2 rfl) ?_
      obtain ⟨r47, s48, q46, hf⟩ := bo_inv hf
      refine ss_xcallVi (As := [.int a1]) hx hb hml hown hK hW kb_X6_write kM_RL_67 rfl (okq_lt (by decide)) (c_fx (by decide)) (mX6_write l hfl (a1 := a1) q46) rfl dL_loads_77 rfl hl.1 (Nat.le_of_ble_eq_true rfl) ⟨Nat.le_of_ble_eq_true rfl, Nat.le_of_ble_eq_true rfl⟩ ⟨Nat.zero_le _, Nat.zero_le _⟩ (fun H locs hW => ?_)
      refine lv_iload hx hb dL_loads_80 (lv_at hl 6 rfl) ?_
      refine lv_icmp_ne (tgt := 98) hx hb dL_loads_82 (by decide) (fun c49 => ?_) (fun c49 => ?_)
      · have hf := br_n c49 hf
        exact h98 x3 x4 x5 s48 _ _ _ hW (lv_sub hl [1, 2, 3, 4, 5, 6] rfl) hf
      · have hf := br_p c49 hf
        refine lv_aload_n hx hb dL_loads_85 rfl (lv_at hl 1 rfl) ?_
        obtain ⟨r51, s52, q50, hf⟩ := bd2_inv hf
        refine ss_callVi (As := []) hx hb hml hown hK hW kb_X6_clearBuffer kM_RL_76 rfl (okq_lt (by decide)) (c_fx (by decide)) (mX6_clearBuffer l  q50) rfl dL_loads_86 rfl hl.1 (Nat.le_of_ble_eq_true rfl) ⟨Nat.le_of_ble_eq_true rfl, Nat.le_of_ble_eq_true rfl⟩ ⟨Nat.zero_le _, Nat.zero_le _⟩ (fun H locs hW => ?_)
        refine lv_iload hx hb dL_loads_89 (lv_at hl 6 rfl) ?_
        refine lv_icmp_ne (tgt := 98) hx hb dL_loads_91 (by decide) (fun c53 => ?_) (fun c53 => ?_)
        · have hf := br_n c53 hf
          exact h98 x3 x4 x5 s52 _ _ _ hW (lv_sub hl [1, 2, 3, 4, 5, 6] rfl) hf
        · have hf := br_p c53 hf
          refine lv_iconst (v := 1) hx hb dL_loads_94 (by decide) ?_
          refine lv_goto (tgt := 99) hx hb dL_loads_95 (by decide) ?_
          exact h99 x3 x4 x5 1 s52 _ _ _ hW (lv_sub hl [1, 2, 3, 4, 5, 6] rfl) hf
  have h67 : ∀ (x3 : Int32) (x4 : Int32) (x5 : Int32) (σ : Sg) (H : Heap) (locs : List Loc) (ls : Array Slot), Wk E σ μ dg s H locs → lv_has ls 8 [(0, .ref (eA E 0)), (1, .int a1), (2, .int a2), (3, .int x3), (4, .int x4), (5, .int x5)] → fL_loads_b67 a1 a2 x3 x4 x5 σ = some (r, σ') → W p l e (Rm 8 165) s m [.ref (eA E 0), .int a1, .int a2].toArray below meth c H locs 0 0 (MQ below (Qi E σ' μ dg r) [.ref (eA E 0), .int a1, .int a2].toArray s 0 0 (eP E)) (F0 m 67 ls []) := by
    intro x3 x4 x5 σ  H locs ls hW hl hf
    unfold fL_loads_b67 at hf
    refine lv_iconst (v := 0) hx hb dL_loads_67 (by decide) ?_
    exact h68 x3 x4 x5 0 σ _ _ _ hW (lv_sub hl [0, 1, 2, 3, 4, 5] rfl) hf
  have h21 : ∀ (x3 : Int32) (k0 : Int32) (σ : Sg) (H : Heap) (locs : List Loc) (ls : Array Slot), Wk E σ μ dg s H locs → lv_has ls 8 [(0, .ref (eA E 0)), (1, .int a1), (2, .int a2), (3, .int x3)] → fL_loads_b21 a1 a2 x3 k0 σ = some (r, σ') → W p l e (Rm 8 165) s m [.ref (eA E 0), .int a1, .int a2].toArray below meth c H locs 0 0 (MQ below (Qi E σ' μ dg r) [.ref (eA E 0), .int a1, .int a2].toArray s 0 0 (eP E)) (F0 m 21 ls [.int k0]) := by
    intro x3 k0 σ  H locs ls hW hl hf
    unfold fL_loads_b21 at hf
    refine lv_istore (lv' := [(4, .int k0), (0, .ref (eA E 0)), (1, .int a1), (2, .int a2), (3, .int x3)]) hx hb dL_loads_21 hl (by decide) rfl (fun ls hl => ?_)
    refine lv_aload_n hx hb dL_loads_23 rfl (lv_at hl 1 rfl) ?_
    refine lv_iload_n hx hb dL_loads_24 rfl (lv_at hl 2 rfl) ?_
    obtain ⟨r55, s56, q54, hf⟩ := bo_inv hf
    refine ss_xcallVi (As := [.int a1]) hx hb hml hown hK hW kb_X6_write kM_RL_67 rfl (okq_lt (by decide)) (c_fx (by decide)) (mX6_write l hfl (a1 := a1) q54) rfl dL_loads_25 rfl hl.1 (Nat.le_of_ble_eq_true rfl) ⟨Nat.le_of_ble_eq_true rfl, Nat.le_of_ble_eq_true rfl⟩ ⟨Nat.zero_le _, Nat.zero_le _⟩ (fun H locs hW => ?_)
    refine lv_istore (lv' := [(5, .int r55), (4, .int k0), (0, .ref (eA E 0)), (1, .int a1), (2, .int a2), (3, .int x3)]) hx hb dL_loads_28 hl (by decide) rfl (fun ls hl => ?_)
    refine lv_aload_n hx hb dL_loads_30 rfl (lv_at hl 2 rfl) ?_
    obtain ⟨r58, s59, q57, hf⟩ := bd2_inv hf
    refine ss_callVi (As := []) hx hb hml hown hK hW kb_X6_firstError kM_RL_70 rfl (okq_lt (by decide)) (c_fx (by decide)) (mX6_firstError l  q57) rfl dL_loads_31 rfl hl.1 (Nat.le_of_ble_eq_true rfl) ⟨Nat.le_of_ble_eq_true rfl, Nat.le_of_ble_eq_true rfl⟩ ⟨Nat.zero_le _, Nat.zero_le _⟩ (fun H locs hW => ?_)
    refine lv_iload hx hb dL_loads_34 (lv_at hl 0 rfl) ?_
    refine lv_icmp_ne (tgt := 67) hx hb dL_loads_36 (by decide) (fun c60 => ?_) (fun c60 => ?_)
    · have hf := br_n c60 hf
      exact h67 x3 k0 r55 s59 _ _ _ hW (lv_sub hl [2, 3, 4, 5, 1, 0] rfl) hf
    · have hf := br_p c60 hf
      refine lv_aload_n hx hb dL_loads_39 rfl (lv_at hl 2 rfl) ?_
      refine lv_iload_n hx hb dL_loads_40 rfl (lv_at hl 3 rfl) ?_
      obtain ⟨r62, s63, q61, hf⟩ := bo_inv hf
      refine ss_xcallVi (As := [.int a1]) hx hb hml hown hK hW kb_X6_load kM_RL_73 rfl (okq_lt (by decide)) (c_fx (by decide)) (mX6_load l hfl (a1 := a1) q61) rfl dL_loads_41 rfl hl.1 (Nat.le_of_ble_eq_true rfl) ⟨Nat.le_of_ble_eq_true rfl, Nat.le_of_ble_eq_true rfl⟩ ⟨Nat.zero_le _, Nat.zero_le _⟩ (fun H locs hW => ?_)
      refine lv_if_lt (tgt := 67) hx hb dL_loads_44 (by decide) (fun c64 => ?_) (fun c64 => ?_)
      · have hf := br_p c64 hf
        exact h67 x3 k0 r55 s63 _ _ _ hW (lv_sub hl [2, 3, 4, 5, 1, 0] rfl) hf
      · have hf := br_n c64 hf
        refine lv_aload_n hx hb dL_loads_47 rfl (lv_at hl 2 rfl) ?_
        refine lv_iload_n hx hb dL_loads_48 rfl (lv_at hl 3 rfl) ?_
        refine lv_iconst (v := 3) hx hb dL_loads_49 (by decide) ?_
        obtain ⟨r66, s67, q65, hf⟩ := bo_inv hf
        refine ss_xcallVi (As := [.int a1, .int 3]) hx hb hml hown hK hW kb_X6_blockOf kM_RL_64 rfl (okq_lt (by decide)) (c_fx (by decide)) (mX6_blockOf l hfl (a1 := a1) (a2 := 3) q65) rfl dL_loads_50 rfl hl.1 (Nat.le_of_ble_eq_true rfl) ⟨Nat.le_of_ble_eq_true rfl, Nat.le_of_ble_eq_true rfl⟩ ⟨Nat.zero_le _, Nat.zero_le _⟩ (fun H locs hW => ?_)
        refine lv_if_ne (tgt := 67) hx hb dL_loads_53 (by decide) (fun c68 => ?_) (fun c68 => ?_)
        · have hf := br_n c68 hf
          exact h67 x3 k0 r55 s67 _ _ _ hW (lv_sub hl [2, 3, 4, 5, 1, 0] rfl) hf
        · have hf := br_p c68 hf
          refine lv_aload_n hx hb dL_loads_56 rfl (lv_at hl 2 rfl) ?_
          obtain ⟨r70, s71, q69, hf⟩ := bd2_inv hf
          refine ss_callVi (As := []) hx hb hml hown hK hW kb_X6_clearBuffer kM_RL_76 rfl (okq_lt (by decide)) (c_fx (by decide)) (mX6_clearBuffer l  q69) rfl dL_loads_57 rfl hl.1 (Nat.le_of_ble_eq_true rfl) ⟨Nat.le_of_ble_eq_true rfl, Nat.le_of_ble_eq_true rfl⟩ ⟨Nat.zero_le _, Nat.zero_le _⟩ (fun H locs hW => ?_)
          refine lv_if_ne (tgt := 67) hx hb dL_loads_60 (by decide) (fun c72 => ?_) (fun c72 => ?_)
          · have hf := br_n c72 hf
            exact h67 x3 k0 r55 s71 _ _ _ hW (lv_sub hl [2, 3, 4, 5, 1, 0] rfl) hf
          · have hf := br_p c72 hf
            refine lv_iconst (v := 1) hx hb dL_loads_63 (by decide) ?_
            refine lv_goto (tgt := 68) hx hb dL_loads_64 (by decide) ?_
            exact h68 x3 k0 r55 1 s71 _ _ _ hW (lv_sub hl [2, 3, 4, 5, 1, 0] rfl) hf
  refine lv_aload_n hx hb dL_loads_0 rfl (lv_at hl 0 rfl) ?_
  refine lv_iconst (v := 0) hx hb dL_loads_1 (by decide) ?_
  obtain ⟨r74, s75, q73, hf⟩ := bo_inv hf
  refine ss_xcallVi (As := [.int 0]) hx hb hml hown hK hW kb_X6_setting kM_RL_34 rfl (okq_lt (by decide)) (c_fx (by decide)) (mX6_setting l hfl (a1 := 0) q73) rfl dL_loads_2 rfl hl.1 (Nat.le_of_ble_eq_true rfl) ⟨Nat.le_of_ble_eq_true rfl, Nat.le_of_ble_eq_true rfl⟩ ⟨Nat.zero_le _, Nat.zero_le _⟩ (fun H locs hW => ?_)
  refine lv_istore_n (lv' := [(3, .int r74), (0, .ref (eA E 0)), (1, .int a1), (2, .int a2)]) hx hb dL_loads_5 rfl hl (by decide) rfl (fun ls hl => ?_)
  refine lv_aload_n hx hb dL_loads_6 rfl (lv_at hl 1 rfl) ?_
  refine lv_iload_n hx hb dL_loads_7 rfl (lv_at hl 2 rfl) ?_
  refine lv_iconst (v := 3) hx hb dL_loads_8 (by decide) ?_
  obtain ⟨r77, s78, q76, hf⟩ := bo_inv hf
  refine ss_xcallVi (As := [.int a1, .int 3]) hx hb hml hown hK hW kb_X6_blockOf kM_RL_64 rfl (okq_lt (by decide)) (c_fx (by decide)) (mX6_blockOf l hfl (a1 := a1) (a2 := 3) q76) rfl dL_loads_9 rfl hl.1 (Nat.le_of_ble_eq_true rfl) ⟨Nat.le_of_ble_eq_true rfl, Nat.le_of_ble_eq_true rfl⟩ ⟨Nat.zero_le _, Nat.zero_le _⟩ (fun H locs hW => ?_)
  refine lv_iconst (v := 1) hx hb dL_loads_12 (by decide) ?_
  refine lv_icmp_ne (tgt := 20) hx hb dL_loads_13 (by decide) (fun c79 => ?_) (fun c79 => ?_)
  · have hf := br_n c79 hf
    refine lv_iconst (v := 0) hx hb dL_loads_20 (by decide) ?_
    exact h21 r74 0 s78 _ _ _ hW (lv_sub hl [1, 2, 3, 0] rfl) hf
  · have hf := br_p c79 hf
    refine lv_iconst (v := 1) hx hb dL_loads_16 (by decide) ?_
    refine lv_goto (tgt := 21) hx hb dL_loads_17 (by decide) ?_
    exact h21 r74 1 s78 _ _ _ hW (lv_sub hl [1, 2, 3, 0] rfl) hf
def fL_isAsGuessed_b176 (k46 : Int32 → Int32 → Sg → Option (Int32 × Sg)) (x2 : Int32) (x3 : Int32) (x4 : Int32) (x5 : Int32) (k0 : Int32) (σ : Sg) : Option (Int32 × Sg) := bo (fX6_bestStep x3 x4 σ) fun r2 s3 => if k0 = 0 then (nm (x2 + 1) fun x2_5 => k46 0 x2_5 s3) else (bo (fX6_ifBlock x3 x4 r2 s3) fun r7 s8 => bo (fX6_ifBlock x3 x4 x5 s8) fun r10 s11 => if r10 < r7 then (nm (x2 + 1) fun x2_13 => k46 0 x2_13 s11) else (nm (x2 + 1) fun x2_14 => k46 1 x2_14 s11))
def fL_isAsGuessed_b175 (k46 : Int32 → Int32 → Sg → Option (Int32 × Sg)) (x2 : Int32) (x3 : Int32) (x4 : Int32) (x5 : Int32) (σ : Sg) : Option (Int32 × Sg) := fL_isAsGuessed_b176 k46 x2 x3 x4 x5 0 σ
def fL_isAsGuessed_b171 (k46 : Int32 → Int32 → Sg → Option (Int32 × Sg)) (x2 : Int32) (x3 : Int32) (x4 : Int32) (x5 : Int32) (σ : Sg) : Option (Int32 × Sg) := fL_isAsGuessed_b176 k46 x2 x3 x4 x5 1 σ
def fL_isAsGuessed_b168 (k46 : Int32 → Int32 → Sg → Option (Int32 × Sg)) (x2 : Int32) (x3 : Int32) (x4 : Int32) (x5 : Int32) (k0 : Int32) (k1 : Int32) (σ : Sg) : Option (Int32 × Sg) := if k1 = k0 then (fL_isAsGuessed_b171 k46 x2 x3 x4 x5 σ) else (fL_isAsGuessed_b175 k46 x2 x3 x4 x5 σ)
def fL_isAsGuessed_b121 (k46 : Int32 → Int32 → Sg → Option (Int32 × Sg)) (x2 : Int32) (x3 : Int32) (x4 : Int32) (x5 : Int32) (k0 : Int32) (σ : Sg) : Option (Int32 × Sg) := if k0 = 0 then (fL_isAsGuessed_b175 k46 x2 x3 x4 x5 σ) else (bo (fX6_setting 1 σ) fun r18 s19 => if r18 = 1 then (bo (fX6_bestStep x3 x4 s19) fun r26 s27 => if x5 = r26 then (fL_isAsGuessed_b171 k46 x2 x3 x4 x5 s27) else (fL_isAsGuessed_b175 k46 x2 x3 x4 x5 s27)) else (if x2 = 0 then (fL_isAsGuessed_b168 k46 x2 x3 x4 x5 0 x5 s19) else (bo (fX6_blockOf (x2 - 1) 5 s19) fun r23 s24 => fL_isAsGuessed_b168 k46 x2 x3 x4 x5 r23 x5 s24)))
def fL_isAsGuessed_b120 (k46 : Int32 → Int32 → Sg → Option (Int32 × Sg)) (x2 : Int32) (x3 : Int32) (x4 : Int32) (x5 : Int32) (σ : Sg) : Option (Int32 × Sg) := fL_isAsGuessed_b121 k46 x2 x3 x4 x5 0 σ
def fL_isAsGuessed_L46  (n : Nat) (x1 : Int32) (x2 : Int32) (σ : Sg) : Option (Int32 × Sg) := match n with
  | 0 => none
  | n + 1 => bo (fX6_count 2 σ) fun r30 s31 => if r30 ≤ x2 then (gd (x1 = 0 ∨ x1 = 1) <| some (x1, s31)) else (if x1 = 0 then (gd (x1 = 0 ∨ x1 = 1) <| some (x1, s31)) else (bo (fX6_setting 0 s31) fun r37 s38 => nm (x2 * r37) fun x3_39 => bo (fX6_blockOf x2 0 s38) fun r41 s42 => bo (fX6_blockOf x2 2 s42) fun r44 s45 => bo (fX6_ifBlock x3_39 r41 r44 s45) fun r47 s48 => bo (fX6_blockOf x2 4 s48) fun r50 s51 => if r47 = r50 then (bo (fX6_blockOf x2 1 s51) fun r54 s55 => bo (fX6_sampleOf x3_39 0 s55) fun r57 s58 => if r54 = r57 then (fL_isAsGuessed_b121 (fun x1 x2 σ => fL_isAsGuessed_L46 n x1 x2 σ) x2 x3_39 r41 r44 1 s58) else (fL_isAsGuessed_b120 (fun x1 x2 σ => fL_isAsGuessed_L46 n x1 x2 σ) x2 x3_39 r41 r44 s58)) else (fL_isAsGuessed_b120 (fun x1 x2 σ => fL_isAsGuessed_L46 n x1 x2 σ) x2 x3_39 r41 r44 s51)))
def fL_isAsGuessed_L4  (n : Nat) (x1 : Int32) (x2 : Int32) (σ : Sg) : Option (Int32 × Sg) := match n with
  | 0 => none
  | n + 1 => bo (fX6_count 0 σ) fun r61 s62 => if r61 ≤ x2 then (fL_isAsGuessed_L46 80 x1 0 s62) else (if x1 = 0 then (fL_isAsGuessed_L46 80 x1 0 s62) else (bo (fX6_sampleOf x2 1 s62) fun r66 s67 => bo (fX6_sampleOf x2 2 s67) fun r69 s70 => if r66 = r69 then (nm (x2 + 1) fun x2_73 => (fun x1 x2 σ => fL_isAsGuessed_L4 n x1 x2 σ) 1 x2_73 s70) else (nm (x2 + 1) fun x2_72 => (fun x1 x2 σ => fL_isAsGuessed_L4 n x1 x2 σ) 0 x2_72 s70)))
def fL_isAsGuessed (σ : Sg) : Option (Int32 × Sg) := fL_isAsGuessed_L4 80 1 0 σ
set_option maxHeartbeats 4000000 in
set_option maxRecDepth 100000 in
theorem mL_isAsGuessed (l : Launch) (hfl : l.stackTraces = false) {E : En} {σ μ : Sg} {dg : Int64}   {r : Int32} {σ' : Sg} (hf : fL_isAsGuessed σ = some (r, σ')) : Met l yL_isAsGuessed [.code yL_isAsGuessed cL_isAsGuessed 7 (some .boolean)] (Rm 8 153) (va_Pc [.ref (eA E 0)] (Wd E σ μ dg)) (Qi E σ' μ dg r) 0 0 (eP E) := by
  refine ss_of (by decide) (Nat.le_of_ble_eq_true rfl) (fun p e s m below meth c hx hb hr hlk hml hown hK hW ls hl => ?_)
  have hown : s.vm.findClass RL = some m.cls := hown
  have hl : lv_has ls 7 [(0, .ref (eA E 0))] := hl
  unfold fL_isAsGuessed at hf
  have h46 : ∀ (n46 : Nat) (x1 : Int32) (x2 : Int32) (σ : Sg) (H : Heap) (locs : List Loc) (ls : Array Slot), Wk E σ μ dg s H locs → lv_has ls 7 [(0, .ref (eA E 0)), (1, .int x1), (2, .int x2)] → fL_isAsGuessed_L46 n46 x1 x2 σ = some (r, σ') → W p l e (Rm 8 153) s m [.ref (eA E 0)].toArray below meth c H locs 0 0 (MQ below (Qi E σ' μ dg r) [.ref (eA E 0)].toArray s 0 0 (eP E)) (F0 m 46 ls []) := by
    intro n46
    induction n46 with
    | zero =>
      intro x1 x2 σ  H locs ls hW hl hf
      exact absurd hf (by simp [fL_isAsGuessed_L46])
    | succ n46 ih46 =>
      have h176 : ∀ (x2 : Int32) (x3 : Int32) (x4 : Int32) (x5 : Int32) (k0 : Int32) (σ : Sg) (H : Heap) (locs : List Loc) (ls : Array Slot), Wk E σ μ dg s H locs → lv_has ls 7 [(0, .ref (eA E 0)), (2, .int x2), (3, .int x3), (4, .int x4), (5, .int x5)] → fL_isAsGuessed_b176 (fun x1 x2 σ => fL_isAsGuessed_L46 n46 x1 x2 σ) x2 x3 x4 x5 k0 σ = some (r, σ') → W p l e (Rm 8 153) s m [.ref (eA E 0)].toArray below meth c H locs 0 0 (MQ below (Qi E σ' μ dg r) [.ref (eA E 0)].toArray s 0 0 (eP E)) (F0 m 176 ls [.int k0]) := by
        intro x2 x3 x4 x5 k0 σ  H locs ls hW hl hf
        unfold fL_isAsGuessed_b176 at hf
        refine lv_istore_n (lv' := [(1, .int k0), (0, .ref (eA E 0)), (2, .int x2), (3, .int x3), (4, .int x4), (5, .int x5)]) hx hb dL_isAsGuessed_176 rfl hl (by decide) rfl (fun ls hl => ?_)
        refine lv_aload_n hx hb dL_isAsGuessed_177 rfl (lv_at hl 1 rfl) ?_
        refine lv_iload_n hx hb dL_isAsGuessed_178 rfl (lv_at hl 3 rfl) ?_
        refine lv_iload hx hb dL_isAsGuessed_179 (lv_at hl 4 rfl) ?_
        obtain ⟨r2, s3, q1, hf⟩ := bo_inv hf
        refine ss_xcallVi (As := [.int x3, .int x4]) hx hb hml hown hK hW kb_X6_bestStep kM_RL_82 rfl (okq_lt (by decide)) (c_fx (by decide)) (mX6_bestStep l hfl (a1 := x3) (a2 := x4) q1) rfl dL_isAsGuessed_181 rfl hl.1 (Nat.le_of_ble_eq_true rfl) ⟨Nat.le_of_ble_eq_true rfl, Nat.le_of_ble_eq_true rfl⟩ ⟨Nat.zero_le _, Nat.zero_le _⟩ (fun H locs hW => ?_)
        refine lv_istore (lv' := [(6, .int r2), (1, .int k0), (0, .ref (eA E 0)), (2, .int x2), (3, .int x3), (4, .int x4), (5, .int x5)]) hx hb dL_isAsGuessed_184 hl (by decide) rfl (fun ls hl => ?_)
        refine lv_iload_n hx hb dL_isAsGuessed_186 rfl (lv_at hl 1 rfl) ?_
        refine lv_if_eq (tgt := 215) hx hb dL_isAsGuessed_187 (by decide) (fun c4 => ?_) (fun c4 => ?_)
        · have hf := br_p c4 hf
          refine lv_iconst (v := 0) hx hb dL_isAsGuessed_215 (by decide) ?_
          refine lv_istore_n (lv' := [(1, .int 0), (6, .int r2), (0, .ref (eA E 0)), (2, .int x2), (3, .int x3), (4, .int x4), (5, .int x5)]) hx hb dL_isAsGuessed_216 rfl hl (by decide) rfl (fun ls hl => ?_)
          obtain ⟨x2_5, ex2_5⟩ : ∃ y : Int32, y = (x2 + 1) := ⟨_, rfl⟩
          have hf := nm_use ex2_5 hf
          refine lv_iinc (v := x2_5) (lv' := [(2, .int x2_5), (1, .int 0), (6, .int r2), (0, .ref (eA E 0)), (3, .int x3), (4, .int x4), (5, .int x5)]) hx hb dL_isAsGuessed_217 hl (k := 3) rfl (by rw [ex2_5]; rfl) (by decide) rfl (fun ls hl => ?_)
          refine lv_goto (tgt := 46) hx hb dL_isAsGuessed_220 (by decide) ?_
          exact ih46 0 x2_5 s3 _ _ _ hW (lv_sub hl [3, 1, 0] rfl) hf
        · have hf := br_n c4 hf
          refine lv_aload_n hx hb dL_isAsGuessed_190 rfl (lv_at hl 2 rfl) ?_
          refine lv_iload_n hx hb dL_isAsGuessed_191 rfl (lv_at hl 4 rfl) ?_
          refine lv_iload hx hb dL_isAsGuessed_192 (lv_at hl 5 rfl) ?_
          refine lv_iload hx hb dL_isAsGuessed_194 (lv_at hl 0 rfl) ?_
          obtain ⟨r7, s8, q6, hf⟩ := bo_inv hf
          refine ss_xcallVi (As := [.int x3, .int x4, .int r2]) hx hb hml hown hK hW kb_X6_ifBlock kM_RL_79 rfl (okq_lt (by decide)) (c_fx (by decide)) (mX6_ifBlock l hfl (a1 := x3) (a2 := x4) (a3 := r2) q6) rfl dL_isAsGuessed_196 rfl hl.1 (Nat.le_of_ble_eq_true rfl) ⟨Nat.le_of_ble_eq_true rfl, Nat.le_of_ble_eq_true rfl⟩ ⟨Nat.zero_le _, Nat.zero_le _⟩ (fun H locs hW => ?_)
          refine lv_aload_n hx hb dL_isAsGuessed_199 rfl (lv_at hl 2 rfl) ?_
          refine lv_iload_n hx hb dL_isAsGuessed_200 rfl (lv_at hl 4 rfl) ?_
          refine lv_iload hx hb dL_isAsGuessed_201 (lv_at hl 5 rfl) ?_
          refine lv_iload hx hb dL_isAsGuessed_203 (lv_at hl 6 rfl) ?_
          obtain ⟨r10, s11, q9, hf⟩ := bo_inv hf
          refine ss_xcallVi (As := [.int x3, .int x4, .int x5]) hx hb hml hown hK hW kb_X6_ifBlock kM_RL_79 rfl (okq_lt (by decide)) (c_fx (by decide)) (mX6_ifBlock l hfl (a1 := x3) (a2 := x4) (a3 := x5) q9) rfl dL_isAsGuessed_205 rfl hl.1 (Nat.le_of_ble_eq_true rfl) ⟨Nat.le_of_ble_eq_true rfl, Nat.le_of_ble_eq_true rfl⟩ ⟨Nat.zero_le _, Nat.zero_le _⟩ (fun H locs hW => ?_)
          refine lv_icmp_gt (tgt := 215) hx hb dL_isAsGuessed_208 (by decide) (fun c12 => ?_) (fun c12 => ?_)
          · have hf := br_p c12 hf
            refine lv_iconst (v := 0) hx hb dL_isAsGuessed_215 (by decide) ?_
            refine lv_istore_n (lv' := [(1, .int 0), (6, .int r2), (0, .ref (eA E 0)), (2, .int x2), (3, .int x3), (4, .int x4), (5, .int x5)]) hx hb dL_isAsGuessed_216 rfl hl (by decide) rfl (fun ls hl => ?_)
            obtain ⟨x2_13, ex2_13⟩ : ∃ y : Int32, y = (x2 + 1) := ⟨_, rfl⟩
            have hf := nm_use ex2_13 hf
            refine lv_iinc (v := x2_13) (lv' := [(2, .int x2_13), (1, .int 0), (6, .int r2), (0, .ref (eA E 0)), (3, .int x3), (4, .int x4), (5, .int x5)]) hx hb dL_isAsGuessed_217 hl (k := 3) rfl (by rw [ex2_13]; rfl) (by decide) rfl (fun ls hl => ?_)
            refine lv_goto (tgt := 46) hx hb dL_isAsGuessed_220 (by decide) ?_
            exact ih46 0 x2_13 s11 _ _ _ hW (lv_sub hl [3, 1, 0] rfl) hf
          · have hf := br_n c12 hf
            refine lv_iconst (v := 1) hx hb dL_isAsGuessed_211 (by decide) ?_
            refine lv_goto (tgt := 216) hx hb dL_isAsGuessed_212 (by decide) ?_
            refine lv_istore_n (lv' := [(1, .int 1), (6, .int r2), (0, .ref (eA E 0)), (2, .int x2), (3, .int x3), (4, .int x4), (5, .int x5)]) hx hb dL_isAsGuessed_216 rfl hl (by decide) rfl (fun ls hl => ?_)
            obtain ⟨x2_14, ex2_14⟩ : ∃ y : Int32, y = (x2 + 1) := ⟨_, rfl⟩
            have hf := nm_use ex2_14 hf
            refine lv_iinc (v := x2_14) (lv' := [(2, .int x2_14), (1, .int 1), (6, .int r2), (0, .ref (eA E 0)), (3, .int x3), (4, .int x4), (5, .int x5)]) hx hb dL_isAsGuessed_217 hl (k := 3) rfl (by rw [ex2_14]; rfl) (by decide) rfl (fun ls hl => ?_)
            refine lv_goto (tgt := 46) hx hb dL_isAsGuessed_220 (by decide) ?_
            exact ih46 1 x2_14 s11 _ _ _ hW (lv_sub hl [3, 1, 0] rfl) hf
      have h175 : ∀ (x2 : Int32) (x3 : Int32) (x4 : Int32) (x5 : Int32) (σ : Sg) (H : Heap) (locs : List Loc) (ls : Array Slot), Wk E σ μ dg s H locs → lv_has ls 7 [(0, .ref (eA E 0)), (2, .int x2), (3, .int x3), (4, .int x4), (5, .int x5)] → fL_isAsGuessed_b175 (fun x1 x2 σ => fL_isAsGuessed_L46 n46 x1 x2 σ) x2 x3 x4 x5 σ = some (r, σ') → W p l e (Rm 8 153) s m [.ref (eA E 0)].toArray below meth c H locs 0 0 (MQ below (Qi E σ' μ dg r) [.ref (eA E 0)].toArray s 0 0 (eP E)) (F0 m 175 ls []) := by
        intro x2 x3 x4 x5 σ  H locs ls hW hl hf
        unfold fL_isAsGuessed_b175 at hf
        refine lv_iconst (v := 0) hx hb dL_isAsGuessed_175 (by decide) ?_
        exact h176 x2 x3 x4 x5 0 σ _ _ _ hW (lv_sub hl [0, 1, 2, 3, 4] rfl) hf
      have h171 : ∀ (x2 : Int32) (x3 : Int32) (x4 : Int32) (x5 : Int32) (σ : Sg) (H : Heap) (locs : List Loc) (ls : Array Slot), Wk E σ μ dg s H locs → lv_has ls 7 [(0, .ref (eA E 0)), (2, .int x2), (3, .int x3), (4, .int x4), (5, .int x5)] → fL_isAsGuessed_b171 (fun x1 x2 σ => fL_isAsGuessed_L46 n46 x1 x2 σ) x2 x3 x4 x5 σ = some (r, σ') → W p l e (Rm 8 153) s m [.ref (eA E 0)].toArray below meth c H locs 0 0 (MQ below (Qi E σ' μ dg r) [.ref (eA E 0)].toArray s 0 0 (eP E)) (F0 m 171 ls []) := by
        intro x2 x3 x4 x5 σ  H locs ls hW hl hf
        unfold fL_isAsGuessed_b171 at hf
        refine lv_iconst (v := 1) hx hb dL_isAsGuessed_171 (by decide) ?_
        refine lv_goto (tgt := 176) hx hb dL_isAsGuessed_172 (by decide) ?_
        exact h176 x2 x3 x4 x5 1 σ _ _ _ hW (lv_sub hl [0, 1, 2, 3, 4] rfl) hf
      have h168 : ∀ (x2 : Int32) (x3 : Int32) (x4 : Int32) (x5 : Int32) (k0 : Int32) (k1 : Int32) (σ : Sg) (H : Heap) (locs : List Loc) (ls : Array Slot), Wk E σ μ dg s H locs → lv_has ls 7 [(0, .ref (eA E 0)), (2, .int x2), (3, .int x3), (4, .int x4), (5, .int x5)] → fL_isAsGuessed_b168 (fun x1 x2 σ => fL_isAsGuessed_L46 n46 x1 x2 σ) x2 x3 x4 x5 k0 k1 σ = some (r, σ') → W p l e (Rm 8 153) s m [.ref (eA E 0)].toArray below meth c H locs 0 0 (MQ below (Qi E σ' μ dg r) [.ref (eA E 0)].toArray s 0 0 (eP E)) (F0 m 168 ls [.int k0, .int k1]) := by
        intro x2 x3 x4 x5 k0 k1 σ  H locs ls hW hl hf
        unfold fL_isAsGuessed_b168 at hf
        refine lv_icmp_ne (tgt := 175) hx hb dL_isAsGuessed_168 (by decide) (fun c15 => ?_) (fun c15 => ?_)
        · have hf := br_n c15 hf
          exact h175 x2 x3 x4 x5 σ _ _ _ hW (lv_sub hl [0, 1, 2, 3, 4] rfl) hf
        · have hf := br_p c15 hf
          exact h171 x2 x3 x4 x5 σ _ _ _ hW (lv_sub hl [0, 1, 2, 3, 4] rfl) hf
      have h121 : ∀ (x2 : Int32) (x3 : Int32) (x4 : Int32) (x5 : Int32) (k0 : Int32) (σ : Sg) (H : Heap) (locs : List Loc) (ls : Array Slot), Wk E σ μ dg s H locs → lv_has ls 7 [(0, .ref (eA E 0)), (2, .int x2), (3, .int x3), (4, .int x4), (5, .int x5)] → fL_isAsGuessed_b121 (fun x1 x2 σ => fL_isAsGuessed_L46 n46 x1 x2 σ) x2 x3 x4 x5 k0 σ = some (r, σ') → W p l e (Rm 8 153) s m [.ref (eA E 0)].toArray below meth c H locs 0 0 (MQ below (Qi E σ' μ dg r) [.ref (eA E 0)].toArray s 0 0 (eP E)) (F0 m 121 ls [.int k0]) := by
        intro x2 x3 x4 x5 k0 σ  H locs ls hW hl hf
        unfold fL_isAsGuessed_b121 at hf
        refine lv_istore_n (lv' := [(1, .int k0), (0, .ref (eA E 0)), (2, .int x2), (3, .int x3), (4, .int x4), (5, .int x5)]) hx hb dL_isAsGuessed_121 rfl hl (by decide) rfl (fun ls hl => ?_)
        refine lv_iload_n hx hb dL_isAsGuessed_122 rfl (lv_at hl 0 rfl) ?_
        refine lv_if_eq (tgt := 175) hx hb dL_isAsGuessed_123 (by decide) (fun c16 => ?_) (fun c16 => ?_)
        · have hf := br_p c16 hf
          exact h175 x2 x3 x4 x5 σ _ _ _ hW (lv_sub hl [1, 2, 3, 4, 5] rfl) hf
        · have hf := br_n c16 hf
          refine lv_aload_n hx hb dL_isAsGuessed_126 rfl (lv_at hl 1 rfl) ?_
          refine lv_iconst (v := 1) hx hb dL_isAsGuessed_127 (by decide) ?_
          obtain ⟨r18, s19, q17, hf⟩ := bo_inv hf
          refine ss_xcallVi (As := [.int 1]) hx hb hml hown hK hW kb_X6_setting kM_RL_34 rfl (okq_lt (by decide)) (c_fx (by decide)) (mX6_setting l hfl (a1 := 1) q17) rfl dL_isAsGuessed_128 rfl hl.1 (Nat.le_of_ble_eq_true rfl) ⟨Nat.le_of_ble_eq_true rfl, Nat.le_of_ble_eq_true rfl⟩ ⟨Nat.zero_le _, Nat.zero_le _⟩ (fun H locs hW => ?_)
          refine lv_iconst (v := 1) hx hb dL_isAsGuessed_131 (by decide) ?_
          refine lv_icmp_ne (tgt := 150) hx hb dL_isAsGuessed_132 (by decide) (fun c20 => ?_) (fun c20 => ?_)
          · have hf := br_n c20 hf
            refine lv_iload hx hb dL_isAsGuessed_150 (lv_at hl 5 rfl) ?_
            refine lv_iload_n hx hb dL_isAsGuessed_152 rfl (lv_at hl 2 rfl) ?_
            refine lv_if_ne (tgt := 160) hx hb dL_isAsGuessed_153 (by decide) (fun c21 => ?_) (fun c21 => ?_)
            · have hf := br_n c21 hf
              refine lv_aload_n hx hb dL_isAsGuessed_160 rfl (lv_at hl 1 rfl) ?_
              refine lv_iload_n hx hb dL_isAsGuessed_161 rfl (lv_at hl 2 rfl) ?_
              refine lv_iconst (v := 1) hx hb dL_isAsGuessed_162 (by decide) ?_
              refine lv_isub hx hb dL_isAsGuessed_163 ?_
              refine lv_iconst (v := 5) hx hb dL_isAsGuessed_164 (by decide) ?_
              obtain ⟨r23, s24, q22, hf⟩ := bo_inv hf
              refine ss_xcallVi (As := [.int (x2 - 1), .int 5]) hx hb hml hown hK hW kb_X6_blockOf kM_RL_64 rfl (okq_lt (by decide)) (c_fx (by decide)) (mX6_blockOf l hfl (a1 := (x2 - 1)) (a2 := 5) q22) rfl dL_isAsGuessed_165 rfl hl.1 (Nat.le_of_ble_eq_true rfl) ⟨Nat.le_of_ble_eq_true rfl, Nat.le_of_ble_eq_true rfl⟩ ⟨Nat.zero_le _, Nat.zero_le _⟩ (fun H locs hW => ?_)
              exact h168 x2 x3 x4 x5 r23 x5 s24 _ _ _ hW (lv_sub hl [1, 2, 3, 4, 5] rfl) hf
            · have hf := br_p c21 hf
              refine lv_iconst (v := 0) hx hb dL_isAsGuessed_156 (by decide) ?_
              refine lv_goto (tgt := 168) hx hb dL_isAsGuessed_157 (by decide) ?_
              exact h168 x2 x3 x4 x5 0 x5 s19 _ _ _ hW (lv_sub hl [1, 2, 3, 4, 5] rfl) hf
          · have hf := br_p c20 hf
            refine lv_iload hx hb dL_isAsGuessed_135 (lv_at hl 5 rfl) ?_
            refine lv_aload_n hx hb dL_isAsGuessed_137 rfl (lv_at hl 1 rfl) ?_
            refine lv_iload_n hx hb dL_isAsGuessed_138 rfl (lv_at hl 3 rfl) ?_
            refine lv_iload hx hb dL_isAsGuessed_139 (lv_at hl 4 rfl) ?_
            obtain ⟨r26, s27, q25, hf⟩ := bo_inv hf
            refine ss_xcallVi (As := [.int x3, .int x4]) hx hb hml hown hK hW kb_X6_bestStep kM_RL_82 rfl (okq_lt (by decide)) (c_fx (by decide)) (mX6_bestStep l hfl (a1 := x3) (a2 := x4) q25) rfl dL_isAsGuessed_141 rfl hl.1 (Nat.le_of_ble_eq_true rfl) ⟨Nat.le_of_ble_eq_true rfl, Nat.le_of_ble_eq_true rfl⟩ ⟨Nat.zero_le _, Nat.zero_le _⟩ (fun H locs hW => ?_)
            refine lv_icmp_ne (tgt := 175) hx hb dL_isAsGuessed_144 (by decide) (fun c28 => ?_) (fun c28 => ?_)
            · have hf := br_n c28 hf
              exact h175 x2 x3 x4 x5 s27 _ _ _ hW (lv_sub hl [1, 2, 3, 4, 5] rfl) hf
            · have hf := br_p c28 hf
              refine lv_goto (tgt := 171) hx hb dL_isAsGuessed_147 (by decide) ?_
              exact h171 x2 x3 x4 x5 s27 _ _ _ hW (lv_sub hl [1, 2, 3, 4, 5] rfl) hf
      have h120 : ∀ (x2 : Int32) (x3 : Int32) (x4 : Int32) (x5 : Int32) (σ : Sg) (H : Heap) (locs : List Loc) (ls : Array Slot), Wk E σ μ dg s H locs → lv_has ls 7 [(0, .ref (eA E 0)), (2, .int x2), (3, .int x3), (4, .int x4), (5, .int x5)] → fL_isAsGuessed_b120 (fun x1 x2 σ => fL_isAsGuessed_L46 n46 x1 x2 σ) x2 x3 x4 x5 σ = some (r, σ') → W p l e (Rm 8 153) s m [.ref (eA E 0)].toArray below meth c H locs 0 0 (MQ below (Qi E σ' μ dg r) [.ref (eA E 0)].toArray s 0 0 (eP E)) (F0 m 120 ls []) := by
        intro x2 x3 x4 x5 σ  H locs ls hW hl hf
        unfold fL_isAsGuessed_b120 at hf
        refine lv_iconst (v := 0) hx hb dL_isAsGuessed_120 (by decide) ?_
        exact h121 x2 x3 x4 x5 0 σ _ _ _ hW (lv_sub hl [0, 1, 2, 3, 4] rfl) hf
      intro x1 x2 σ  H locs ls hW hl hf
      rw [fL_isAsGuessed_L46] at hf
      refine lv_iload_n hx hb dL_isAsGuessed_46 rfl (lv_at hl 2 rfl) ?_
      refine lv_aload_n hx hb dL_isAsGuessed_47 rfl (lv_at hl 0 rfl) ?_
      refine lv_iconst (v := 2) hx hb dL_isAsGuessed_48 (by decide) ?_
      obtain ⟨r30, s31, q29, hf⟩ := bo_inv hf
      refine ss_xcallVi (As := [.int 2]) hx hb hml hown hK hW kb_X6_count kM_RL_9 rfl (okq_lt (by decide)) (c_fx (by decide)) (mX6_count l hfl (a1 := 2) q29) rfl dL_isAsGuessed_49 rfl hl.1 (Nat.le_of_ble_eq_true rfl) ⟨Nat.le_of_ble_eq_true rfl, Nat.le_of_ble_eq_true rfl⟩ ⟨Nat.zero_le _, Nat.zero_le _⟩ (fun H locs hW => ?_)
      refine lv_icmp_ge (tgt := 223) hx hb dL_isAsGuessed_52 (by decide) (fun c32 => ?_) (fun c32 => ?_)
      · have hf := br_p c32 hf
        refine lv_iload_n hx hb dL_isAsGuessed_223 rfl (lv_at hl 1 rfl) ?_
        obtain ⟨hz33, hf⟩ := gd_inv hf
        cases hf
        exact ss_zret hx hb hr hlk hW rfl (zb_n hz33) dL_isAsGuessed_224
      · have hf := br_n c32 hf
        refine lv_iload_n hx hb dL_isAsGuessed_55 rfl (lv_at hl 1 rfl) ?_
        refine lv_if_eq (tgt := 223) hx hb dL_isAsGuessed_56 (by decide) (fun c34 => ?_) (fun c34 => ?_)
        · have hf := br_p c34 hf
          refine lv_iload_n hx hb dL_isAsGuessed_223 rfl (lv_at hl 1 rfl) ?_
          obtain ⟨hz35, hf⟩ := gd_inv hf
          cases hf
          exact ss_zret hx hb hr hlk hW rfl (zb_n hz35) dL_isAsGuessed_224
        · have hf := br_n c34 hf
          refine lv_iload_n hx hb dL_isAsGuessed_59 rfl (lv_at hl 2 rfl) ?_
          refine lv_aload_n hx hb dL_isAsGuessed_60 rfl (lv_at hl 0 rfl) ?_
          refine lv_iconst (v := 0) hx hb dL_isAsGuessed_61 (by decide) ?_
          obtain ⟨r37, s38, q36, hf⟩ := bo_inv hf
          refine ss_xcallVi (As := [.int 0]) hx hb hml hown hK hW kb_X6_setting kM_RL_34 rfl (okq_lt (by decide)) (c_fx (by decide)) (mX6_setting l hfl (a1 := 0) q36) rfl dL_isAsGuessed_62 rfl hl.1 (Nat.le_of_ble_eq_true rfl) ⟨Nat.le_of_ble_eq_true rfl, Nat.le_of_ble_eq_true rfl⟩ ⟨Nat.zero_le _, Nat.zero_le _⟩ (fun H locs hW => ?_)
          refine lv_imul hx hb dL_isAsGuessed_65 ?_
          refine lv_topi (fun x3_39 ex3_39 => ?_)
          have hf := nm_use ex3_39 hf
          refine lv_istore_n (lv' := [(3, .int x3_39), (0, .ref (eA E 0)), (1, .int x1), (2, .int x2)]) hx hb dL_isAsGuessed_66 rfl hl (by decide) rfl (fun ls hl => ?_)
          refine lv_aload_n hx hb dL_isAsGuessed_67 rfl (lv_at hl 1 rfl) ?_
          refine lv_iload_n hx hb dL_isAsGuessed_68 rfl (lv_at hl 3 rfl) ?_
          refine lv_iconst (v := 0) hx hb dL_isAsGuessed_69 (by decide) ?_
          obtain ⟨r41, s42, q40, hf⟩ := bo_inv hf
          refine ss_xcallVi (As := [.int x2, .int 0]) hx hb hml hown hK hW kb_X6_blockOf kM_RL_64 rfl (okq_lt (by decide)) (c_fx (by decide)) (mX6_blockOf l hfl (a1 := x2) (a2 := 0) q40) rfl dL_isAsGuessed_70 rfl hl.1 (Nat.le_of_ble_eq_true rfl) ⟨Nat.le_of_ble_eq_true rfl, Nat.le_of_ble_eq_true rfl⟩ ⟨Nat.zero_le _, Nat.zero_le _⟩ (fun H locs hW => ?_)
          refine lv_istore (lv' := [(4, .int r41), (3, .int x3_39), (0, .ref (eA E 0)), (1, .int x1), (2, .int x2)]) hx hb dL_isAsGuessed_73 hl (by decide) rfl (fun ls hl => ?_)
          refine lv_aload_n hx hb dL_isAsGuessed_75 rfl (lv_at hl 2 rfl) ?_
          refine lv_iload_n hx hb dL_isAsGuessed_76 rfl (lv_at hl 4 rfl) ?_
          refine lv_iconst (v := 2) hx hb dL_isAsGuessed_77 (by decide) ?_
          obtain ⟨r44, s45, q43, hf⟩ := bo_inv hf
          refine ss_xcallVi (As := [.int x2, .int 2]) hx hb hml hown hK hW kb_X6_blockOf kM_RL_64 rfl (okq_lt (by decide)) (c_fx (by decide)) (mX6_blockOf l hfl (a1 := x2) (a2 := 2) q43) rfl dL_isAsGuessed_78 rfl hl.1 (Nat.le_of_ble_eq_true rfl) ⟨Nat.le_of_ble_eq_true rfl, Nat.le_of_ble_eq_true rfl⟩ ⟨Nat.zero_le _, Nat.zero_le _⟩ (fun H locs hW => ?_)
          refine lv_istore (lv' := [(5, .int r44), (4, .int r41), (3, .int x3_39), (0, .ref (eA E 0)), (1, .int x1), (2, .int x2)]) hx hb dL_isAsGuessed_81 hl (by decide) rfl (fun ls hl => ?_)
          refine lv_aload_n hx hb dL_isAsGuessed_83 rfl (lv_at hl 3 rfl) ?_
          refine lv_iload_n hx hb dL_isAsGuessed_84 rfl (lv_at hl 2 rfl) ?_
          refine lv_iload hx hb dL_isAsGuessed_85 (lv_at hl 1 rfl) ?_
          refine lv_iload hx hb dL_isAsGuessed_87 (lv_at hl 0 rfl) ?_
          obtain ⟨r47, s48, q46, hf⟩ := bo_inv hf
          refine ss_xcallVi (As := [.int x3_39, .int r41, .int r44]) hx hb hml hown hK hW kb_X6_ifBlock kM_RL_79 rfl (okq_lt (by decide)) (c_fx (by decide)) (mX6_ifBlock l hfl (a1 := x3_39) (a2 := r41) (a3 := r44) q46) rfl dL_isAsGuessed_89 rfl hl.1 (Nat.le_of_ble_eq_true rfl) ⟨Nat.le_of_ble_eq_true rfl, Nat.le_of_ble_eq_true rfl⟩ ⟨Nat.zero_le _, Nat.zero_le _⟩ (fun H locs hW => ?_)
          refine lv_aload_n hx hb dL_isAsGuessed_92 rfl (lv_at hl 3 rfl) ?_
          refine lv_iload_n hx hb dL_isAsGuessed_93 rfl (lv_at hl 5 rfl) ?_
          refine lv_iconst (v := 4) hx hb dL_isAsGuessed_94 (by decide) ?_
          obtain ⟨r50, s51, q49, hf⟩ := bo_inv hf
          refine ss_xcallVi (As := [.int x2, .int 4]) hx hb hml hown hK hW kb_X6_blockOf kM_RL_64 rfl (okq_lt (by decide)) (c_fx (by decide)) (mX6_blockOf l hfl (a1 := x2) (a2 := 4) q49) rfl dL_isAsGuessed_95 rfl hl.1 (Nat.le_of_ble_eq_true rfl) ⟨Nat.le_of_ble_eq_true rfl, Nat.le_of_ble_eq_true rfl⟩ ⟨Nat.zero_le _, Nat.zero_le _⟩ (fun H locs hW => ?_)
          refine lv_icmp_ne (tgt := 120) hx hb dL_isAsGuessed_98 (by decide) (fun c52 => ?_) (fun c52 => ?_)
          · have hf := br_n c52 hf
            exact h120 x2 x3_39 r41 r44 s51 _ _ _ hW (lv_sub hl [3, 5, 2, 1, 0] rfl) hf
          · have hf := br_p c52 hf
            refine lv_aload_n hx hb dL_isAsGuessed_101 rfl (lv_at hl 3 rfl) ?_
            refine lv_iload_n hx hb dL_isAsGuessed_102 rfl (lv_at hl 5 rfl) ?_
            refine lv_iconst (v := 1) hx hb dL_isAsGuessed_103 (by decide) ?_
            obtain ⟨r54, s55, q53, hf⟩ := bo_inv hf
            refine ss_xcallVi (As := [.int x2, .int 1]) hx hb hml hown hK hW kb_X6_blockOf kM_RL_64 rfl (okq_lt (by decide)) (c_fx (by decide)) (mX6_blockOf l hfl (a1 := x2) (a2 := 1) q53) rfl dL_isAsGuessed_104 rfl hl.1 (Nat.le_of_ble_eq_true rfl) ⟨Nat.le_of_ble_eq_true rfl, Nat.le_of_ble_eq_true rfl⟩ ⟨Nat.zero_le _, Nat.zero_le _⟩ (fun H locs hW => ?_)
            refine lv_aload_n hx hb dL_isAsGuessed_107 rfl (lv_at hl 3 rfl) ?_
            refine lv_iload_n hx hb dL_isAsGuessed_108 rfl (lv_at hl 2 rfl) ?_
            refine lv_iconst (v := 0) hx hb dL_isAsGuessed_109 (by decide) ?_
            obtain ⟨r57, s58, q56, hf⟩ := bo_inv hf
            refine ss_xcallVi (As := [.int x3_39, .int 0]) hx hb hml hown hK hW kb_X6_sampleOf kM_RL_24 rfl (okq_lt (by decide)) (c_fx (by decide)) (mX6_sampleOf l hfl (a1 := x3_39) (a2 := 0) q56) rfl dL_isAsGuessed_110 rfl hl.1 (Nat.le_of_ble_eq_true rfl) ⟨Nat.le_of_ble_eq_true rfl, Nat.le_of_ble_eq_true rfl⟩ ⟨Nat.zero_le _, Nat.zero_le _⟩ (fun H locs hW => ?_)
            refine lv_icmp_ne (tgt := 120) hx hb dL_isAsGuessed_113 (by decide) (fun c59 => ?_) (fun c59 => ?_)
            · have hf := br_n c59 hf
              exact h120 x2 x3_39 r41 r44 s58 _ _ _ hW (lv_sub hl [3, 5, 2, 1, 0] rfl) hf
            · have hf := br_p c59 hf
              refine lv_iconst (v := 1) hx hb dL_isAsGuessed_116 (by decide) ?_
              refine lv_goto (tgt := 121) hx hb dL_isAsGuessed_117 (by decide) ?_
              exact h121 x2 x3_39 r41 r44 1 s58 _ _ _ hW (lv_sub hl [3, 5, 2, 1, 0] rfl) hf
  have h4 : ∀ (n4 : Nat) (x1 : Int32) (x2 : Int32) (σ : Sg) (H : Heap) (locs : List Loc) (ls : Array Slot), Wk E σ μ dg s H locs → lv_has ls 7 [(0, .ref (eA E 0)), (1, .int x1), (2, .int x2)] → fL_isAsGuessed_L4 n4 x1 x2 σ = some (r, σ') → W p l e (Rm 8 153) s m [.ref (eA E 0)].toArray below meth c H locs 0 0 (MQ below (Qi E σ' μ dg r) [.ref (eA E 0)].toArray s 0 0 (eP E)) (F0 m 4 ls []) := by
    intro n4
    induction n4 with
    | zero =>
      intro x1 x2 σ  H locs ls hW hl hf
      exact absurd hf (by simp [fL_isAsGuessed_L4])
    | succ n4 ih4 =>
      intro x1 x2 σ  H locs ls hW hl hf
      rw [fL_isAsGuessed_L4] at hf
      refine lv_iload_n hx hb dL_isAsGuessed_4 rfl (lv_at hl 2 rfl) ?_
      refine lv_aload_n hx hb dL_isAsGuessed_5 rfl (lv_at hl 0 rfl) ?_
      refine lv_iconst (v := 0) hx hb dL_isAsGuessed_6 (by decide) ?_
      obtain ⟨r61, s62, q60, hf⟩ := bo_inv hf
      refine ss_xcallVi (As := [.int 0]) hx hb hml hown hK hW kb_X6_count kM_RL_9 rfl (okq_lt (by decide)) (c_fx (by decide)) (mX6_count l hfl (a1 := 0) q60) rfl dL_isAsGuessed_7 rfl hl.1 (Nat.le_of_ble_eq_true rfl) ⟨Nat.le_of_ble_eq_true rfl, Nat.le_of_ble_eq_true rfl⟩ ⟨Nat.zero_le _, Nat.zero_le _⟩ (fun H locs hW => ?_)
      refine lv_icmp_ge (tgt := 44) hx hb dL_isAsGuessed_10 (by decide) (fun c63 => ?_) (fun c63 => ?_)
      · have hf := br_p c63 hf
        refine lv_iconst (v := 0) hx hb dL_isAsGuessed_44 (by decide) ?_
        refine lv_istore_n (lv' := [(2, .int 0), (0, .ref (eA E 0)), (1, .int x1)]) hx hb dL_isAsGuessed_45 rfl hl (by decide) rfl (fun ls hl => ?_)
        exact h46 80 x1 0 s62 _ _ _ hW (lv_sub hl [1, 2, 0] rfl) hf
      · have hf := br_n c63 hf
        refine lv_iload_n hx hb dL_isAsGuessed_13 rfl (lv_at hl 1 rfl) ?_
        refine lv_if_eq (tgt := 44) hx hb dL_isAsGuessed_14 (by decide) (fun c64 => ?_) (fun c64 => ?_)
        · have hf := br_p c64 hf
          refine lv_iconst (v := 0) hx hb dL_isAsGuessed_44 (by decide) ?_
          refine lv_istore_n (lv' := [(2, .int 0), (0, .ref (eA E 0)), (1, .int x1)]) hx hb dL_isAsGuessed_45 rfl hl (by decide) rfl (fun ls hl => ?_)
          exact h46 80 x1 0 s62 _ _ _ hW (lv_sub hl [1, 2, 0] rfl) hf
        · have hf := br_n c64 hf
          refine lv_aload_n hx hb dL_isAsGuessed_17 rfl (lv_at hl 0 rfl) ?_
          refine lv_iload_n hx hb dL_isAsGuessed_18 rfl (lv_at hl 2 rfl) ?_
          refine lv_iconst (v := 1) hx hb dL_isAsGuessed_19 (by decide) ?_
          obtain ⟨r66, s67, q65, hf⟩ := bo_inv hf
          refine ss_xcallVi (As := [.int x2, .int 1]) hx hb hml hown hK hW kb_X6_sampleOf kM_RL_24 rfl (okq_lt (by decide)) (c_fx (by decide)) (mX6_sampleOf l hfl (a1 := x2) (a2 := 1) q65) rfl dL_isAsGuessed_20 rfl hl.1 (Nat.le_of_ble_eq_true rfl) ⟨Nat.le_of_ble_eq_true rfl, Nat.le_of_ble_eq_true rfl⟩ ⟨Nat.zero_le _, Nat.zero_le _⟩ (fun H locs hW => ?_)
          refine lv_aload_n hx hb dL_isAsGuessed_23 rfl (lv_at hl 0 rfl) ?_
          refine lv_iload_n hx hb dL_isAsGuessed_24 rfl (lv_at hl 2 rfl) ?_
          refine lv_iconst (v := 2) hx hb dL_isAsGuessed_25 (by decide) ?_
          obtain ⟨r69, s70, q68, hf⟩ := bo_inv hf
          refine ss_xcallVi (As := [.int x2, .int 2]) hx hb hml hown hK hW kb_X6_sampleOf kM_RL_24 rfl (okq_lt (by decide)) (c_fx (by decide)) (mX6_sampleOf l hfl (a1 := x2) (a2 := 2) q68) rfl dL_isAsGuessed_26 rfl hl.1 (Nat.le_of_ble_eq_true rfl) ⟨Nat.le_of_ble_eq_true rfl, Nat.le_of_ble_eq_true rfl⟩ ⟨Nat.zero_le _, Nat.zero_le _⟩ (fun H locs hW => ?_)
          refine lv_icmp_ne (tgt := 36) hx hb dL_isAsGuessed_29 (by decide) (fun c71 => ?_) (fun c71 => ?_)
          · have hf := br_n c71 hf
            refine lv_iconst (v := 0) hx hb dL_isAsGuessed_36 (by decide) ?_
            refine lv_istore_n (lv' := [(1, .int 0), (0, .ref (eA E 0)), (2, .int x2)]) hx hb dL_isAsGuessed_37 rfl hl (by decide) rfl (fun ls hl => ?_)
            obtain ⟨x2_72, ex2_72⟩ : ∃ y : Int32, y = (x2 + 1) := ⟨_, rfl⟩
            have hf := nm_use ex2_72 hf
            refine lv_iinc (v := x2_72) (lv' := [(2, .int x2_72), (1, .int 0), (0, .ref (eA E 0))]) hx hb dL_isAsGuessed_38 hl (k := 2) rfl (by rw [ex2_72]; rfl) (by decide) rfl (fun ls hl => ?_)
            refine lv_goto (tgt := 4) hx hb dL_isAsGuessed_41 (by decide) ?_
            exact ih4 0 x2_72 s70 _ _ _ hW (lv_sub hl [2, 1, 0] rfl) hf
          · have hf := br_p c71 hf
            refine lv_iconst (v := 1) hx hb dL_isAsGuessed_32 (by decide) ?_
            refine lv_goto (tgt := 37) hx hb dL_isAsGuessed_33 (by decide) ?_
            refine lv_istore_n (lv' := [(1, .int 1), (0, .ref (eA E 0)), (2, .int x2)]) hx hb dL_isAsGuessed_37 rfl hl (by decide) rfl (fun ls hl => ?_)
            obtain ⟨x2_73, ex2_73⟩ : ∃ y : Int32, y = (x2 + 1) := ⟨_, rfl⟩
            have hf := nm_use ex2_73 hf
            refine lv_iinc (v := x2_73) (lv' := [(2, .int x2_73), (1, .int 1), (0, .ref (eA E 0))]) hx hb dL_isAsGuessed_38 hl (k := 2) rfl (by rw [ex2_73]; rfl) (by decide) rfl (fun ls hl => ?_)
            refine lv_goto (tgt := 4) hx hb dL_isAsGuessed_41 (by decide) ?_
            exact ih4 1 x2_73 s70 _ _ _ hW (lv_sub hl [2, 1, 0] rfl) hf
  refine lv_iconst (v := 1) hx hb dL_isAsGuessed_0 (by decide) ?_
  refine lv_istore_n (lv' := [(1, .int 1), (0, .ref (eA E 0))]) hx hb dL_isAsGuessed_1 rfl hl (by decide) rfl (fun ls hl => ?_)
  refine lv_iconst (v := 0) hx hb dL_isAsGuessed_2 (by decide) ?_
  refine lv_istore_n (lv' := [(2, .int 0), (1, .int 1), (0, .ref (eA E 0))]) hx hb dL_isAsGuessed_3 rfl hl (by decide) rfl (fun ls hl => ?_)
  exact h4 80 1 0 σ _ _ _ hW (lv_sub hl [2, 1, 0] rfl) hf
def fL_change (a1 : Int32) (a2 : Int32) (σ : Sg) : Option (Int32 × Sg) := bo (fX6_count 0 σ) fun r2 s3 => bo (fX6_count 2 s3) fun r5 s6 => bd (fL_low a1 12) fun r8 => if r8 = 0 then (bd (fL_low a2 40) fun r11 => bo (fX6_wave (1 + r11) s6) fun r13 s14 => if r13 = r2 then (bo (fX6_count 0 s14) fun r17 s18 => bd (fL_low a2 40) fun r20 => if r17 = (1 + r20) then (bo (fX6_count 1 s18) fun r23 s24 => if r23 = 0 then (some (1, s24)) else (some (0, s24))) else (some (0, s18))) else (some (0, s14))) else (if r8 = 1 then (bd (fL_low a2 r2) fun r28 => bo (fX6_sampleOf r28 0 s6) fun r30 s31 => bd (fL_low a2 r2) fun r33 => bd (fL_low (a2 >>> (6 &&& 31)) 4096) fun r35 => bo (fX6_sample r33 (r35 - 2048) s31) fun r37 s38 => if r37 = r30 then (bo (fX6_count 1 s38) fun r41 s42 => if r41 = 0 then (some (1, s42)) else (some (0, s42))) else (some (0, s38))) else (if r8 = 2 then (bd (fL_low a2 r2) fun r46 => bo (fX6_sampleOf r46 0 s6) fun r48 s49 => bd (fL_low a2 r2) fun r51 => bd (fL_low (a2 >>> (6 &&& 31)) 4096) fun r53 => bo (fX6_sample r51 (r53 - 2048) s49) fun r55 s56 => if r55 = r48 then (bo (fX6_count 1 s56) fun r59 s60 => if r59 = 0 then (some (1, s60)) else (some (0, s60))) else (some (0, s56))) else (if r8 = 3 then (bd (fL_low a2 3) fun r64 => bd (fL_low (a2 >>> (2 &&& 31)) 2048) fun r66 => bd (fL_low (a2 >>> (13 &&& 31)) 40) fun r68 => bo (fX6_add r64 r66 (1 + r68) s6) fun r70 s71 => if r70 < 0 then (some (0, s71)) else (if r2 < r70 then (some (0, s71)) else (bo (fX6_count 1 s71) fun r75 s76 => if r75 = 0 then (some (1, s76)) else (some (0, s76))))) else (if r8 = 4 then (bd (fL_low a2 3) fun r80 => bd (fL_low (a2 >>> (2 &&& 31)) 2048) fun r82 => bd (fL_low (a2 >>> (13 &&& 31)) 40) fun r84 => bo (fX6_add r80 r82 (1 + r84) s6) fun r86 s87 => if r86 < 0 then (some (0, s87)) else (if r2 < r86 then (some (0, s87)) else (bo (fX6_count 1 s87) fun r91 s92 => if r91 = 0 then (some (1, s92)) else (some (0, s92))))) else (if r8 = 5 then (bo (fX6_setting 0 s6) fun r96 s97 => bd (fL_low a2 15) fun r99 => bo (fX6_set 0 (2 + r99) s97) fun r101 s102 => if r101 = r96 then (bo (fX6_count 1 s102) fun r105 s106 => if r105 = 0 then (some (1, s106)) else (some (0, s106))) else (some (0, s102))) else (if r8 = 6 then (bo (fX6_setting (1 + (a2 &&& 1)) s6) fun r110 s111 => bd (fL_low (a2 >>> (1 &&& 31)) (2 + (a2 &&& 1))) fun r113 => bo (fX6_set (1 + (a2 &&& 1)) r113 s111) fun r115 s116 => if r115 = r110 then (some (1, s116)) else (some (0, s116))) else (if r8 = 7 then (if r5 = 0 then (some (1, s6)) else (bd (fL_low a2 r5) fun r121 => bo (fX6_lose r121 s6) fun r123 s124 => bo (fX6_count 3 s124) fun r126 s127 => if r123 = r126 then (some (1, s127)) else (some (0, s127)))) else (if r8 = 8 then (bd (fL_low a2 r2) fun r131 => bo (fX6_sampleOf r131 3 s6) fun r133 s134 => if r133 = (-1) then (some (1, s134)) else (bd (fL_low (a2 >>> (6 &&& 31)) 4) fun r137 => bd2 (fL_isSpoiled r131 r137 s134) fun r139 s140 => if r139 = 0 then (some (0, s140)) else (some (1, s140)))) else (if r8 = 9 then (if r5 = 0 then (some (1, s6)) else (bd (fL_low a2 r5) fun r145 => bd (fL_low (a2 >>> (5 &&& 31)) r5) fun r147 => bd2 (fL_loads r145 r147 s6) fun r149 s150 => if r149 = 0 then (some (0, s150)) else (some (1, s150)))) else (bo (fX6_count 9 s6) fun r153 s154 => bo (fX6_setting 0 s154) fun r156 s157 => bo (fX6_setting 0 s157) fun r159 s160 => gd (¬ r159 = 0) <| nm (((r2 + r156) - 1) / r159) fun x4_162 => bd2 (fX6_code s160) fun r164 s165 => if r164 = x4_162 then (bo (fX6_count 9 s165) fun r168 s169 => if r168 = (r153 + 1) then (bo (fX6_count 3 s169) fun r172 s173 => if r172 = 0 then (bd2 (fL_isAsGuessed s173) fun r176 s177 => if r176 = 0 then (some (0, s177)) else (some (1, s177))) else (some (0, s173))) else (some (0, s169))) else (some (0, s165))))))))))))
set_option maxHeartbeats 4000000 in
set_option maxRecDepth 100000 in
theorem mL_change (l : Launch) {E : En} {σ μ : Sg} {dg : Int64} (hfl : l.stackTraces = false) (hX0 : eX E = 0) {a1 : Int32} {a2 : Int32}  {r : Int32} {σ' : Sg} (hf : fL_change a1 a2 σ = some (r, σ')) : Met l yL_change [.code yL_change cL_change 7 (some .boolean)] (RmK 9 195 1 64) (va_Pc [.ref (eA E 0), .int a1, .int a2] (Wd E σ μ dg)) (Qi E σ' μ dg r) 1 64 (eP E) := by
  refine ss_of (by decide) (Nat.le_of_ble_eq_true rfl) (fun p e s m below meth c hx hb hr hlk hml hown hK hW ls hl => ?_)
  have hown : s.vm.findClass RL = some m.cls := hown
  have hl : lv_has ls 7 [(0, .ref (eA E 0)), (1, .int a1), (2, .int a2)] := hl
  unfold fL_change at hf
  refine lv_aload_n hx hb dL_change_0 rfl (lv_at hl 0 rfl) ?_
  refine lv_iconst (v := 0) hx hb dL_change_1 (by decide) ?_
  obtain ⟨r2, s3, q1, hf⟩ := bo_inv hf
  refine ss_xcallVi (As := [.int 0]) hx hb hml hown hK hW kb_X6_count kM_RL_9 rfl (okq_lt (by decide)) (c_fx (by decide)) (mX6_count l hfl (a1 := 0) q1) rfl dL_change_2 rfl hl.1 (Nat.le_of_ble_eq_true rfl) ⟨Nat.le_of_ble_eq_true rfl, Nat.le_of_ble_eq_true rfl⟩ ⟨Nat.zero_le _, Nat.zero_le _⟩ (fun H locs hW => ?_)
  refine lv_istore_n (lv' := [(3, .int r2), (0, .ref (eA E 0)), (1, .int a1), (2, .int a2)]) hx hb dL_change_5 rfl hl (by decide) rfl (fun ls hl => ?_)
  refine lv_aload_n hx hb dL_change_6 rfl (lv_at hl 1 rfl) ?_
  refine lv_iconst (v := 2) hx hb dL_change_7 (by decide) ?_
  obtain ⟨r5, s6, q4, hf⟩ := bo_inv hf
  refine ss_xcallVi (As := [.int 2]) hx hb hml hown hK hW kb_X6_count kM_RL_9 rfl (okq_lt (by decide)) (c_fx (by decide)) (mX6_count l hfl (a1 := 2) q4) rfl dL_change_8 rfl hl.1 (Nat.le_of_ble_eq_true rfl) ⟨Nat.le_of_ble_eq_true rfl, Nat.le_of_ble_eq_true rfl⟩ ⟨Nat.zero_le _, Nat.zero_le _⟩ (fun H locs hW => ?_)
  refine lv_istore (lv' := [(4, .int r5), (3, .int r2), (0, .ref (eA E 0)), (1, .int a1), (2, .int a2)]) hx hb dL_change_11 hl (by decide) rfl (fun ls hl => ?_)
  refine lv_iconst (v := 0) hx hb dL_change_13 (by decide) ?_
  refine lv_istore (lv' := [(5, .int 0), (4, .int r5), (3, .int r2), (0, .ref (eA E 0)), (1, .int a1), (2, .int a2)]) hx hb dL_change_14 hl (by decide) rfl (fun ls hl => ?_)
  refine lv_iload_n hx hb dL_change_16 rfl (lv_at hl 4 rfl) ?_
  refine lv_bipush (v := 12) hx hb dL_change_17 (by decide) ?_
  obtain ⟨r8, q7, hf⟩ := bd_inv hf
  refine ss_callSi (As := [.int a1, .int 12]) hx hb hml hown hK hW kb_L_low kM_RL_15 (mL_low l (a0 := a1) (a1 := 12) q7) rfl dL_change_19 rfl hl.1 (Nat.le_of_ble_eq_true rfl) ⟨Nat.le_of_ble_eq_true rfl, Nat.le_of_ble_eq_true rfl⟩ ⟨Nat.zero_le _, Nat.zero_le _⟩ (fun H locs hW => ?_)
  by_cases c9 : r8 = 0
  · have hf := br_p c9 hf
    refine lv_tableIn (tgt := 76) hx hb dL_change_22 (by rw [c9]; decide) (by rw [c9]; decide) (by rw [c9]; rfl) (by decide) ?_
    refine lv_aload_n hx hb dL_change_76 rfl (lv_at hl 3 rfl) ?_
    refine lv_iconst (v := 1) hx hb dL_change_77 (by decide) ?_
    refine lv_iload_n hx hb dL_change_78 rfl (lv_at hl 5 rfl) ?_
    refine lv_bipush (v := 40) hx hb dL_change_79 (by decide) ?_
    obtain ⟨r11, q10, hf⟩ := bd_inv hf
    refine ss_callSi (As := [.int a2, .int 40]) hx hb hml hown hK hW kb_L_low kM_RL_15 (mL_low l (a0 := a2) (a1 := 40) q10) rfl dL_change_81 rfl hl.1 (Nat.le_of_ble_eq_true rfl) ⟨Nat.le_of_ble_eq_true rfl, Nat.le_of_ble_eq_true rfl⟩ ⟨Nat.zero_le _, Nat.zero_le _⟩ (fun H locs hW => ?_)
    refine lv_iadd hx hb dL_change_84 ?_
    obtain ⟨r13, s14, q12, hf⟩ := bo_inv hf
    refine ss_xcallVi (As := [.int (1 + r11)]) hx hb hml hown hK hW kb_X6_wave kM_RL_21 rfl (okq_lt (by decide)) (c_fx (by decide)) (mX6_wave l hfl (a1 := (1 + r11)) q12) rfl dL_change_85 rfl hl.1 (Nat.le_of_ble_eq_true rfl) ⟨Nat.le_of_ble_eq_true rfl, Nat.le_of_ble_eq_true rfl⟩ ⟨Nat.zero_le _, Nat.zero_le _⟩ (fun H locs hW => ?_)
    refine lv_iload_n hx hb dL_change_88 rfl (lv_at hl 2 rfl) ?_
    refine lv_icmp_ne (tgt := 120) hx hb dL_change_89 (by decide) (fun c15 => ?_) (fun c15 => ?_)
    · have hf := br_n c15 hf
      refine lv_iconst (v := 0) hx hb dL_change_120 (by decide) ?_
      cases hf
      exact W.widen (Nat.zero_le 1) (Nat.zero_le 64) (ss_zretK hx hb hr hlk hW rfl rfl dL_change_121)
    · have hf := br_p c15 hf
      refine lv_aload_n hx hb dL_change_92 rfl (lv_at hl 3 rfl) ?_
      refine lv_iconst (v := 0) hx hb dL_change_93 (by decide) ?_
      obtain ⟨r17, s18, q16, hf⟩ := bo_inv hf
      refine ss_xcallVi (As := [.int 0]) hx hb hml hown hK hW kb_X6_count kM_RL_9 rfl (okq_lt (by decide)) (c_fx (by decide)) (mX6_count l hfl (a1 := 0) q16) rfl dL_change_94 rfl hl.1 (Nat.le_of_ble_eq_true rfl) ⟨Nat.le_of_ble_eq_true rfl, Nat.le_of_ble_eq_true rfl⟩ ⟨Nat.zero_le _, Nat.zero_le _⟩ (fun H locs hW => ?_)
      refine lv_iconst (v := 1) hx hb dL_change_97 (by decide) ?_
      refine lv_iload_n hx hb dL_change_98 rfl (lv_at hl 5 rfl) ?_
      refine lv_bipush (v := 40) hx hb dL_change_99 (by decide) ?_
      obtain ⟨r20, q19, hf⟩ := bd_inv hf
      refine ss_callSi (As := [.int a2, .int 40]) hx hb hml hown hK hW kb_L_low kM_RL_15 (mL_low l (a0 := a2) (a1 := 40) q19) rfl dL_change_101 rfl hl.1 (Nat.le_of_ble_eq_true rfl) ⟨Nat.le_of_ble_eq_true rfl, Nat.le_of_ble_eq_true rfl⟩ ⟨Nat.zero_le _, Nat.zero_le _⟩ (fun H locs hW => ?_)
      refine lv_iadd hx hb dL_change_104 ?_
      refine lv_icmp_ne (tgt := 120) hx hb dL_change_105 (by decide) (fun c21 => ?_) (fun c21 => ?_)
      · have hf := br_n c21 hf
        refine lv_iconst (v := 0) hx hb dL_change_120 (by decide) ?_
        cases hf
        exact W.widen (Nat.zero_le 1) (Nat.zero_le 64) (ss_zretK hx hb hr hlk hW rfl rfl dL_change_121)
      · have hf := br_p c21 hf
        refine lv_aload_n hx hb dL_change_108 rfl (lv_at hl 3 rfl) ?_
        refine lv_iconst (v := 1) hx hb dL_change_109 (by decide) ?_
        obtain ⟨r23, s24, q22, hf⟩ := bo_inv hf
        refine ss_xcallVi (As := [.int 1]) hx hb hml hown hK hW kb_X6_count kM_RL_9 rfl (okq_lt (by decide)) (c_fx (by decide)) (mX6_count l hfl (a1 := 1) q22) rfl dL_change_110 rfl hl.1 (Nat.le_of_ble_eq_true rfl) ⟨Nat.le_of_ble_eq_true rfl, Nat.le_of_ble_eq_true rfl⟩ ⟨Nat.zero_le _, Nat.zero_le _⟩ (fun H locs hW => ?_)
        refine lv_if_ne (tgt := 120) hx hb dL_change_113 (by decide) (fun c25 => ?_) (fun c25 => ?_)
        · have hf := br_n c25 hf
          refine lv_iconst (v := 0) hx hb dL_change_120 (by decide) ?_
          cases hf
          exact W.widen (Nat.zero_le 1) (Nat.zero_le 64) (ss_zretK hx hb hr hlk hW rfl rfl dL_change_121)
        · have hf := br_p c25 hf
          refine lv_iconst (v := 1) hx hb dL_change_116 (by decide) ?_
          refine lv_goto (tgt := 121) hx hb dL_change_117 (by decide) ?_
          cases hf
          exact W.widen (Nat.zero_le 1) (Nat.zero_le 64) (ss_zretK hx hb hr hlk hW rfl rfl dL_change_121)
  have hf := br_n c9 hf
  by_cases c26 : r8 = 1
  · have hf := br_p c26 hf
    refine lv_tableIn (tgt := 122) hx hb dL_change_22 (by rw [c26]; decide) (by rw [c26]; decide) (by rw [c26]; rfl) (by decide) ?_
    refine lv_aload_n hx hb dL_change_122 rfl (lv_at hl 3 rfl) ?_
    refine lv_iload_n hx hb dL_change_123 rfl (lv_at hl 5 rfl) ?_
    refine lv_iload_n hx hb dL_change_124 rfl (lv_at hl 2 rfl) ?_
    obtain ⟨r28, q27, hf⟩ := bd_inv hf
    refine ss_callSi (As := [.int a2, .int r2]) hx hb hml hown hK hW kb_L_low kM_RL_15 (mL_low l (a0 := a2) (a1 := r2) q27) rfl dL_change_125 rfl hl.1 (Nat.le_of_ble_eq_true rfl) ⟨Nat.le_of_ble_eq_true rfl, Nat.le_of_ble_eq_true rfl⟩ ⟨Nat.zero_le _, Nat.zero_le _⟩ (fun H locs hW => ?_)
    refine lv_iconst (v := 0) hx hb dL_change_128 (by decide) ?_
    obtain ⟨r30, s31, q29, hf⟩ := bo_inv hf
    refine ss_xcallVi (As := [.int r28, .int 0]) hx hb hml hown hK hW kb_X6_sampleOf kM_RL_24 rfl (okq_lt (by decide)) (c_fx (by decide)) (mX6_sampleOf l hfl (a1 := r28) (a2 := 0) q29) rfl dL_change_129 rfl hl.1 (Nat.le_of_ble_eq_true rfl) ⟨Nat.le_of_ble_eq_true rfl, Nat.le_of_ble_eq_true rfl⟩ ⟨Nat.zero_le _, Nat.zero_le _⟩ (fun H locs hW => ?_)
    refine lv_istore (lv' := [(5, .int r30), (4, .int r5), (3, .int r2), (0, .ref (eA E 0)), (1, .int a1), (2, .int a2)]) hx hb dL_change_132 hl (by decide) rfl (fun ls hl => ?_)
    refine lv_aload_n hx hb dL_change_134 rfl (lv_at hl 3 rfl) ?_
    refine lv_iload_n hx hb dL_change_135 rfl (lv_at hl 5 rfl) ?_
    refine lv_iload_n hx hb dL_change_136 rfl (lv_at hl 2 rfl) ?_
    obtain ⟨r33, q32, hf⟩ := bd_inv hf
    refine ss_callSi (As := [.int a2, .int r2]) hx hb hml hown hK hW kb_L_low kM_RL_15 (mL_low l (a0 := a2) (a1 := r2) q32) rfl dL_change_137 rfl hl.1 (Nat.le_of_ble_eq_true rfl) ⟨Nat.le_of_ble_eq_true rfl, Nat.le_of_ble_eq_true rfl⟩ ⟨Nat.zero_le _, Nat.zero_le _⟩ (fun H locs hW => ?_)
    refine lv_iload_n hx hb dL_change_140 rfl (lv_at hl 5 rfl) ?_
    refine lv_bipush (v := 6) hx hb dL_change_141 (by decide) ?_
    refine lv_ishr hx hb dL_change_143 ?_
    refine lv_sipush (v := 4096) hx hb dL_change_144 (by decide) ?_
    obtain ⟨r35, q34, hf⟩ := bd_inv hf
    refine ss_callSi (As := [.int (a2 >>> (6 &&& 31)), .int 4096]) hx hb hml hown hK hW kb_L_low kM_RL_15 (mL_low l (a0 := (a2 >>> (6 &&& 31))) (a1 := 4096) q34) rfl dL_change_147 rfl hl.1 (Nat.le_of_ble_eq_true rfl) ⟨Nat.le_of_ble_eq_true rfl, Nat.le_of_ble_eq_true rfl⟩ ⟨Nat.zero_le _, Nat.zero_le _⟩ (fun H locs hW => ?_)
    refine lv_sipush (v := 2048) hx hb dL_change_150 (by decide) ?_
    refine lv_isub hx hb dL_change_153 ?_
    obtain ⟨r37, s38, q36, hf⟩ := bo_inv hf
    refine ss_xcallVi (As := [.int r33, .int (r35 - 2048)]) hx hb hml hown hK hW kb_X6_sample kM_RL_27 rfl (okq_lt (by decide)) (c_fx (by decide)) (mX6_sample l hfl (a1 := r33) (a2 := (r35 - 2048)) q36) rfl dL_change_154 rfl hl.1 (Nat.le_of_ble_eq_true rfl) ⟨Nat.le_of_ble_eq_true rfl, Nat.le_of_ble_eq_true rfl⟩ ⟨Nat.zero_le _, Nat.zero_le _⟩ (fun H locs hW => ?_)
    refine lv_iload hx hb dL_change_157 (lv_at hl 0 rfl) ?_
    refine lv_icmp_ne (tgt := 174) hx hb dL_change_159 (by decide) (fun c39 => ?_) (fun c39 => ?_)
    · have hf := br_n c39 hf
      refine lv_iconst (v := 0) hx hb dL_change_174 (by decide) ?_
      cases hf
      exact W.widen (Nat.zero_le 1) (Nat.zero_le 64) (ss_zretK hx hb hr hlk hW rfl rfl dL_change_175)
    · have hf := br_p c39 hf
      refine lv_aload_n hx hb dL_change_162 rfl (lv_at hl 3 rfl) ?_
      refine lv_iconst (v := 1) hx hb dL_change_163 (by decide) ?_
      obtain ⟨r41, s42, q40, hf⟩ := bo_inv hf
      refine ss_xcallVi (As := [.int 1]) hx hb hml hown hK hW kb_X6_count kM_RL_9 rfl (okq_lt (by decide)) (c_fx (by decide)) (mX6_count l hfl (a1 := 1) q40) rfl dL_change_164 rfl hl.1 (Nat.le_of_ble_eq_true rfl) ⟨Nat.le_of_ble_eq_true rfl, Nat.le_of_ble_eq_true rfl⟩ ⟨Nat.zero_le _, Nat.zero_le _⟩ (fun H locs hW => ?_)
      refine lv_if_ne (tgt := 174) hx hb dL_change_167 (by decide) (fun c43 => ?_) (fun c43 => ?_)
      · have hf := br_n c43 hf
        refine lv_iconst (v := 0) hx hb dL_change_174 (by decide) ?_
        cases hf
        exact W.widen (Nat.zero_le 1) (Nat.zero_le 64) (ss_zretK hx hb hr hlk hW rfl rfl dL_change_175)
      · have hf := br_p c43 hf
        refine lv_iconst (v := 1) hx hb dL_change_170 (by decide) ?_
        refine lv_goto (tgt := 175) hx hb dL_change_171 (by decide) ?_
        cases hf
        exact W.widen (Nat.zero_le 1) (Nat.zero_le 64) (ss_zretK hx hb hr hlk hW rfl rfl dL_change_175)
  have hf := br_n c26 hf
  by_cases c44 : r8 = 2
  · have hf := br_p c44 hf
    refine lv_tableIn (tgt := 122) hx hb dL_change_22 (by rw [c44]; decide) (by rw [c44]; decide) (by rw [c44]; rfl) (by decide) ?_
    refine lv_aload_n hx hb dL_change_122 rfl (lv_at hl 3 rfl) ?_
    refine lv_iload_n hx hb dL_change_123 rfl (lv_at hl 5 rfl) ?_
    refine lv_iload_n hx hb dL_change_124 rfl (lv_at hl 2 rfl) ?_
    obtain ⟨r46, q45, hf⟩ := bd_inv hf
    refine ss_callSi (As := [.int a2, .int r2]) hx hb hml hown hK hW kb_L_low kM_RL_15 (mL_low l (a0 := a2) (a1 := r2) q45) rfl dL_change_125 rfl hl.1 (Nat.le_of_ble_eq_true rfl) ⟨Nat.le_of_ble_eq_true rfl, Nat.le_of_ble_eq_true rfl⟩ ⟨Nat.zero_le _, Nat.zero_le _⟩ (fun H locs hW => ?_)
    refine lv_iconst (v := 0) hx hb dL_change_128 (by decide) ?_
    obtain ⟨r48, s49, q47, hf⟩ := bo_inv hf
    refine ss_xcallVi (As := [.int r46, .int 0]) hx hb hml hown hK hW kb_X6_sampleOf kM_RL_24 rfl (okq_lt (by decide)) (c_fx (by decide)) (mX6_sampleOf l hfl (a1 := r46) (a2 := 0) q47) rfl dL_change_129 rfl hl.1 (Nat.le_of_ble_eq_true rfl) ⟨Nat.le_of_ble_eq_true rfl, Nat.le_of_ble_eq_true rfl⟩ ⟨Nat.zero_le _, Nat.zero_le _⟩ (fun H locs hW => ?_)
    refine lv_istore (lv' := [(5, .int r48), (4, .int r5), (3, .int r2), (0, .ref (eA E 0)), (1, .int a1), (2, .int a2)]) hx hb dL_change_132 hl (by decide) rfl (fun ls hl => ?_)
    refine lv_aload_n hx hb dL_change_134 rfl (lv_at hl 3 rfl) ?_
    refine lv_iload_n hx hb dL_change_135 rfl (lv_at hl 5 rfl) ?_
    refine lv_iload_n hx hb dL_change_136 rfl (lv_at hl 2 rfl) ?_
    obtain ⟨r51, q50, hf⟩ := bd_inv hf
    refine ss_callSi (As := [.int a2, .int r2]) hx hb hml hown hK hW kb_L_low kM_RL_15 (mL_low l (a0 := a2) (a1 := r2) q50) rfl dL_change_137 rfl hl.1 (Nat.le_of_ble_eq_true rfl) ⟨Nat.le_of_ble_eq_true rfl, Nat.le_of_ble_eq_true rfl⟩ ⟨Nat.zero_le _, Nat.zero_le _⟩ (fun H locs hW => ?_)
    refine lv_iload_n hx hb dL_change_140 rfl (lv_at hl 5 rfl) ?_
    refine lv_bipush (v := 6) hx hb dL_change_141 (by decide) ?_
    refine lv_ishr hx hb dL_change_143 ?_
    refine lv_sipush (v := 4096) hx hb dL_change_144 (by decide) ?_
    obtain ⟨r53, q52, hf⟩ := bd_inv hf
    refine ss_callSi (As := [.int (a2 >>> (6 &&& 31)), .int 4096]) hx hb hml hown hK hW kb_L_low kM_RL_15 (mL_low l (a0 := (a2 >>> (6 &&& 31))) (a1 := 4096) q52) rfl dL_change_147 rfl hl.1 (Nat.le_of_ble_eq_true rfl) ⟨Nat.le_of_ble_eq_true rfl, Nat.le_of_ble_eq_true rfl⟩ ⟨Nat.zero_le _, Nat.zero_le _⟩ (fun H locs hW => ?_)
    refine lv_sipush (v := 2048) hx hb dL_change_150 (by decide) ?_
    refine lv_isub hx hb dL_change_153 ?_
    obtain ⟨r55, s56, q54, hf⟩ := bo_inv hf
    refine ss_xcallVi (As := [.int r51, .int (r53 - 2048)]) hx hb hml hown hK hW kb_X6_sample kM_RL_27 rfl (okq_lt (by decide)) (c_fx (by decide)) (mX6_sample l hfl (a1 := r51) (a2 := (r53 - 2048)) q54) rfl dL_change_154 rfl hl.1 (Nat.le_of_ble_eq_true rfl) ⟨Nat.le_of_ble_eq_true rfl, Nat.le_of_ble_eq_true rfl⟩ ⟨Nat.zero_le _, Nat.zero_le _⟩ (fun H locs hW => ?_)
    refine lv_iload hx hb dL_change_157 (lv_at hl 0 rfl) ?_
    refine lv_icmp_ne (tgt := 174) hx hb dL_change_159 (by decide) (fun c57 => ?_) (fun c57 => ?_)
    · have hf := br_n c57 hf
      refine lv_iconst (v := 0) hx hb dL_change_174 (by decide) ?_
      cases hf
      exact W.widen (Nat.zero_le 1) (Nat.zero_le 64) (ss_zretK hx hb hr hlk hW rfl rfl dL_change_175)
    · have hf := br_p c57 hf
      refine lv_aload_n hx hb dL_change_162 rfl (lv_at hl 3 rfl) ?_
      refine lv_iconst (v := 1) hx hb dL_change_163 (by decide) ?_
      obtain ⟨r59, s60, q58, hf⟩ := bo_inv hf
      refine ss_xcallVi (As := [.int 1]) hx hb hml hown hK hW kb_X6_count kM_RL_9 rfl (okq_lt (by decide)) (c_fx (by decide)) (mX6_count l hfl (a1 := 1) q58) rfl dL_change_164 rfl hl.1 (Nat.le_of_ble_eq_true rfl) ⟨Nat.le_of_ble_eq_true rfl, Nat.le_of_ble_eq_true rfl⟩ ⟨Nat.zero_le _, Nat.zero_le _⟩ (fun H locs hW => ?_)
      refine lv_if_ne (tgt := 174) hx hb dL_change_167 (by decide) (fun c61 => ?_) (fun c61 => ?_)
      · have hf := br_n c61 hf
        refine lv_iconst (v := 0) hx hb dL_change_174 (by decide) ?_
        cases hf
        exact W.widen (Nat.zero_le 1) (Nat.zero_le 64) (ss_zretK hx hb hr hlk hW rfl rfl dL_change_175)
      · have hf := br_p c61 hf
        refine lv_iconst (v := 1) hx hb dL_change_170 (by decide) ?_
        refine lv_goto (tgt := 175) hx hb dL_change_171 (by decide) ?_
        cases hf
        exact W.widen (Nat.zero_le 1) (Nat.zero_le 64) (ss_zretK hx hb hr hlk hW rfl rfl dL_change_175)
  have hf := br_n c44 hf
  by_cases c62 : r8 = 3
  · have hf := br_p c62 hf
    refine lv_tableIn (tgt := 176) hx hb dL_change_22 (by rw [c62]; decide) (by rw [c62]; decide) (by rw [c62]; rfl) (by decide) ?_
    refine lv_aload_n hx hb dL_change_176 rfl (lv_at hl 3 rfl) ?_
    refine lv_iload_n hx hb dL_change_177 rfl (lv_at hl 5 rfl) ?_
    refine lv_iconst (v := 3) hx hb dL_change_178 (by decide) ?_
    obtain ⟨r64, q63, hf⟩ := bd_inv hf
    refine ss_callSi (As := [.int a2, .int 3]) hx hb hml hown hK hW kb_L_low kM_RL_15 (mL_low l (a0 := a2) (a1 := 3) q63) rfl dL_change_179 rfl hl.1 (Nat.le_of_ble_eq_true rfl) ⟨Nat.le_of_ble_eq_true rfl, Nat.le_of_ble_eq_true rfl⟩ ⟨Nat.zero_le _, Nat.zero_le _⟩ (fun H locs hW => ?_)
    refine lv_iload_n hx hb dL_change_182 rfl (lv_at hl 5 rfl) ?_
    refine lv_iconst (v := 2) hx hb dL_change_183 (by decide) ?_
    refine lv_ishr hx hb dL_change_184 ?_
    refine lv_sipush (v := 2048) hx hb dL_change_185 (by decide) ?_
    obtain ⟨r66, q65, hf⟩ := bd_inv hf
    refine ss_callSi (As := [.int (a2 >>> (2 &&& 31)), .int 2048]) hx hb hml hown hK hW kb_L_low kM_RL_15 (mL_low l (a0 := (a2 >>> (2 &&& 31))) (a1 := 2048) q65) rfl dL_change_188 rfl hl.1 (Nat.le_of_ble_eq_true rfl) ⟨Nat.le_of_ble_eq_true rfl, Nat.le_of_ble_eq_true rfl⟩ ⟨Nat.zero_le _, Nat.zero_le _⟩ (fun H locs hW => ?_)
    refine lv_iconst (v := 1) hx hb dL_change_191 (by decide) ?_
    refine lv_iload_n hx hb dL_change_192 rfl (lv_at hl 5 rfl) ?_
    refine lv_bipush (v := 13) hx hb dL_change_193 (by decide) ?_
    refine lv_ishr hx hb dL_change_195 ?_
    refine lv_bipush (v := 40) hx hb dL_change_196 (by decide) ?_
    obtain ⟨r68, q67, hf⟩ := bd_inv hf
    refine ss_callSi (As := [.int (a2 >>> (13 &&& 31)), .int 40]) hx hb hml hown hK hW kb_L_low kM_RL_15 (mL_low l (a0 := (a2 >>> (13 &&& 31))) (a1 := 40) q67) rfl dL_change_198 rfl hl.1 (Nat.le_of_ble_eq_true rfl) ⟨Nat.le_of_ble_eq_true rfl, Nat.le_of_ble_eq_true rfl⟩ ⟨Nat.zero_le _, Nat.zero_le _⟩ (fun H locs hW => ?_)
    refine lv_iadd hx hb dL_change_201 ?_
    obtain ⟨r70, s71, q69, hf⟩ := bo_inv hf
    refine ss_xcallVi (As := [.int r64, .int r66, .int (1 + r68)]) hx hb hml hown hK hW kb_X6_add kM_RL_30 rfl (okq_lt (by decide)) (c_fx (by decide)) (mX6_add l hfl (a1 := r64) (a2 := r66) (a3 := (1 + r68)) q69) rfl dL_change_202 rfl hl.1 (Nat.le_of_ble_eq_true rfl) ⟨Nat.le_of_ble_eq_true rfl, Nat.le_of_ble_eq_true rfl⟩ ⟨Nat.zero_le _, Nat.zero_le _⟩ (fun H locs hW => ?_)
    refine lv_istore (lv' := [(5, .int r70), (4, .int r5), (3, .int r2), (0, .ref (eA E 0)), (1, .int a1), (2, .int a2)]) hx hb dL_change_205 hl (by decide) rfl (fun ls hl => ?_)
    refine lv_iload hx hb dL_change_207 (lv_at hl 0 rfl) ?_
    refine lv_if_lt (tgt := 230) hx hb dL_change_209 (by decide) (fun c72 => ?_) (fun c72 => ?_)
    · have hf := br_p c72 hf
      refine lv_iconst (v := 0) hx hb dL_change_230 (by decide) ?_
      cases hf
      exact W.widen (Nat.zero_le 1) (Nat.zero_le 64) (ss_zretK hx hb hr hlk hW rfl rfl dL_change_231)
    · have hf := br_n c72 hf
      refine lv_iload hx hb dL_change_212 (lv_at hl 0 rfl) ?_
      refine lv_iload_n hx hb dL_change_214 rfl (lv_at hl 2 rfl) ?_
      refine lv_icmp_gt (tgt := 230) hx hb dL_change_215 (by decide) (fun c73 => ?_) (fun c73 => ?_)
      · have hf := br_p c73 hf
        refine lv_iconst (v := 0) hx hb dL_change_230 (by decide) ?_
        cases hf
        exact W.widen (Nat.zero_le 1) (Nat.zero_le 64) (ss_zretK hx hb hr hlk hW rfl rfl dL_change_231)
      · have hf := br_n c73 hf
        refine lv_aload_n hx hb dL_change_218 rfl (lv_at hl 3 rfl) ?_
        refine lv_iconst (v := 1) hx hb dL_change_219 (by decide) ?_
        obtain ⟨r75, s76, q74, hf⟩ := bo_inv hf
        refine ss_xcallVi (As := [.int 1]) hx hb hml hown hK hW kb_X6_count kM_RL_9 rfl (okq_lt (by decide)) (c_fx (by decide)) (mX6_count l hfl (a1 := 1) q74) rfl dL_change_220 rfl hl.1 (Nat.le_of_ble_eq_true rfl) ⟨Nat.le_of_ble_eq_true rfl, Nat.le_of_ble_eq_true rfl⟩ ⟨Nat.zero_le _, Nat.zero_le _⟩ (fun H locs hW => ?_)
        refine lv_if_ne (tgt := 230) hx hb dL_change_223 (by decide) (fun c77 => ?_) (fun c77 => ?_)
        · have hf := br_n c77 hf
          refine lv_iconst (v := 0) hx hb dL_change_230 (by decide) ?_
          cases hf
          exact W.widen (Nat.zero_le 1) (Nat.zero_le 64) (ss_zretK hx hb hr hlk hW rfl rfl dL_change_231)
        · have hf := br_p c77 hf
          refine lv_iconst (v := 1) hx hb dL_change_226 (by decide) ?_
          refine lv_goto (tgt := 231) hx hb dL_change_227 (by decide) ?_
          cases hf
          exact W.widen (Nat.zero_le 1) (Nat.zero_le 64) (ss_zretK hx hb hr hlk hW rfl rfl dL_change_231)
  have hf := br_n c62 hf
  by_cases c78 : r8 = 4
  · have hf := br_p c78 hf
    refine lv_tableIn (tgt := 176) hx hb dL_change_22 (by rw [c78]; decide) (by rw [c78]; decide) (by rw [c78]; rfl) (by decide) ?_
    refine lv_aload_n hx hb dL_change_176 rfl (lv_at hl 3 rfl) ?_
    refine lv_iload_n hx hb dL_change_177 rfl (lv_at hl 5 rfl) ?_
    refine lv_iconst (v := 3) hx hb dL_change_178 (by decide) ?_
    obtain ⟨r80, q79, hf⟩ := bd_inv hf
    refine ss_callSi (As := [.int a2, .int 3]) hx hb hml hown hK hW kb_L_low kM_RL_15 (mL_low l (a0 := a2) (a1 := 3) q79) rfl dL_change_179 rfl hl.1 (Nat.le_of_ble_eq_true rfl) ⟨Nat.le_of_ble_eq_true rfl, Nat.le_of_ble_eq_true rfl⟩ ⟨Nat.zero_le _, Nat.zero_le _⟩ (fun H locs hW => ?_)
    refine lv_iload_n hx hb dL_change_182 rfl (lv_at hl 5 rfl) ?_
    refine lv_iconst (v := 2) hx hb dL_change_183 (by decide) ?_
    refine lv_ishr hx hb dL_change_184 ?_
    refine lv_sipush (v := 2048) hx hb dL_change_185 (by decide) ?_
    obtain ⟨r82, q81, hf⟩ := bd_inv hf
    refine ss_callSi (As := [.int (a2 >>> (2 &&& 31)), .int 2048]) hx hb hml hown hK hW kb_L_low kM_RL_15 (mL_low l (a0 := (a2 >>> (2 &&& 31))) (a1 := 2048) q81) rfl dL_change_188 rfl hl.1 (Nat.le_of_ble_eq_true rfl) ⟨Nat.le_of_ble_eq_true rfl, Nat.le_of_ble_eq_true rfl⟩ ⟨Nat.zero_le _, Nat.zero_le _⟩ (fun H locs hW => ?_)
    refine lv_iconst (v := 1) hx hb dL_change_191 (by decide) ?_
    refine lv_iload_n hx hb dL_change_192 rfl (lv_at hl 5 rfl) ?_
    refine lv_bipush (v := 13) hx hb dL_change_193 (by decide) ?_
    refine lv_ishr hx hb dL_change_195 ?_
    refine lv_bipush (v := 40) hx hb dL_change_196 (by decide) ?_
    obtain ⟨r84, q83, hf⟩ := bd_inv hf
    refine ss_callSi (As := [.int (a2 >>> (13 &&& 31)), .int 40]) hx hb hml hown hK hW kb_L_low kM_RL_15 (mL_low l (a0 := (a2 >>> (13 &&& 31))) (a1 := 40) q83) rfl dL_change_198 rfl hl.1 (Nat.le_of_ble_eq_true rfl) ⟨Nat.le_of_ble_eq_true rfl, Nat.le_of_ble_eq_true rfl⟩ ⟨Nat.zero_le _, Nat.zero_le _⟩ (fun H locs hW => ?_)
    refine lv_iadd hx hb dL_change_201 ?_
    obtain ⟨r86, s87, q85, hf⟩ := bo_inv hf
    refine ss_xcallVi (As := [.int r80, .int r82, .int (1 + r84)]) hx hb hml hown hK hW kb_X6_add kM_RL_30 rfl (okq_lt (by decide)) (c_fx (by decide)) (mX6_add l hfl (a1 := r80) (a2 := r82) (a3 := (1 + r84)) q85) rfl dL_change_202 rfl hl.1 (Nat.le_of_ble_eq_true rfl) ⟨Nat.le_of_ble_eq_true rfl, Nat.le_of_ble_eq_true rfl⟩ ⟨Nat.zero_le _, Nat.zero_le _⟩ (fun H locs hW => ?_)
    refine lv_istore (lv' := [(5, .int r86), (4, .int r5), (3, .int r2), (0, .ref (eA E 0)), (1, .int a1), (2, .int a2)]) hx hb dL_change_205 hl (by decide) rfl (fun ls hl => ?_)
    refine lv_iload hx hb dL_change_207 (lv_at hl 0 rfl) ?_
    refine lv_if_lt (tgt := 230) hx hb dL_change_209 (by decide) (fun c88 => ?_) (fun c88 => ?_)
    · have hf := br_p c88 hf
      refine lv_iconst (v := 0) hx hb dL_change_230 (by decide) ?_
      cases hf
      exact W.widen (Nat.zero_le 1) (Nat.zero_le 64) (ss_zretK hx hb hr hlk hW rfl rfl dL_change_231)
    · have hf := br_n c88 hf
      refine lv_iload hx hb dL_change_212 (lv_at hl 0 rfl) ?_
      refine lv_iload_n hx hb dL_change_214 rfl (lv_at hl 2 rfl) ?_
      refine lv_icmp_gt (tgt := 230) hx hb dL_change_215 (by decide) (fun c89 => ?_) (fun c89 => ?_)
      · have hf := br_p c89 hf
        refine lv_iconst (v := 0) hx hb dL_change_230 (by decide) ?_
        cases hf
        exact W.widen (Nat.zero_le 1) (Nat.zero_le 64) (ss_zretK hx hb hr hlk hW rfl rfl dL_change_231)
      · have hf := br_n c89 hf
        refine lv_aload_n hx hb dL_change_218 rfl (lv_at hl 3 rfl) ?_
        refine lv_iconst (v := 1) hx hb dL_change_219 (by decide) ?_
        obtain ⟨r91, s92, q90, hf⟩ := bo_inv hf
        refine ss_xcallVi (As := [.int 1]) hx hb hml hown hK hW kb_X6_count kM_RL_9 rfl (okq_lt (by decide)) (c_fx (by decide)) (mX6_count l hfl (a1 := 1) q90) rfl dL_change_220 rfl hl.1 (Nat.le_of_ble_eq_true rfl) ⟨Nat.le_of_ble_eq_true rfl, Nat.le_of_ble_eq_true rfl⟩ ⟨Nat.zero_le _, Nat.zero_le _⟩ (fun H locs hW => ?_)
        refine lv_if_ne (tgt := 230) hx hb dL_change_223 (by decide) (fun c93 => ?_) (fun c93 => ?_)
        · have hf := br_n c93 hf
          refine lv_iconst (v := 0) hx hb dL_change_230 (by decide) ?_
          cases hf
          exact W.widen (Nat.zero_le 1) (Nat.zero_le 64) (ss_zretK hx hb hr hlk hW rfl rfl dL_change_231)
        · have hf := br_p c93 hf
          refine lv_iconst (v := 1) hx hb dL_change_226 (by decide) ?_
          refine lv_goto (tgt := 231) hx hb dL_change_227 (by decide) ?_
          cases hf
          exact W.widen (Nat.zero_le 1) (Nat.zero_le 64) (ss_zretK hx hb hr hlk hW rfl rfl dL_change_231)
  have hf := br_n c78 hf
  by_cases c94 : r8 = 5
  · have hf := br_p c94 hf
    refine lv_tableIn (tgt := 232) hx hb dL_change_22 (by rw [c94]; decide) (by rw [c94]; decide) (by rw [c94]; rfl) (by decide) ?_
    refine lv_aload_n hx hb dL_change_232 rfl (lv_at hl 3 rfl) ?_
    refine lv_iconst (v := 0) hx hb dL_change_233 (by decide) ?_
    obtain ⟨r96, s97, q95, hf⟩ := bo_inv hf
    refine ss_xcallVi (As := [.int 0]) hx hb hml hown hK hW kb_X6_setting kM_RL_34 rfl (okq_lt (by decide)) (c_fx (by decide)) (mX6_setting l hfl (a1 := 0) q95) rfl dL_change_234 rfl hl.1 (Nat.le_of_ble_eq_true rfl) ⟨Nat.le_of_ble_eq_true rfl, Nat.le_of_ble_eq_true rfl⟩ ⟨Nat.zero_le _, Nat.zero_le _⟩ (fun H locs hW => ?_)
    refine lv_istore (lv' := [(5, .int r96), (4, .int r5), (3, .int r2), (0, .ref (eA E 0)), (1, .int a1), (2, .int a2)]) hx hb dL_change_237 hl (by decide) rfl (fun ls hl => ?_)
    refine lv_aload_n hx hb dL_change_239 rfl (lv_at hl 3 rfl) ?_
    refine lv_iconst (v := 0) hx hb dL_change_240 (by decide) ?_
    refine lv_iconst (v := 2) hx hb dL_change_241 (by decide) ?_
    refine lv_iload_n hx hb dL_change_242 rfl (lv_at hl 5 rfl) ?_
    refine lv_bipush (v := 15) hx hb dL_change_243 (by decide) ?_
    obtain ⟨r99, q98, hf⟩ := bd_inv hf
    refine ss_callSi (As := [.int a2, .int 15]) hx hb hml hown hK hW kb_L_low kM_RL_15 (mL_low l (a0 := a2) (a1 := 15) q98) rfl dL_change_245 rfl hl.1 (Nat.le_of_ble_eq_true rfl) ⟨Nat.le_of_ble_eq_true rfl, Nat.le_of_ble_eq_true rfl⟩ ⟨Nat.zero_le _, Nat.zero_le _⟩ (fun H locs hW => ?_)
    refine lv_iadd hx hb dL_change_248 ?_
    obtain ⟨r101, s102, q100, hf⟩ := bo_inv hf
    refine ss_xcallVi (As := [.int 0, .int (2 + r99)]) hx hb hml hown hK hW kb_X6_set kM_RL_37 rfl (okq_lt (by decide)) (c_fx (by decide)) (mX6_set l hfl (a1 := 0) (a2 := (2 + r99)) q100) rfl dL_change_249 rfl hl.1 (Nat.le_of_ble_eq_true rfl) ⟨Nat.le_of_ble_eq_true rfl, Nat.le_of_ble_eq_true rfl⟩ ⟨Nat.zero_le _, Nat.zero_le _⟩ (fun H locs hW => ?_)
    refine lv_iload hx hb dL_change_252 (lv_at hl 0 rfl) ?_
    refine lv_icmp_ne (tgt := 269) hx hb dL_change_254 (by decide) (fun c103 => ?_) (fun c103 => ?_)
    · have hf := br_n c103 hf
      refine lv_iconst (v := 0) hx hb dL_change_269 (by decide) ?_
      cases hf
      exact W.widen (Nat.zero_le 1) (Nat.zero_le 64) (ss_zretK hx hb hr hlk hW rfl rfl dL_change_270)
    · have hf := br_p c103 hf
      refine lv_aload_n hx hb dL_change_257 rfl (lv_at hl 3 rfl) ?_
      refine lv_iconst (v := 1) hx hb dL_change_258 (by decide) ?_
      obtain ⟨r105, s106, q104, hf⟩ := bo_inv hf
      refine ss_xcallVi (As := [.int 1]) hx hb hml hown hK hW kb_X6_count kM_RL_9 rfl (okq_lt (by decide)) (c_fx (by decide)) (mX6_count l hfl (a1 := 1) q104) rfl dL_change_259 rfl hl.1 (Nat.le_of_ble_eq_true rfl) ⟨Nat.le_of_ble_eq_true rfl, Nat.le_of_ble_eq_true rfl⟩ ⟨Nat.zero_le _, Nat.zero_le _⟩ (fun H locs hW => ?_)
      refine lv_if_ne (tgt := 269) hx hb dL_change_262 (by decide) (fun c107 => ?_) (fun c107 => ?_)
      · have hf := br_n c107 hf
        refine lv_iconst (v := 0) hx hb dL_change_269 (by decide) ?_
        cases hf
        exact W.widen (Nat.zero_le 1) (Nat.zero_le 64) (ss_zretK hx hb hr hlk hW rfl rfl dL_change_270)
      · have hf := br_p c107 hf
        refine lv_iconst (v := 1) hx hb dL_change_265 (by decide) ?_
        refine lv_goto (tgt := 270) hx hb dL_change_266 (by decide) ?_
        cases hf
        exact W.widen (Nat.zero_le 1) (Nat.zero_le 64) (ss_zretK hx hb hr hlk hW rfl rfl dL_change_270)
  have hf := br_n c94 hf
  by_cases c108 : r8 = 6
  · have hf := br_p c108 hf
    refine lv_tableIn (tgt := 271) hx hb dL_change_22 (by rw [c108]; decide) (by rw [c108]; decide) (by rw [c108]; rfl) (by decide) ?_
    refine lv_aload_n hx hb dL_change_271 rfl (lv_at hl 3 rfl) ?_
    refine lv_iconst (v := 1) hx hb dL_change_272 (by decide) ?_
    refine lv_iload_n hx hb dL_change_273 rfl (lv_at hl 5 rfl) ?_
    refine lv_iconst (v := 1) hx hb dL_change_274 (by decide) ?_
    refine lv_iand hx hb dL_change_275 ?_
    refine lv_iadd hx hb dL_change_276 ?_
    obtain ⟨r110, s111, q109, hf⟩ := bo_inv hf
    refine ss_xcallVi (As := [.int (1 + (a2 &&& 1))]) hx hb hml hown hK hW kb_X6_setting kM_RL_34 rfl (okq_lt (by decide)) (c_fx (by decide)) (mX6_setting l hfl (a1 := (1 + (a2 &&& 1))) q109) rfl dL_change_277 rfl hl.1 (Nat.le_of_ble_eq_true rfl) ⟨Nat.le_of_ble_eq_true rfl, Nat.le_of_ble_eq_true rfl⟩ ⟨Nat.zero_le _, Nat.zero_le _⟩ (fun H locs hW => ?_)
    refine lv_istore (lv' := [(5, .int r110), (4, .int r5), (3, .int r2), (0, .ref (eA E 0)), (1, .int a1), (2, .int a2)]) hx hb dL_change_280 hl (by decide) rfl (fun ls hl => ?_)
    refine lv_aload_n hx hb dL_change_282 rfl (lv_at hl 3 rfl) ?_
    refine lv_iconst (v := 1) hx hb dL_change_283 (by decide) ?_
    refine lv_iload_n hx hb dL_change_284 rfl (lv_at hl 5 rfl) ?_
    refine lv_iconst (v := 1) hx hb dL_change_285 (by decide) ?_
    refine lv_iand hx hb dL_change_286 ?_
    refine lv_iadd hx hb dL_change_287 ?_
    refine lv_iload_n hx hb dL_change_288 rfl (lv_at hl 5 rfl) ?_
    refine lv_iconst (v := 1) hx hb dL_change_289 (by decide) ?_
    refine lv_ishr hx hb dL_change_290 ?_
    refine lv_iconst (v := 2) hx hb dL_change_291 (by decide) ?_
    refine lv_iload_n hx hb dL_change_292 rfl (lv_at hl 5 rfl) ?_
    refine lv_iconst (v := 1) hx hb dL_change_293 (by decide) ?_
    refine lv_iand hx hb dL_change_294 ?_
    refine lv_iadd hx hb dL_change_295 ?_
    obtain ⟨r113, q112, hf⟩ := bd_inv hf
    refine ss_callSi (As := [.int (a2 >>> (1 &&& 31)), .int (2 + (a2 &&& 1))]) hx hb hml hown hK hW kb_L_low kM_RL_15 (mL_low l (a0 := (a2 >>> (1 &&& 31))) (a1 := (2 + (a2 &&& 1))) q112) rfl dL_change_296 rfl hl.1 (Nat.le_of_ble_eq_true rfl) ⟨Nat.le_of_ble_eq_true rfl, Nat.le_of_ble_eq_true rfl⟩ ⟨Nat.zero_le _, Nat.zero_le _⟩ (fun H locs hW => ?_)
    obtain ⟨r115, s116, q114, hf⟩ := bo_inv hf
    refine ss_xcallVi (As := [.int (1 + (a2 &&& 1)), .int r113]) hx hb hml hown hK hW kb_X6_set kM_RL_37 rfl (okq_lt (by decide)) (c_fx (by decide)) (mX6_set l hfl (a1 := (1 + (a2 &&& 1))) (a2 := r113) q114) rfl dL_change_299 rfl hl.1 (Nat.le_of_ble_eq_true rfl) ⟨Nat.le_of_ble_eq_true rfl, Nat.le_of_ble_eq_true rfl⟩ ⟨Nat.zero_le _, Nat.zero_le _⟩ (fun H locs hW => ?_)
    refine lv_iload hx hb dL_change_302 (lv_at hl 0 rfl) ?_
    refine lv_icmp_ne (tgt := 311) hx hb dL_change_304 (by decide) (fun c117 => ?_) (fun c117 => ?_)
    · have hf := br_n c117 hf
      refine lv_iconst (v := 0) hx hb dL_change_311 (by decide) ?_
      cases hf
      exact W.widen (Nat.zero_le 1) (Nat.zero_le 64) (ss_zretK hx hb hr hlk hW rfl rfl dL_change_312)
    · have hf := br_p c117 hf
      refine lv_iconst (v := 1) hx hb dL_change_307 (by decide) ?_
      refine lv_goto (tgt := 312) hx hb dL_change_308 (by decide) ?_
      cases hf
      exact W.widen (Nat.zero_le 1) (Nat.zero_le 64) (ss_zretK hx hb hr hlk hW rfl rfl dL_change_312)
  have hf := br_n c108 hf
  by_cases c118 : r8 = 7
  · have hf := br_p c118 hf
    refine lv_tableIn (tgt := 313) hx hb dL_change_22 (by rw [c118]; decide) (by rw [c118]; decide) (by rw [c118]; rfl) (by decide) ?_
    refine lv_iload hx hb dL_change_313 (lv_at hl 1 rfl) ?_
    refine lv_if_eq (tgt := 336) hx hb dL_change_315 (by decide) (fun c119 => ?_) (fun c119 => ?_)
    · have hf := br_p c119 hf
      refine lv_iconst (v := 1) hx hb dL_change_336 (by decide) ?_
      refine lv_goto (tgt := 341) hx hb dL_change_337 (by decide) ?_
      cases hf
      exact W.widen (Nat.zero_le 1) (Nat.zero_le 64) (ss_zretK hx hb hr hlk hW rfl rfl dL_change_341)
    · have hf := br_n c119 hf
      refine lv_aload_n hx hb dL_change_318 rfl (lv_at hl 3 rfl) ?_
      refine lv_iload_n hx hb dL_change_319 rfl (lv_at hl 5 rfl) ?_
      refine lv_iload hx hb dL_change_320 (lv_at hl 1 rfl) ?_
      obtain ⟨r121, q120, hf⟩ := bd_inv hf
      refine ss_callSi (As := [.int a2, .int r5]) hx hb hml hown hK hW kb_L_low kM_RL_15 (mL_low l (a0 := a2) (a1 := r5) q120) rfl dL_change_322 rfl hl.1 (Nat.le_of_ble_eq_true rfl) ⟨Nat.le_of_ble_eq_true rfl, Nat.le_of_ble_eq_true rfl⟩ ⟨Nat.zero_le _, Nat.zero_le _⟩ (fun H locs hW => ?_)
      obtain ⟨r123, s124, q122, hf⟩ := bo_inv hf
      refine ss_xcallVi (As := [.int r121]) hx hb hml hown hK hW kb_X6_lose kM_RL_40 rfl (okq_lt (by decide)) (c_fx (by decide)) (mX6_lose l hfl (a1 := r121) q122) rfl dL_change_325 rfl hl.1 (Nat.le_of_ble_eq_true rfl) ⟨Nat.le_of_ble_eq_true rfl, Nat.le_of_ble_eq_true rfl⟩ ⟨Nat.zero_le _, Nat.zero_le _⟩ (fun H locs hW => ?_)
      refine lv_aload_n hx hb dL_change_328 rfl (lv_at hl 3 rfl) ?_
      refine lv_iconst (v := 3) hx hb dL_change_329 (by decide) ?_
      obtain ⟨r126, s127, q125, hf⟩ := bo_inv hf
      refine ss_xcallVi (As := [.int 3]) hx hb hml hown hK hW kb_X6_count kM_RL_9 rfl (okq_lt (by decide)) (c_fx (by decide)) (mX6_count l hfl (a1 := 3) q125) rfl dL_change_330 rfl hl.1 (Nat.le_of_ble_eq_true rfl) ⟨Nat.le_of_ble_eq_true rfl, Nat.le_of_ble_eq_true rfl⟩ ⟨Nat.zero_le _, Nat.zero_le _⟩ (fun H locs hW => ?_)
      refine lv_icmp_ne (tgt := 340) hx hb dL_change_333 (by decide) (fun c128 => ?_) (fun c128 => ?_)
      · have hf := br_n c128 hf
        refine lv_iconst (v := 0) hx hb dL_change_340 (by decide) ?_
        cases hf
        exact W.widen (Nat.zero_le 1) (Nat.zero_le 64) (ss_zretK hx hb hr hlk hW rfl rfl dL_change_341)
      · have hf := br_p c128 hf
        refine lv_iconst (v := 1) hx hb dL_change_336 (by decide) ?_
        refine lv_goto (tgt := 341) hx hb dL_change_337 (by decide) ?_
        cases hf
        exact W.widen (Nat.zero_le 1) (Nat.zero_le 64) (ss_zretK hx hb hr hlk hW rfl rfl dL_change_341)
  have hf := br_n c118 hf
  by_cases c129 : r8 = 8
  · have hf := br_p c129 hf
    refine lv_tableIn (tgt := 342) hx hb dL_change_22 (by rw [c129]; decide) (by rw [c129]; decide) (by rw [c129]; rfl) (by decide) ?_
    refine lv_iload_n hx hb dL_change_342 rfl (lv_at hl 5 rfl) ?_
    refine lv_iload_n hx hb dL_change_343 rfl (lv_at hl 2 rfl) ?_
    obtain ⟨r131, q130, hf⟩ := bd_inv hf
    refine ss_callSi (As := [.int a2, .int r2]) hx hb hml hown hK hW kb_L_low kM_RL_15 (mL_low l (a0 := a2) (a1 := r2) q130) rfl dL_change_344 rfl hl.1 (Nat.le_of_ble_eq_true rfl) ⟨Nat.le_of_ble_eq_true rfl, Nat.le_of_ble_eq_true rfl⟩ ⟨Nat.zero_le _, Nat.zero_le _⟩ (fun H locs hW => ?_)
    refine lv_istore (lv' := [(6, .int r131), (5, .int 0), (4, .int r5), (3, .int r2), (0, .ref (eA E 0)), (1, .int a1), (2, .int a2)]) hx hb dL_change_347 hl (by decide) rfl (fun ls hl => ?_)
    refine lv_aload_n hx hb dL_change_349 rfl (lv_at hl 4 rfl) ?_
    refine lv_iload hx hb dL_change_350 (lv_at hl 0 rfl) ?_
    refine lv_iconst (v := 3) hx hb dL_change_352 (by decide) ?_
    obtain ⟨r133, s134, q132, hf⟩ := bo_inv hf
    refine ss_xcallVi (As := [.int r131, .int 3]) hx hb hml hown hK hW kb_X6_sampleOf kM_RL_24 rfl (okq_lt (by decide)) (c_fx (by decide)) (mX6_sampleOf l hfl (a1 := r131) (a2 := 3) q132) rfl dL_change_353 rfl hl.1 (Nat.le_of_ble_eq_true rfl) ⟨Nat.le_of_ble_eq_true rfl, Nat.le_of_ble_eq_true rfl⟩ ⟨Nat.zero_le _, Nat.zero_le _⟩ (fun H locs hW => ?_)
    refine lv_iconst (v := (-1)) hx hb dL_change_356 (by decide) ?_
    refine lv_icmp_eq (tgt := 377) hx hb dL_change_357 (by decide) (fun c135 => ?_) (fun c135 => ?_)
    · have hf := br_p c135 hf
      refine lv_iconst (v := 1) hx hb dL_change_377 (by decide) ?_
      refine lv_goto (tgt := 382) hx hb dL_change_378 (by decide) ?_
      cases hf
      exact W.widen (Nat.zero_le 1) (Nat.zero_le 64) (ss_zretK hx hb hr hlk hW rfl rfl dL_change_382)
    · have hf := br_n c135 hf
      refine lv_aload_n hx hb dL_change_360 rfl (lv_at hl 4 rfl) ?_
      refine lv_iload hx hb dL_change_361 (lv_at hl 0 rfl) ?_
      refine lv_iload_n hx hb dL_change_363 rfl (lv_at hl 6 rfl) ?_
      refine lv_bipush (v := 6) hx hb dL_change_364 (by decide) ?_
      refine lv_ishr hx hb dL_change_366 ?_
      refine lv_iconst (v := 4) hx hb dL_change_367 (by decide) ?_
      obtain ⟨r137, q136, hf⟩ := bd_inv hf
      refine ss_callSi (As := [.int (a2 >>> (6 &&& 31)), .int 4]) hx hb hml hown hK hW kb_L_low kM_RL_15 (mL_low l (a0 := (a2 >>> (6 &&& 31))) (a1 := 4) q136) rfl dL_change_368 rfl hl.1 (Nat.le_of_ble_eq_true rfl) ⟨Nat.le_of_ble_eq_true rfl, Nat.le_of_ble_eq_true rfl⟩ ⟨Nat.zero_le _, Nat.zero_le _⟩ (fun H locs hW => ?_)
      obtain ⟨r139, s140, q138, hf⟩ := bd2_inv hf
      refine ss_callSiK (As := [.ref (eA E 0), .int r131, .int r137]) hx hb hml hown hK hW kb_L_isSpoiled kM_RL_43 (mL_isSpoiled l hfl hX0 (a1 := r131) (a2 := r137) q138) rfl dL_change_371 rfl hl.1 (Nat.le_of_ble_eq_true rfl) ⟨Nat.le_of_ble_eq_true rfl, Nat.le_of_ble_eq_true rfl⟩ ⟨Nat.le_refl 1, Nat.le_refl 64⟩ (fun H locs hW => ?_)
      refine lv_if_eq (tgt := 381) hx hb dL_change_374 (by decide) (fun c141 => ?_) (fun c141 => ?_)
      · have hf := br_p c141 hf
        refine lv_iconst (v := 0) hx hb dL_change_381 (by decide) ?_
        cases hf
        exact ss_zretK hx hb hr hlk hW rfl rfl dL_change_382
      · have hf := br_n c141 hf
        refine lv_iconst (v := 1) hx hb dL_change_377 (by decide) ?_
        refine lv_goto (tgt := 382) hx hb dL_change_378 (by decide) ?_
        cases hf
        exact ss_zretK hx hb hr hlk hW rfl rfl dL_change_382
  have hf := br_n c129 hf
  by_cases c142 : r8 = 9
  · have hf := br_p c142 hf
    refine lv_tableIn (tgt := 383) hx hb dL_change_22 (by rw [c142]; decide) (by rw [c142]; decide) (by rw [c142]; rfl) (by decide) ?_
    refine lv_iload hx hb dL_change_383 (lv_at hl 1 rfl) ?_
    refine lv_if_eq (tgt := 409) hx hb dL_change_385 (by decide) (fun c143 => ?_) (fun c143 => ?_)
    · have hf := br_p c143 hf
      refine lv_iconst (v := 1) hx hb dL_change_409 (by decide) ?_
      refine lv_goto (tgt := 414) hx hb dL_change_410 (by decide) ?_
      cases hf
      exact W.widen (Nat.zero_le 1) (Nat.zero_le 64) (ss_zretK hx hb hr hlk hW rfl rfl dL_change_414)
    · have hf := br_n c143 hf
      refine lv_aload_n hx hb dL_change_388 rfl (lv_at hl 3 rfl) ?_
      refine lv_iload_n hx hb dL_change_389 rfl (lv_at hl 5 rfl) ?_
      refine lv_iload hx hb dL_change_390 (lv_at hl 1 rfl) ?_
      obtain ⟨r145, q144, hf⟩ := bd_inv hf
      refine ss_callSi (As := [.int a2, .int r5]) hx hb hml hown hK hW kb_L_low kM_RL_15 (mL_low l (a0 := a2) (a1 := r5) q144) rfl dL_change_392 rfl hl.1 (Nat.le_of_ble_eq_true rfl) ⟨Nat.le_of_ble_eq_true rfl, Nat.le_of_ble_eq_true rfl⟩ ⟨Nat.zero_le _, Nat.zero_le _⟩ (fun H locs hW => ?_)
      refine lv_iload_n hx hb dL_change_395 rfl (lv_at hl 5 rfl) ?_
      refine lv_iconst (v := 5) hx hb dL_change_396 (by decide) ?_
      refine lv_ishr hx hb dL_change_397 ?_
      refine lv_iload hx hb dL_change_398 (lv_at hl 1 rfl) ?_
      obtain ⟨r147, q146, hf⟩ := bd_inv hf
      refine ss_callSi (As := [.int (a2 >>> (5 &&& 31)), .int r5]) hx hb hml hown hK hW kb_L_low kM_RL_15 (mL_low l (a0 := (a2 >>> (5 &&& 31))) (a1 := r5) q146) rfl dL_change_400 rfl hl.1 (Nat.le_of_ble_eq_true rfl) ⟨Nat.le_of_ble_eq_true rfl, Nat.le_of_ble_eq_true rfl⟩ ⟨Nat.zero_le _, Nat.zero_le _⟩ (fun H locs hW => ?_)
      obtain ⟨r149, s150, q148, hf⟩ := bd2_inv hf
      refine ss_callSi (As := [.ref (eA E 0), .int r145, .int r147]) hx hb hml hown hK hW kb_L_loads kM_RL_47 (mL_loads l hfl (a1 := r145) (a2 := r147) q148) rfl dL_change_403 rfl hl.1 (Nat.le_of_ble_eq_true rfl) ⟨Nat.le_of_ble_eq_true rfl, Nat.le_of_ble_eq_true rfl⟩ ⟨Nat.zero_le _, Nat.zero_le _⟩ (fun H locs hW => ?_)
      refine lv_if_eq (tgt := 413) hx hb dL_change_406 (by decide) (fun c151 => ?_) (fun c151 => ?_)
      · have hf := br_p c151 hf
        refine lv_iconst (v := 0) hx hb dL_change_413 (by decide) ?_
        cases hf
        exact W.widen (Nat.zero_le 1) (Nat.zero_le 64) (ss_zretK hx hb hr hlk hW rfl rfl dL_change_414)
      · have hf := br_n c151 hf
        refine lv_iconst (v := 1) hx hb dL_change_409 (by decide) ?_
        refine lv_goto (tgt := 414) hx hb dL_change_410 (by decide) ?_
        cases hf
        exact W.widen (Nat.zero_le 1) (Nat.zero_le 64) (ss_zretK hx hb hr hlk hW rfl rfl dL_change_414)
  have hf := br_n c142 hf
  have zc9 := sw_ne (n := 0) c9 (by decide)
  have zc26 := sw_ne (n := 1) c26 (by decide)
  have zc44 := sw_ne (n := 2) c44 (by decide)
  have zc62 := sw_ne (n := 3) c62 (by decide)
  have zc78 := sw_ne (n := 4) c78 (by decide)
  have zc94 := sw_ne (n := 5) c94 (by decide)
  have zc108 := sw_ne (n := 6) c108 (by decide)
  have zc118 := sw_ne (n := 7) c118 (by decide)
  have zc129 := sw_ne (n := 8) c129 (by decide)
  have zc142 := sw_ne (n := 9) c142 (by decide)
  refine lv_tableOut (tgt := 415) hx hb dL_change_22 (by omega) (by decide) ?_
  refine lv_aload_n hx hb dL_change_415 rfl (lv_at hl 3 rfl) ?_
  refine lv_bipush (v := 9) hx hb dL_change_416 (by decide) ?_
  obtain ⟨r153, s154, q152, hf⟩ := bo_inv hf
  refine ss_xcallVi (As := [.int 9]) hx hb hml hown hK hW kb_X6_count kM_RL_9 rfl (okq_lt (by decide)) (c_fx (by decide)) (mX6_count l hfl (a1 := 9) q152) rfl dL_change_418 rfl hl.1 (Nat.le_of_ble_eq_true rfl) ⟨Nat.le_of_ble_eq_true rfl, Nat.le_of_ble_eq_true rfl⟩ ⟨Nat.zero_le _, Nat.zero_le _⟩ (fun H locs hW => ?_)
  refine lv_istore (lv' := [(5, .int r153), (4, .int r5), (3, .int r2), (0, .ref (eA E 0)), (1, .int a1), (2, .int a2)]) hx hb dL_change_421 hl (by decide) rfl (fun ls hl => ?_)
  refine lv_iload_n hx hb dL_change_423 rfl (lv_at hl 2 rfl) ?_
  refine lv_aload_n hx hb dL_change_424 rfl (lv_at hl 3 rfl) ?_
  refine lv_iconst (v := 0) hx hb dL_change_425 (by decide) ?_
  obtain ⟨r156, s157, q155, hf⟩ := bo_inv hf
  refine ss_xcallVi (As := [.int 0]) hx hb hml hown hK hW kb_X6_setting kM_RL_34 rfl (okq_lt (by decide)) (c_fx (by decide)) (mX6_setting l hfl (a1 := 0) q155) rfl dL_change_426 rfl hl.1 (Nat.le_of_ble_eq_true rfl) ⟨Nat.le_of_ble_eq_true rfl, Nat.le_of_ble_eq_true rfl⟩ ⟨Nat.zero_le _, Nat.zero_le _⟩ (fun H locs hW => ?_)
  refine lv_iadd hx hb dL_change_429 ?_
  refine lv_iconst (v := 1) hx hb dL_change_430 (by decide) ?_
  refine lv_isub hx hb dL_change_431 ?_
  refine lv_aload_n hx hb dL_change_432 rfl (lv_at hl 3 rfl) ?_
  refine lv_iconst (v := 0) hx hb dL_change_433 (by decide) ?_
  obtain ⟨r159, s160, q158, hf⟩ := bo_inv hf
  refine ss_xcallVi (As := [.int 0]) hx hb hml hown hK hW kb_X6_setting kM_RL_34 rfl (okq_lt (by decide)) (c_fx (by decide)) (mX6_setting l hfl (a1 := 0) q158) rfl dL_change_434 rfl hl.1 (Nat.le_of_ble_eq_true rfl) ⟨Nat.le_of_ble_eq_true rfl, Nat.le_of_ble_eq_true rfl⟩ ⟨Nat.zero_le _, Nat.zero_le _⟩ (fun H locs hW => ?_)
  obtain ⟨hz161, hf⟩ := gd_inv hf
  refine lv_idiv hx hb dL_change_437 hz161 ?_
  refine lv_topi (fun x4_162 ex4_162 => ?_)
  have hf := nm_use ex4_162 hf
  refine lv_istore (lv' := [(4, .int x4_162), (5, .int r153), (3, .int r2), (0, .ref (eA E 0)), (1, .int a1), (2, .int a2)]) hx hb dL_change_438 hl (by decide) rfl (fun ls hl => ?_)
  refine lv_aload_n hx hb dL_change_440 rfl (lv_at hl 3 rfl) ?_
  obtain ⟨r164, s165, q163, hf⟩ := bd2_inv hf
  refine ss_callVi (As := []) hx hb hml hown hK hW kb_X6_code kM_RL_50 rfl (okq_lt (by decide)) (c_fx (by decide)) (mX6_code l  q163) rfl dL_change_441 rfl hl.1 (Nat.le_of_ble_eq_true rfl) ⟨Nat.le_of_ble_eq_true rfl, Nat.le_of_ble_eq_true rfl⟩ ⟨Nat.zero_le _, Nat.zero_le _⟩ (fun H locs hW => ?_)
  refine lv_iload hx hb dL_change_444 (lv_at hl 0 rfl) ?_
  refine lv_icmp_ne (tgt := 481) hx hb dL_change_446 (by decide) (fun c166 => ?_) (fun c166 => ?_)
  · have hf := br_n c166 hf
    refine lv_iconst (v := 0) hx hb dL_change_481 (by decide) ?_
    cases hf
    exact W.widen (Nat.zero_le 1) (Nat.zero_le 64) (ss_zretK hx hb hr hlk hW rfl rfl dL_change_482)
  · have hf := br_p c166 hf
    refine lv_aload_n hx hb dL_change_449 rfl (lv_at hl 3 rfl) ?_
    refine lv_bipush (v := 9) hx hb dL_change_450 (by decide) ?_
    obtain ⟨r168, s169, q167, hf⟩ := bo_inv hf
    refine ss_xcallVi (As := [.int 9]) hx hb hml hown hK hW kb_X6_count kM_RL_9 rfl (okq_lt (by decide)) (c_fx (by decide)) (mX6_count l hfl (a1 := 9) q167) rfl dL_change_452 rfl hl.1 (Nat.le_of_ble_eq_true rfl) ⟨Nat.le_of_ble_eq_true rfl, Nat.le_of_ble_eq_true rfl⟩ ⟨Nat.zero_le _, Nat.zero_le _⟩ (fun H locs hW => ?_)
    refine lv_iload hx hb dL_change_455 (lv_at hl 1 rfl) ?_
    refine lv_iconst (v := 1) hx hb dL_change_457 (by decide) ?_
    refine lv_iadd hx hb dL_change_458 ?_
    refine lv_icmp_ne (tgt := 481) hx hb dL_change_459 (by decide) (fun c170 => ?_) (fun c170 => ?_)
    · have hf := br_n c170 hf
      refine lv_iconst (v := 0) hx hb dL_change_481 (by decide) ?_
      cases hf
      exact W.widen (Nat.zero_le 1) (Nat.zero_le 64) (ss_zretK hx hb hr hlk hW rfl rfl dL_change_482)
    · have hf := br_p c170 hf
      refine lv_aload_n hx hb dL_change_462 rfl (lv_at hl 3 rfl) ?_
      refine lv_iconst (v := 3) hx hb dL_change_463 (by decide) ?_
      obtain ⟨r172, s173, q171, hf⟩ := bo_inv hf
      refine ss_xcallVi (As := [.int 3]) hx hb hml hown hK hW kb_X6_count kM_RL_9 rfl (okq_lt (by decide)) (c_fx (by decide)) (mX6_count l hfl (a1 := 3) q171) rfl dL_change_464 rfl hl.1 (Nat.le_of_ble_eq_true rfl) ⟨Nat.le_of_ble_eq_true rfl, Nat.le_of_ble_eq_true rfl⟩ ⟨Nat.zero_le _, Nat.zero_le _⟩ (fun H locs hW => ?_)
      refine lv_if_ne (tgt := 481) hx hb dL_change_467 (by decide) (fun c174 => ?_) (fun c174 => ?_)
      · have hf := br_n c174 hf
        refine lv_iconst (v := 0) hx hb dL_change_481 (by decide) ?_
        cases hf
        exact W.widen (Nat.zero_le 1) (Nat.zero_le 64) (ss_zretK hx hb hr hlk hW rfl rfl dL_change_482)
      · have hf := br_p c174 hf
        refine lv_aload_n hx hb dL_change_470 rfl (lv_at hl 3 rfl) ?_
        obtain ⟨r176, s177, q175, hf⟩ := bd2_inv hf
        refine ss_callSi (As := [.ref (eA E 0)]) hx hb hml hown hK hW kb_L_isAsGuessed kM_RL_54 (mL_isAsGuessed l hfl  q175) rfl dL_change_471 rfl hl.1 (Nat.le_of_ble_eq_true rfl) ⟨Nat.le_of_ble_eq_true rfl, Nat.le_of_ble_eq_true rfl⟩ ⟨Nat.zero_le _, Nat.zero_le _⟩ (fun H locs hW => ?_)
        refine lv_if_eq (tgt := 481) hx hb dL_change_474 (by decide) (fun c178 => ?_) (fun c178 => ?_)
        · have hf := br_p c178 hf
          refine lv_iconst (v := 0) hx hb dL_change_481 (by decide) ?_
          cases hf
          exact W.widen (Nat.zero_le 1) (Nat.zero_le 64) (ss_zretK hx hb hr hlk hW rfl rfl dL_change_482)
        · have hf := br_n c178 hf
          refine lv_iconst (v := 1) hx hb dL_change_477 (by decide) ?_
          refine lv_goto (tgt := 482) hx hb dL_change_478 (by decide) ?_
          cases hf
          exact W.widen (Nat.zero_le 1) (Nat.zero_le 64) (ss_zretK hx hb hr hlk hW rfl rfl dL_change_482)
def fL_holds_b531  (x1 : Int32) (x3 : Int32) (x4 : Int32) (k0 : Int32) (k1 : Int32) (σ : Sg) : Option (Int32 × Sg) := if k1 = k0 then (bd2 (fX6_meanSquare σ) fun r3 s4 => if x3 = 0 then (if (Op.cmpValue (FP.dcmp r3 FP.dconst0) .l) = 0 then (some (1, s4)) else (some (0, s4))) else (gd ((FP.ddiv (FP.i2d x4) (FP.i2d x1)) &&& 0x7fffffffffffffff ≤ 0x7ff0000000000000) <| if (Op.cmpValue (FP.dcmp r3 (FP.ddiv (FP.i2d x4) (FP.i2d x1))) .l) = 0 then (some (1, s4)) else (some (0, s4)))) else (some (0, σ))
def fL_holds_b502  (x1 : Int32) (x2 : Int32) (x3 : Int32) (x4 : Int32) (k0 : Int32) (σ : Sg) : Option (Int32 × Sg) := if k0 = 0 then (some (0, σ)) else (bo (fX6_count 8 σ) fun r11 s12 => if x3 = 0 then (fL_holds_b531 x1 x3 x4 0 r11 s12) else (fL_holds_b531 x1 x3 x4 ((14 * x2) + (4 * x1)) r11 s12))
def fL_holds_b501  (x1 : Int32) (x2 : Int32) (x3 : Int32) (x4 : Int32) (σ : Sg) : Option (Int32 × Sg) := fL_holds_b502 x1 x2 x3 x4 0 σ
def fL_holds_b443  (x1 : Int32) (x2 : Int32) (x3 : Int32) (x4 : Int32) (x5 : Int32) (x6 : Int32) (x7 : Int32) (x8 : Int32) (σ : Sg) : Option (Int32 × Sg) := if x8 = 0 then (fL_holds_b501 x1 x2 x3 x4 σ) else (bo (fX6_count 4 σ) fun r16 s17 => if r16 = x4 then (bo (fX6_count 5 s17) fun r20 s21 => if r20 = x5 then (if x5 = x4 then (bo (fX6_count 6 s21) fun r25 s26 => if r25 = x6 then (bo (fX6_count 7 s26) fun r29 s30 => if r29 = x7 then (fL_holds_b502 x1 x2 x3 x4 1 s30) else (fL_holds_b501 x1 x2 x3 x4 s30)) else (fL_holds_b501 x1 x2 x3 x4 s26)) else (fL_holds_b501 x1 x2 x3 x4 s21)) else (fL_holds_b501 x1 x2 x3 x4 s21)) else (fL_holds_b501 x1 x2 x3 x4 s17))
def fL_holds_L340  (n : Nat) (x1 : Int32) (x2 : Int32) (x3 : Int32) (x4 : Int32) (x5 : Int32) (x6 : Int32) (x7 : Int32) (x8 : Int32) (x9 : Int32) (σ : Sg) : Option (Int32 × Sg) := match n with
  | 0 => none
  | n + 1 => if x2 ≤ x9 then (fL_holds_b443 x1 x2 x3 x4 x5 x6 x7 x8 σ) else (if x8 = 0 then (fL_holds_b443 x1 x2 x3 x4 x5 x6 x7 x8 σ) else (bo (fX6_blockOf x9 4 σ) fun r35 s36 => nm (x5 + r35) fun x5_37 => bo (fX6_setting 0 s36) fun r39 s40 => bo (fX6_blockOf x9 0 s40) fun r42 s43 => nm (((x9 * r39) + r42) - 1) fun x10_44 => bo (fX6_blockOf x9 3 s43) fun r46 s47 => if r46 = 1 then (bo (fX6_sampleOf x10_44 4 s47) fun r59 s60 => if r59 = (-1) then (nm (x9 + 1) fun x9_63 => (fun x1 x2 x3 x4 x5 x6 x7 x8 x9 σ => fL_holds_L340 n x1 x2 x3 x4 x5 x6 x7 x8 x9 σ) x1 x2 x3 x4 x5_37 x6 x7 1 x9_63 s60) else (nm (x9 + 1) fun x9_62 => (fun x1 x2 x3 x4 x5 x6 x7 x8 x9 σ => fL_holds_L340 n x1 x2 x3 x4 x5 x6 x7 x8 x9 σ) x1 x2 x3 x4 x5_37 x6 x7 0 x9_62 s60)) else (bo (fX6_sampleOf x10_44 4 s47) fun r50 s51 => bo (fX6_blockOf x9 5 s51) fun r53 s54 => if r50 = r53 then (nm (x9 + 1) fun x9_57 => (fun x1 x2 x3 x4 x5 x6 x7 x8 x9 σ => fL_holds_L340 n x1 x2 x3 x4 x5 x6 x7 x8 x9 σ) x1 x2 x3 x4 x5_37 x6 x7 1 x9_57 s54) else (nm (x9 + 1) fun x9_56 => (fun x1 x2 x3 x4 x5 x6 x7 x8 x9 σ => fL_holds_L340 n x1 x2 x3 x4 x5 x6 x7 x8 x9 σ) x1 x2 x3 x4 x5_37 x6 x7 0 x9_56 s54))))
def fL_holds_b280 (k92 : Int32 → Int32 → Int32 → Int32 → Int32 → Int32 → Int32 → Int32 → Int32 → Sg → Option (Int32 × Sg)) (x1 : Int32) (x2 : Int32) (x3 : Int32) (x4 : Int32) (x5 : Int32) (x7 : Int32) (x8 : Int32) (x9 : Int32) (x12 : Int32) (k0 : Int32) (σ : Sg) : Option (Int32 × Sg) := if x12 = 0 then (nm (x7 + 1) fun x7_67 => nm (x9 + 1) fun x9_68 => k92 x1 x2 x3 x4 x5 k0 x7_67 x8 x9_68 σ) else (nm (x7 + 0) fun x7_65 => nm (x9 + 1) fun x9_66 => k92 x1 x2 x3 x4 x5 k0 x7_65 x8 x9_66 σ)
def fL_holds_b240 (k92 : Int32 → Int32 → Int32 → Int32 → Int32 → Int32 → Int32 → Int32 → Int32 → Sg → Option (Int32 × Sg)) (x1 : Int32) (x2 : Int32) (x3 : Int32) (x4 : Int32) (x5 : Int32) (x6 : Int32) (x7 : Int32) (x9 : Int32) (x12 : Int32) (k0 : Int32) (σ : Sg) : Option (Int32 × Sg) := nm (x4 + (x12 * x12)) fun x4_69 => if x12 ≤ x6 then (if (-x12) ≤ x6 then (fL_holds_b280 k92 x1 x2 x3 x4_69 x5 x7 k0 x9 x12 x6 σ) else (fL_holds_b280 k92 x1 x2 x3 x4_69 x5 x7 k0 x9 x12 (-x12) σ)) else (fL_holds_b280 k92 x1 x2 x3 x4_69 x5 x7 k0 x9 x12 x12 σ)
def fL_holds_b239 (k92 : Int32 → Int32 → Int32 → Int32 → Int32 → Int32 → Int32 → Int32 → Int32 → Sg → Option (Int32 × Sg)) (x1 : Int32) (x2 : Int32) (x3 : Int32) (x4 : Int32) (x5 : Int32) (x6 : Int32) (x7 : Int32) (x9 : Int32) (x12 : Int32) (σ : Sg) : Option (Int32 × Sg) := fL_holds_b240 k92 x1 x2 x3 x4 x5 x6 x7 x9 x12 0 σ
def fL_holds_b232 (k92 : Int32 → Int32 → Int32 → Int32 → Int32 → Int32 → Int32 → Int32 → Int32 → Sg → Option (Int32 × Sg)) (x1 : Int32) (x2 : Int32) (x3 : Int32) (x4 : Int32) (x5 : Int32) (x6 : Int32) (x7 : Int32) (x9 : Int32) (x12 : Int32) (k0 : Int32) (k1 : Int32) (σ : Sg) : Option (Int32 × Sg) := if k1 = k0 then (fL_holds_b240 k92 x1 x2 x3 x4 x5 x6 x7 x9 x12 1 σ) else (fL_holds_b239 k92 x1 x2 x3 x4 x5 x6 x7 x9 x12 σ)
def fL_holds_b216 (k92 : Int32 → Int32 → Int32 → Int32 → Int32 → Int32 → Int32 → Int32 → Int32 → Sg → Option (Int32 × Sg)) (x1 : Int32) (x2 : Int32) (x3 : Int32) (x4 : Int32) (x5 : Int32) (x6 : Int32) (x7 : Int32) (x9 : Int32) (x12 : Int32) (k0 : Int32) (σ : Sg) : Option (Int32 × Sg) := bo (fX6_setting 0 σ) fun r74 s75 => gd (¬ r74 = 0) <| if (x9 - x9 / r74 * r74) = 0 then (fL_holds_b232 k92 x1 x2 x3 x4 x5 x6 x7 x9 x12 1 k0 s75) else (fL_holds_b232 k92 x1 x2 x3 x4 x5 x6 x7 x9 x12 0 k0 s75)
def fL_holds_b150 (k92 : Int32 → Int32 → Int32 → Int32 → Int32 → Int32 → Int32 → Int32 → Int32 → Sg → Option (Int32 × Sg)) (x1 : Int32) (x2 : Int32) (x3 : Int32) (x4 : Int32) (x5 : Int32) (x6 : Int32) (x7 : Int32) (x9 : Int32) (x10 : Int32) (x11 : Int32) (k0 : Int32) (σ : Sg) : Option (Int32 × Sg) := if x3 = 0 then (if k0 = 0 then (nm (x9 + 1) fun x9_80 => k92 x1 x2 x3 x4 x5 x6 x7 0 x9_80 σ) else (if x11 = (-10001) then (bo (fX6_sampleOf x9 4 σ) fun r84 s85 => if r84 = (-1) then (nm (x9 + 1) fun x9_88 => k92 x1 x2 x3 x4 x5 x6 x7 1 x9_88 s85) else (nm (x9 + 1) fun x9_87 => k92 x1 x2 x3 x4 x5 x6 x7 0 x9_87 s85)) else (nm (x9 + 1) fun x9_82 => k92 x1 x2 x3 x4 x5 x6 x7 0 x9_82 σ))) else (nm (x10 - x11) fun x12_89 => if k0 = 0 then (fL_holds_b239 k92 x1 x2 x3 x4 x5 x6 x7 x9 x12_89 σ) else (if x11 < (-2048) then (fL_holds_b239 k92 x1 x2 x3 x4 x5 x6 x7 x9 x12_89 σ) else (if 2047 < x11 then (fL_holds_b239 k92 x1 x2 x3 x4 x5 x6 x7 x9 x12_89 σ) else (bo (fX6_sampleOf x9 5 σ) fun r94 s95 => if r94 = (x12_89 + 10000) then (bo (fX6_sampleOf x9 3 s95) fun r98 s99 => if r98 = (-1) then (fL_holds_b216 k92 x1 x2 x3 x4 x5 x6 x7 x9 x12_89 1 s99) else (fL_holds_b216 k92 x1 x2 x3 x4 x5 x6 x7 x9 x12_89 0 s99)) else (fL_holds_b239 k92 x1 x2 x3 x4 x5 x6 x7 x9 x12_89 s95)))))
def fL_holds_b149 (k92 : Int32 → Int32 → Int32 → Int32 → Int32 → Int32 → Int32 → Int32 → Int32 → Sg → Option (Int32 × Sg)) (x1 : Int32) (x2 : Int32) (x3 : Int32) (x4 : Int32) (x5 : Int32) (x6 : Int32) (x7 : Int32) (x9 : Int32) (x10 : Int32) (x11 : Int32) (σ : Sg) : Option (Int32 × Sg) := fL_holds_b150 k92 x1 x2 x3 x4 x5 x6 x7 x9 x10 x11 0 σ
def fL_holds_L92  (n : Nat) (x1 : Int32) (x2 : Int32) (x3 : Int32) (x4 : Int32) (x5 : Int32) (x6 : Int32) (x7 : Int32) (x8 : Int32) (x9 : Int32) (σ : Sg) : Option (Int32 × Sg) := match n with
  | 0 => none
  | n + 1 => if x1 ≤ x9 then (fL_holds_L340 80 x1 x2 x3 x4 x5 x6 x7 x8 0 σ) else (if x8 = 0 then (fL_holds_L340 80 x1 x2 x3 x4 x5 x6 x7 x8 0 σ) else (bo (fX6_sampleOf x9 0 σ) fun r104 s105 => nm (r104 - 10000) fun x10_106 => bo (fX6_sampleOf x9 1 s105) fun r108 s109 => nm (r108 - 10000) fun x11_110 => if x10_106 < (-2048) then (fL_holds_b149 (fun x1 x2 x3 x4 x5 x6 x7 x8 x9 σ => fL_holds_L92 n x1 x2 x3 x4 x5 x6 x7 x8 x9 σ) x1 x2 x3 x4 x5 x6 x7 x9 x10_106 x11_110 s109) else (if 2047 < x10_106 then (fL_holds_b149 (fun x1 x2 x3 x4 x5 x6 x7 x8 x9 σ => fL_holds_L92 n x1 x2 x3 x4 x5 x6 x7 x8 x9 σ) x1 x2 x3 x4 x5 x6 x7 x9 x10_106 x11_110 s109) else (fL_holds_b150 (fun x1 x2 x3 x4 x5 x6 x7 x8 x9 σ => fL_holds_L92 n x1 x2 x3 x4 x5 x6 x7 x8 x9 σ) x1 x2 x3 x4 x5 x6 x7 x9 x10_106 x11_110 1 s109))))
def fL_holds_b26  (x1 : Int32) (x2 : Int32) (k0 : Int32) (σ : Sg) : Option (Int32 × Sg) := if k0 = 0 then (if x2 = 0 then (bo (fX6_count 3 σ) fun r116 s117 => if r116 = 0 then (fL_holds_L92 80 x1 x2 k0 0 0 0 0 1 0 s117) else (fL_holds_L92 80 x1 x2 k0 0 0 0 0 0 0 s117)) else (fL_holds_L92 80 x1 x2 k0 0 0 0 0 0 0 σ)) else (bo (fX6_setting 0 σ) fun r120 s121 => bo (fX6_setting 0 s121) fun r123 s124 => gd (¬ r123 = 0) <| if x2 = (((x1 + r120) - 1) / r123) then (fL_holds_L92 80 x1 x2 k0 0 0 0 0 1 0 s124) else (fL_holds_L92 80 x1 x2 k0 0 0 0 0 0 0 s124))
def fL_holds (σ : Sg) : Option (Int32 × Sg) := bo (fX6_count 0 σ) fun r128 s129 => bo (fX6_count 2 s129) fun r131 s132 => bo (fX6_count 1 s132) fun r134 s135 => if r134 = 1 then (fL_holds_b26 r128 r131 1 s135) else (fL_holds_b26 r128 r131 0 s135)
set_option maxHeartbeats 4000000 in
set_option maxRecDepth 100000 in
theorem mL_holds (l : Launch) (hfl : l.stackTraces = false) {E : En} {σ μ : Sg} {dg : Int64}   {r : Int32} {σ' : Sg} (hf : fL_holds σ = some (r, σ')) : Met l yL_holds [.code yL_holds cL_holds 13 (some .boolean)] (Rm 8 153) (va_Pc [.ref (eA E 0)] (Wd E σ μ dg)) (Qi E σ' μ dg r) 0 0 (eP E) := by
  refine ss_of (by decide) (Nat.le_of_ble_eq_true rfl) (fun p e s m below meth c hx hb hr hlk hml hown hK hW ls hl => ?_)
  have hown : s.vm.findClass RL = some m.cls := hown
  have hl : lv_has ls 13 [(0, .ref (eA E 0))] := hl
  unfold fL_holds at hf
  have h531 : ∀ (x1 : Int32) (x3 : Int32) (x4 : Int32) (k0 : Int32) (k1 : Int32) (σ : Sg) (H : Heap) (locs : List Loc) (ls : Array Slot), Wk E σ μ dg s H locs → lv_has ls 13 [(0, .ref (eA E 0)), (1, .int x1), (3, .int x3), (4, .int x4)] → fL_holds_b531 x1 x3 x4 k0 k1 σ = some (r, σ') → W p l e (Rm 8 153) s m [.ref (eA E 0)].toArray below meth c H locs 0 0 (MQ below (Qi E σ' μ dg r) [.ref (eA E 0)].toArray s 0 0 (eP E)) (F0 m 531 ls [.int k0, .int k1]) := by
    intro x1 x3 x4 k0 k1 σ  H locs ls hW hl hf
    unfold fL_holds_b531 at hf
    refine lv_icmp_ne (tgt := 560) hx hb dL_holds_531 (by decide) (fun c1 => ?_) (fun c1 => ?_)
    · have hf := br_n c1 hf
      refine lv_iconst (v := 0) hx hb dL_holds_560 (by decide) ?_
      cases hf
      exact ss_zret hx hb hr hlk hW rfl rfl dL_holds_561
    · have hf := br_p c1 hf
      refine lv_aload_n hx hb dL_holds_534 rfl (lv_at hl 0 rfl) ?_
      obtain ⟨r3, s4, q2, hf⟩ := bd2_inv hf
      refine ss_callVd (As := []) hx hb hml hown hK hW kb_X6_meanSquare kM_RL_85 rfl (okq_lt (by decide)) (c_fx (by decide)) (mX6_meanSquare l  q2) rfl dL_holds_535 rfl hl.1 (Nat.le_of_ble_eq_true rfl) ⟨Nat.le_of_ble_eq_true rfl, Nat.le_of_ble_eq_true rfl⟩ ⟨Nat.zero_le _, Nat.zero_le _⟩ (fun H locs hW => ?_)
      refine lv_iload_n hx hb dL_holds_538 rfl (lv_at hl 2 rfl) ?_
      refine lv_if_eq (tgt := 551) hx hb dL_holds_539 (by decide) (fun c5 => ?_) (fun c5 => ?_)
      · have hf := br_p c5 hf
        refine lv_dconst0 hx hb dL_holds_551 ?_
        refine lv_dcmp hx hb dL_holds_552 ?_
        refine lv_if_ne (tgt := 560) hx hb dL_holds_553 (by decide) (fun c6 => ?_) (fun c6 => ?_)
        · have hf := br_n c6 hf
          refine lv_iconst (v := 0) hx hb dL_holds_560 (by decide) ?_
          cases hf
          exact ss_zret hx hb hr hlk hW rfl rfl dL_holds_561
        · have hf := br_p c6 hf
          refine lv_iconst (v := 1) hx hb dL_holds_556 (by decide) ?_
          refine lv_goto (tgt := 561) hx hb dL_holds_557 (by decide) ?_
          cases hf
          exact ss_zret hx hb hr hlk hW rfl rfl dL_holds_561
      · have hf := br_n c5 hf
        refine lv_iload hx hb dL_holds_542 (lv_at hl 3 rfl) ?_
        refine lv_i2d hx hb dL_holds_544 ?_
        refine lv_iload_n hx hb dL_holds_545 rfl (lv_at hl 1 rfl) ?_
        refine lv_i2d hx hb dL_holds_546 ?_
        obtain ⟨hn7, hf⟩ := gd_inv hf
        refine lv_ddiv hx hb dL_holds_547 hn7 ?_
        refine lv_goto (tgt := 552) hx hb dL_holds_548 (by decide) ?_
        refine lv_dcmp hx hb dL_holds_552 ?_
        refine lv_if_ne (tgt := 560) hx hb dL_holds_553 (by decide) (fun c8 => ?_) (fun c8 => ?_)
        · have hf := br_n c8 hf
          refine lv_iconst (v := 0) hx hb dL_holds_560 (by decide) ?_
          cases hf
          exact ss_zret hx hb hr hlk hW rfl rfl dL_holds_561
        · have hf := br_p c8 hf
          refine lv_iconst (v := 1) hx hb dL_holds_556 (by decide) ?_
          refine lv_goto (tgt := 561) hx hb dL_holds_557 (by decide) ?_
          cases hf
          exact ss_zret hx hb hr hlk hW rfl rfl dL_holds_561
  have h502 : ∀ (x1 : Int32) (x2 : Int32) (x3 : Int32) (x4 : Int32) (k0 : Int32) (σ : Sg) (H : Heap) (locs : List Loc) (ls : Array Slot), Wk E σ μ dg s H locs → lv_has ls 13 [(0, .ref (eA E 0)), (1, .int x1), (2, .int x2), (3, .int x3), (4, .int x4)] → fL_holds_b502 x1 x2 x3 x4 k0 σ = some (r, σ') → W p l e (Rm 8 153) s m [.ref (eA E 0)].toArray below meth c H locs 0 0 (MQ below (Qi E σ' μ dg r) [.ref (eA E 0)].toArray s 0 0 (eP E)) (F0 m 502 ls [.int k0]) := by
    intro x1 x2 x3 x4 k0 σ  H locs ls hW hl hf
    unfold fL_holds_b502 at hf
    refine lv_istore (lv' := [(8, .int k0), (0, .ref (eA E 0)), (1, .int x1), (2, .int x2), (3, .int x3), (4, .int x4)]) hx hb dL_holds_502 hl (by decide) rfl (fun ls hl => ?_)
    refine lv_iload hx hb dL_holds_504 (lv_at hl 0 rfl) ?_
    refine lv_if_eq (tgt := 560) hx hb dL_holds_506 (by decide) (fun c9 => ?_) (fun c9 => ?_)
    · have hf := br_p c9 hf
      refine lv_iconst (v := 0) hx hb dL_holds_560 (by decide) ?_
      cases hf
      exact ss_zret hx hb hr hlk hW rfl rfl dL_holds_561
    · have hf := br_n c9 hf
      refine lv_aload_n hx hb dL_holds_509 rfl (lv_at hl 1 rfl) ?_
      refine lv_bipush (v := 8) hx hb dL_holds_510 (by decide) ?_
      obtain ⟨r11, s12, q10, hf⟩ := bo_inv hf
      refine ss_xcallVi (As := [.int 8]) hx hb hml hown hK hW kb_X6_count kM_RL_9 rfl (okq_lt (by decide)) (c_fx (by decide)) (mX6_count l hfl (a1 := 8) q10) rfl dL_holds_512 rfl hl.1 (Nat.le_of_ble_eq_true rfl) ⟨Nat.le_of_ble_eq_true rfl, Nat.le_of_ble_eq_true rfl⟩ ⟨Nat.zero_le _, Nat.zero_le _⟩ (fun H locs hW => ?_)
      refine lv_iload_n hx hb dL_holds_515 rfl (lv_at hl 4 rfl) ?_
      refine lv_if_eq (tgt := 530) hx hb dL_holds_516 (by decide) (fun c13 => ?_) (fun c13 => ?_)
      · have hf := br_p c13 hf
        refine lv_iconst (v := 0) hx hb dL_holds_530 (by decide) ?_
        exact h531 x1 x3 x4 0 r11 s12 _ _ _ hW (lv_sub hl [1, 2, 4, 5] rfl) hf
      · have hf := br_n c13 hf
        refine lv_bipush (v := 14) hx hb dL_holds_519 (by decide) ?_
        refine lv_iload_n hx hb dL_holds_521 rfl (lv_at hl 3 rfl) ?_
        refine lv_imul hx hb dL_holds_522 ?_
        refine lv_iconst (v := 4) hx hb dL_holds_523 (by decide) ?_
        refine lv_iload_n hx hb dL_holds_524 rfl (lv_at hl 2 rfl) ?_
        refine lv_imul hx hb dL_holds_525 ?_
        refine lv_iadd hx hb dL_holds_526 ?_
        refine lv_goto (tgt := 531) hx hb dL_holds_527 (by decide) ?_
        exact h531 x1 x3 x4 ((14 * x2) + (4 * x1)) r11 s12 _ _ _ hW (lv_sub hl [1, 2, 4, 5] rfl) hf
  have h501 : ∀ (x1 : Int32) (x2 : Int32) (x3 : Int32) (x4 : Int32) (σ : Sg) (H : Heap) (locs : List Loc) (ls : Array Slot), Wk E σ μ dg s H locs → lv_has ls 13 [(0, .ref (eA E 0)), (1, .int x1), (2, .int x2), (3, .int x3), (4, .int x4)] → fL_holds_b501 x1 x2 x3 x4 σ = some (r, σ') → W p l e (Rm 8 153) s m [.ref (eA E 0)].toArray below meth c H locs 0 0 (MQ below (Qi E σ' μ dg r) [.ref (eA E 0)].toArray s 0 0 (eP E)) (F0 m 501 ls []) := by
    intro x1 x2 x3 x4 σ  H locs ls hW hl hf
    unfold fL_holds_b501 at hf
    refine lv_iconst (v := 0) hx hb dL_holds_501 (by decide) ?_
    exact h502 x1 x2 x3 x4 0 σ _ _ _ hW (lv_sub hl [0, 1, 2, 3, 4] rfl) hf
  have h443 : ∀ (x1 : Int32) (x2 : Int32) (x3 : Int32) (x4 : Int32) (x5 : Int32) (x6 : Int32) (x7 : Int32) (x8 : Int32) (σ : Sg) (H : Heap) (locs : List Loc) (ls : Array Slot), Wk E σ μ dg s H locs → lv_has ls 13 [(0, .ref (eA E 0)), (1, .int x1), (2, .int x2), (3, .int x3), (4, .int x4), (5, .int x5), (6, .int x6), (7, .int x7), (8, .int x8)] → fL_holds_b443 x1 x2 x3 x4 x5 x6 x7 x8 σ = some (r, σ') → W p l e (Rm 8 153) s m [.ref (eA E 0)].toArray below meth c H locs 0 0 (MQ below (Qi E σ' μ dg r) [.ref (eA E 0)].toArray s 0 0 (eP E)) (F0 m 443 ls []) := by
    intro x1 x2 x3 x4 x5 x6 x7 x8 σ  H locs ls hW hl hf
    unfold fL_holds_b443 at hf
    refine lv_iload hx hb dL_holds_443 (lv_at hl 8 rfl) ?_
    refine lv_if_eq (tgt := 501) hx hb dL_holds_445 (by decide) (fun c14 => ?_) (fun c14 => ?_)
    · have hf := br_p c14 hf
      exact h501 x1 x2 x3 x4 σ _ _ _ hW (lv_sub hl [0, 1, 2, 3, 4] rfl) hf
    · have hf := br_n c14 hf
      refine lv_aload_n hx hb dL_holds_448 rfl (lv_at hl 0 rfl) ?_
      refine lv_iconst (v := 4) hx hb dL_holds_449 (by decide) ?_
      obtain ⟨r16, s17, q15, hf⟩ := bo_inv hf
      refine ss_xcallVi (As := [.int 4]) hx hb hml hown hK hW kb_X6_count kM_RL_9 rfl (okq_lt (by decide)) (c_fx (by decide)) (mX6_count l hfl (a1 := 4) q15) rfl dL_holds_450 rfl hl.1 (Nat.le_of_ble_eq_true rfl) ⟨Nat.le_of_ble_eq_true rfl, Nat.le_of_ble_eq_true rfl⟩ ⟨Nat.zero_le _, Nat.zero_le _⟩ (fun H locs hW => ?_)
      refine lv_iload hx hb dL_holds_453 (lv_at hl 4 rfl) ?_
      refine lv_icmp_ne (tgt := 501) hx hb dL_holds_455 (by decide) (fun c18 => ?_) (fun c18 => ?_)
      · have hf := br_n c18 hf
        exact h501 x1 x2 x3 x4 s17 _ _ _ hW (lv_sub hl [0, 1, 2, 3, 4] rfl) hf
      · have hf := br_p c18 hf
        refine lv_aload_n hx hb dL_holds_458 rfl (lv_at hl 0 rfl) ?_
        refine lv_iconst (v := 5) hx hb dL_holds_459 (by decide) ?_
        obtain ⟨r20, s21, q19, hf⟩ := bo_inv hf
        refine ss_xcallVi (As := [.int 5]) hx hb hml hown hK hW kb_X6_count kM_RL_9 rfl (okq_lt (by decide)) (c_fx (by decide)) (mX6_count l hfl (a1 := 5) q19) rfl dL_holds_460 rfl hl.1 (Nat.le_of_ble_eq_true rfl) ⟨Nat.le_of_ble_eq_true rfl, Nat.le_of_ble_eq_true rfl⟩ ⟨Nat.zero_le _, Nat.zero_le _⟩ (fun H locs hW => ?_)
        refine lv_iload hx hb dL_holds_463 (lv_at hl 5 rfl) ?_
        refine lv_icmp_ne (tgt := 501) hx hb dL_holds_465 (by decide) (fun c22 => ?_) (fun c22 => ?_)
        · have hf := br_n c22 hf
          exact h501 x1 x2 x3 x4 s21 _ _ _ hW (lv_sub hl [0, 1, 2, 3, 4] rfl) hf
        · have hf := br_p c22 hf
          refine lv_iload hx hb dL_holds_468 (lv_at hl 5 rfl) ?_
          refine lv_iload hx hb dL_holds_470 (lv_at hl 4 rfl) ?_
          refine lv_icmp_ne (tgt := 501) hx hb dL_holds_472 (by decide) (fun c23 => ?_) (fun c23 => ?_)
          · have hf := br_n c23 hf
            exact h501 x1 x2 x3 x4 s21 _ _ _ hW (lv_sub hl [0, 1, 2, 3, 4] rfl) hf
          · have hf := br_p c23 hf
            refine lv_aload_n hx hb dL_holds_475 rfl (lv_at hl 0 rfl) ?_
            refine lv_bipush (v := 6) hx hb dL_holds_476 (by decide) ?_
            obtain ⟨r25, s26, q24, hf⟩ := bo_inv hf
            refine ss_xcallVi (As := [.int 6]) hx hb hml hown hK hW kb_X6_count kM_RL_9 rfl (okq_lt (by decide)) (c_fx (by decide)) (mX6_count l hfl (a1 := 6) q24) rfl dL_holds_478 rfl hl.1 (Nat.le_of_ble_eq_true rfl) ⟨Nat.le_of_ble_eq_true rfl, Nat.le_of_ble_eq_true rfl⟩ ⟨Nat.zero_le _, Nat.zero_le _⟩ (fun H locs hW => ?_)
            refine lv_iload hx hb dL_holds_481 (lv_at hl 6 rfl) ?_
            refine lv_icmp_ne (tgt := 501) hx hb dL_holds_483 (by decide) (fun c27 => ?_) (fun c27 => ?_)
            · have hf := br_n c27 hf
              exact h501 x1 x2 x3 x4 s26 _ _ _ hW (lv_sub hl [0, 1, 2, 3, 4] rfl) hf
            · have hf := br_p c27 hf
              refine lv_aload_n hx hb dL_holds_486 rfl (lv_at hl 0 rfl) ?_
              refine lv_bipush (v := 7) hx hb dL_holds_487 (by decide) ?_
              obtain ⟨r29, s30, q28, hf⟩ := bo_inv hf
              refine ss_xcallVi (As := [.int 7]) hx hb hml hown hK hW kb_X6_count kM_RL_9 rfl (okq_lt (by decide)) (c_fx (by decide)) (mX6_count l hfl (a1 := 7) q28) rfl dL_holds_489 rfl hl.1 (Nat.le_of_ble_eq_true rfl) ⟨Nat.le_of_ble_eq_true rfl, Nat.le_of_ble_eq_true rfl⟩ ⟨Nat.zero_le _, Nat.zero_le _⟩ (fun H locs hW => ?_)
              refine lv_iload hx hb dL_holds_492 (lv_at hl 7 rfl) ?_
              refine lv_icmp_ne (tgt := 501) hx hb dL_holds_494 (by decide) (fun c31 => ?_) (fun c31 => ?_)
              · have hf := br_n c31 hf
                exact h501 x1 x2 x3 x4 s30 _ _ _ hW (lv_sub hl [0, 1, 2, 3, 4] rfl) hf
              · have hf := br_p c31 hf
                refine lv_iconst (v := 1) hx hb dL_holds_497 (by decide) ?_
                refine lv_goto (tgt := 502) hx hb dL_holds_498 (by decide) ?_
                exact h502 x1 x2 x3 x4 1 s30 _ _ _ hW (lv_sub hl [0, 1, 2, 3, 4] rfl) hf
  have h340 : ∀ (n340 : Nat) (x1 : Int32) (x2 : Int32) (x3 : Int32) (x4 : Int32) (x5 : Int32) (x6 : Int32) (x7 : Int32) (x8 : Int32) (x9 : Int32) (σ : Sg) (H : Heap) (locs : List Loc) (ls : Array Slot), Wk E σ μ dg s H locs → lv_has ls 13 [(0, .ref (eA E 0)), (1, .int x1), (2, .int x2), (3, .int x3), (4, .int x4), (5, .int x5), (6, .int x6), (7, .int x7), (8, .int x8), (9, .int x9)] → fL_holds_L340 n340 x1 x2 x3 x4 x5 x6 x7 x8 x9 σ = some (r, σ') → W p l e (Rm 8 153) s m [.ref (eA E 0)].toArray below meth c H locs 0 0 (MQ below (Qi E σ' μ dg r) [.ref (eA E 0)].toArray s 0 0 (eP E)) (F0 m 340 ls []) := by
    intro n340
    induction n340 with
    | zero =>
      intro x1 x2 x3 x4 x5 x6 x7 x8 x9 σ  H locs ls hW hl hf
      exact absurd hf (by simp [fL_holds_L340])
    | succ n340 ih340 =>
      intro x1 x2 x3 x4 x5 x6 x7 x8 x9 σ  H locs ls hW hl hf
      rw [fL_holds_L340] at hf
      refine lv_iload hx hb dL_holds_340 (lv_at hl 9 rfl) ?_
      refine lv_iload_n hx hb dL_holds_342 rfl (lv_at hl 2 rfl) ?_
      refine lv_icmp_ge (tgt := 443) hx hb dL_holds_343 (by decide) (fun c32 => ?_) (fun c32 => ?_)
      · have hf := br_p c32 hf
        exact h443 x1 x2 x3 x4 x5 x6 x7 x8 σ _ _ _ hW (lv_sub hl [0, 1, 2, 3, 4, 5, 6, 7, 8] rfl) hf
      · have hf := br_n c32 hf
        refine lv_iload hx hb dL_holds_346 (lv_at hl 8 rfl) ?_
        refine lv_if_eq (tgt := 443) hx hb dL_holds_348 (by decide) (fun c33 => ?_) (fun c33 => ?_)
        · have hf := br_p c33 hf
          exact h443 x1 x2 x3 x4 x5 x6 x7 x8 σ _ _ _ hW (lv_sub hl [0, 1, 2, 3, 4, 5, 6, 7, 8] rfl) hf
        · have hf := br_n c33 hf
          refine lv_iload hx hb dL_holds_351 (lv_at hl 5 rfl) ?_
          refine lv_aload_n hx hb dL_holds_353 rfl (lv_at hl 0 rfl) ?_
          refine lv_iload hx hb dL_holds_354 (lv_at hl 9 rfl) ?_
          refine lv_iconst (v := 4) hx hb dL_holds_356 (by decide) ?_
          obtain ⟨r35, s36, q34, hf⟩ := bo_inv hf
          refine ss_xcallVi (As := [.int x9, .int 4]) hx hb hml hown hK hW kb_X6_blockOf kM_RL_64 rfl (okq_lt (by decide)) (c_fx (by decide)) (mX6_blockOf l hfl (a1 := x9) (a2 := 4) q34) rfl dL_holds_357 rfl hl.1 (Nat.le_of_ble_eq_true rfl) ⟨Nat.le_of_ble_eq_true rfl, Nat.le_of_ble_eq_true rfl⟩ ⟨Nat.zero_le _, Nat.zero_le _⟩ (fun H locs hW => ?_)
          refine lv_iadd hx hb dL_holds_360 ?_
          refine lv_topi (fun x5_37 ex5_37 => ?_)
          have hf := nm_use ex5_37 hf
          refine lv_istore (lv' := [(5, .int x5_37), (0, .ref (eA E 0)), (1, .int x1), (2, .int x2), (3, .int x3), (4, .int x4), (6, .int x6), (7, .int x7), (8, .int x8), (9, .int x9)]) hx hb dL_holds_361 hl (by decide) rfl (fun ls hl => ?_)
          refine lv_iload hx hb dL_holds_363 (lv_at hl 9 rfl) ?_
          refine lv_aload_n hx hb dL_holds_365 rfl (lv_at hl 1 rfl) ?_
          refine lv_iconst (v := 0) hx hb dL_holds_366 (by decide) ?_
          obtain ⟨r39, s40, q38, hf⟩ := bo_inv hf
          refine ss_xcallVi (As := [.int 0]) hx hb hml hown hK hW kb_X6_setting kM_RL_34 rfl (okq_lt (by decide)) (c_fx (by decide)) (mX6_setting l hfl (a1 := 0) q38) rfl dL_holds_367 rfl hl.1 (Nat.le_of_ble_eq_true rfl) ⟨Nat.le_of_ble_eq_true rfl, Nat.le_of_ble_eq_true rfl⟩ ⟨Nat.zero_le _, Nat.zero_le _⟩ (fun H locs hW => ?_)
          refine lv_imul hx hb dL_holds_370 ?_
          refine lv_aload_n hx hb dL_holds_371 rfl (lv_at hl 1 rfl) ?_
          refine lv_iload hx hb dL_holds_372 (lv_at hl 9 rfl) ?_
          refine lv_iconst (v := 0) hx hb dL_holds_374 (by decide) ?_
          obtain ⟨r42, s43, q41, hf⟩ := bo_inv hf
          refine ss_xcallVi (As := [.int x9, .int 0]) hx hb hml hown hK hW kb_X6_blockOf kM_RL_64 rfl (okq_lt (by decide)) (c_fx (by decide)) (mX6_blockOf l hfl (a1 := x9) (a2 := 0) q41) rfl dL_holds_375 rfl hl.1 (Nat.le_of_ble_eq_true rfl) ⟨Nat.le_of_ble_eq_true rfl, Nat.le_of_ble_eq_true rfl⟩ ⟨Nat.zero_le _, Nat.zero_le _⟩ (fun H locs hW => ?_)
          refine lv_iadd hx hb dL_holds_378 ?_
          refine lv_iconst (v := 1) hx hb dL_holds_379 (by decide) ?_
          refine lv_isub hx hb dL_holds_380 ?_
          refine lv_topi (fun x10_44 ex10_44 => ?_)
          have hf := nm_use ex10_44 hf
          refine lv_istore (lv' := [(10, .int x10_44), (5, .int x5_37), (0, .ref (eA E 0)), (1, .int x1), (2, .int x2), (3, .int x3), (4, .int x4), (6, .int x6), (7, .int x7), (8, .int x8), (9, .int x9)]) hx hb dL_holds_381 hl (by decide) rfl (fun ls hl => ?_)
          refine lv_aload_n hx hb dL_holds_383 rfl (lv_at hl 2 rfl) ?_
          refine lv_iload hx hb dL_holds_384 (lv_at hl 10 rfl) ?_
          refine lv_iconst (v := 3) hx hb dL_holds_386 (by decide) ?_
          obtain ⟨r46, s47, q45, hf⟩ := bo_inv hf
          refine ss_xcallVi (As := [.int x9, .int 3]) hx hb hml hown hK hW kb_X6_blockOf kM_RL_64 rfl (okq_lt (by decide)) (c_fx (by decide)) (mX6_blockOf l hfl (a1 := x9) (a2 := 3) q45) rfl dL_holds_387 rfl hl.1 (Nat.le_of_ble_eq_true rfl) ⟨Nat.le_of_ble_eq_true rfl, Nat.le_of_ble_eq_true rfl⟩ ⟨Nat.zero_le _, Nat.zero_le _⟩ (fun H locs hW => ?_)
          refine lv_iconst (v := 1) hx hb dL_holds_390 (by decide) ?_
          refine lv_icmp_ne (tgt := 413) hx hb dL_holds_391 (by decide) (fun c48 => ?_) (fun c48 => ?_)
          · have hf := br_n c48 hf
            refine lv_aload_n hx hb dL_holds_413 rfl (lv_at hl 2 rfl) ?_
            refine lv_iload hx hb dL_holds_414 (lv_at hl 0 rfl) ?_
            refine lv_iconst (v := 4) hx hb dL_holds_416 (by decide) ?_
            obtain ⟨r50, s51, q49, hf⟩ := bo_inv hf
            refine ss_xcallVi (As := [.int x10_44, .int 4]) hx hb hml hown hK hW kb_X6_sampleOf kM_RL_24 rfl (okq_lt (by decide)) (c_fx (by decide)) (mX6_sampleOf l hfl (a1 := x10_44) (a2 := 4) q49) rfl dL_holds_417 rfl hl.1 (Nat.le_of_ble_eq_true rfl) ⟨Nat.le_of_ble_eq_true rfl, Nat.le_of_ble_eq_true rfl⟩ ⟨Nat.zero_le _, Nat.zero_le _⟩ (fun H locs hW => ?_)
            refine lv_aload_n hx hb dL_holds_420 rfl (lv_at hl 2 rfl) ?_
            refine lv_iload hx hb dL_holds_421 (lv_at hl 10 rfl) ?_
            refine lv_iconst (v := 5) hx hb dL_holds_423 (by decide) ?_
            obtain ⟨r53, s54, q52, hf⟩ := bo_inv hf
            refine ss_xcallVi (As := [.int x9, .int 5]) hx hb hml hown hK hW kb_X6_blockOf kM_RL_64 rfl (okq_lt (by decide)) (c_fx (by decide)) (mX6_blockOf l hfl (a1 := x9) (a2 := 5) q52) rfl dL_holds_424 rfl hl.1 (Nat.le_of_ble_eq_true rfl) ⟨Nat.le_of_ble_eq_true rfl, Nat.le_of_ble_eq_true rfl⟩ ⟨Nat.zero_le _, Nat.zero_le _⟩ (fun H locs hW => ?_)
            refine lv_icmp_ne (tgt := 434) hx hb dL_holds_427 (by decide) (fun c55 => ?_) (fun c55 => ?_)
            · have hf := br_n c55 hf
              refine lv_iconst (v := 0) hx hb dL_holds_434 (by decide) ?_
              refine lv_istore (lv' := [(8, .int 0), (10, .int x10_44), (5, .int x5_37), (0, .ref (eA E 0)), (1, .int x1), (2, .int x2), (3, .int x3), (4, .int x4), (6, .int x6), (7, .int x7), (9, .int x9)]) hx hb dL_holds_435 hl (by decide) rfl (fun ls hl => ?_)
              obtain ⟨x9_56, ex9_56⟩ : ∃ y : Int32, y = (x9 + 1) := ⟨_, rfl⟩
              have hf := nm_use ex9_56 hf
              refine lv_iinc (v := x9_56) (lv' := [(9, .int x9_56), (8, .int 0), (10, .int x10_44), (5, .int x5_37), (0, .ref (eA E 0)), (1, .int x1), (2, .int x2), (3, .int x3), (4, .int x4), (6, .int x6), (7, .int x7)]) hx hb dL_holds_437 hl (k := 10) rfl (by rw [ex9_56]; rfl) (by decide) rfl (fun ls hl => ?_)
              refine lv_goto (tgt := 340) hx hb dL_holds_440 (by decide) ?_
              exact ih340 x1 x2 x3 x4 x5_37 x6 x7 0 x9_56 s54 _ _ _ hW (lv_sub hl [4, 5, 6, 7, 8, 3, 9, 10, 1, 0] rfl) hf
            · have hf := br_p c55 hf
              refine lv_iconst (v := 1) hx hb dL_holds_430 (by decide) ?_
              refine lv_goto (tgt := 435) hx hb dL_holds_431 (by decide) ?_
              refine lv_istore (lv' := [(8, .int 1), (10, .int x10_44), (5, .int x5_37), (0, .ref (eA E 0)), (1, .int x1), (2, .int x2), (3, .int x3), (4, .int x4), (6, .int x6), (7, .int x7), (9, .int x9)]) hx hb dL_holds_435 hl (by decide) rfl (fun ls hl => ?_)
              obtain ⟨x9_57, ex9_57⟩ : ∃ y : Int32, y = (x9 + 1) := ⟨_, rfl⟩
              have hf := nm_use ex9_57 hf
              refine lv_iinc (v := x9_57) (lv' := [(9, .int x9_57), (8, .int 1), (10, .int x10_44), (5, .int x5_37), (0, .ref (eA E 0)), (1, .int x1), (2, .int x2), (3, .int x3), (4, .int x4), (6, .int x6), (7, .int x7)]) hx hb dL_holds_437 hl (k := 10) rfl (by rw [ex9_57]; rfl) (by decide) rfl (fun ls hl => ?_)
              refine lv_goto (tgt := 340) hx hb dL_holds_440 (by decide) ?_
              exact ih340 x1 x2 x3 x4 x5_37 x6 x7 1 x9_57 s54 _ _ _ hW (lv_sub hl [4, 5, 6, 7, 8, 3, 9, 10, 1, 0] rfl) hf
          · have hf := br_p c48 hf
            refine lv_aload_n hx hb dL_holds_394 rfl (lv_at hl 2 rfl) ?_
            refine lv_iload hx hb dL_holds_395 (lv_at hl 0 rfl) ?_
            refine lv_iconst (v := 4) hx hb dL_holds_397 (by decide) ?_
            obtain ⟨r59, s60, q58, hf⟩ := bo_inv hf
            refine ss_xcallVi (As := [.int x10_44, .int 4]) hx hb hml hown hK hW kb_X6_sampleOf kM_RL_24 rfl (okq_lt (by decide)) (c_fx (by decide)) (mX6_sampleOf l hfl (a1 := x10_44) (a2 := 4) q58) rfl dL_holds_398 rfl hl.1 (Nat.le_of_ble_eq_true rfl) ⟨Nat.le_of_ble_eq_true rfl, Nat.le_of_ble_eq_true rfl⟩ ⟨Nat.zero_le _, Nat.zero_le _⟩ (fun H locs hW => ?_)
            refine lv_iconst (v := (-1)) hx hb dL_holds_401 (by decide) ?_
            refine lv_icmp_ne (tgt := 409) hx hb dL_holds_402 (by decide) (fun c61 => ?_) (fun c61 => ?_)
            · have hf := br_n c61 hf
              refine lv_iconst (v := 0) hx hb dL_holds_409 (by decide) ?_
              refine lv_goto (tgt := 435) hx hb dL_holds_410 (by decide) ?_
              refine lv_istore (lv' := [(8, .int 0), (10, .int x10_44), (5, .int x5_37), (0, .ref (eA E 0)), (1, .int x1), (2, .int x2), (3, .int x3), (4, .int x4), (6, .int x6), (7, .int x7), (9, .int x9)]) hx hb dL_holds_435 hl (by decide) rfl (fun ls hl => ?_)
              obtain ⟨x9_62, ex9_62⟩ : ∃ y : Int32, y = (x9 + 1) := ⟨_, rfl⟩
              have hf := nm_use ex9_62 hf
              refine lv_iinc (v := x9_62) (lv' := [(9, .int x9_62), (8, .int 0), (10, .int x10_44), (5, .int x5_37), (0, .ref (eA E 0)), (1, .int x1), (2, .int x2), (3, .int x3), (4, .int x4), (6, .int x6), (7, .int x7)]) hx hb dL_holds_437 hl (k := 10) rfl (by rw [ex9_62]; rfl) (by decide) rfl (fun ls hl => ?_)
              refine lv_goto (tgt := 340) hx hb dL_holds_440 (by decide) ?_
              exact ih340 x1 x2 x3 x4 x5_37 x6 x7 0 x9_62 s60 _ _ _ hW (lv_sub hl [4, 5, 6, 7, 8, 3, 9, 10, 1, 0] rfl) hf
            · have hf := br_p c61 hf
              refine lv_iconst (v := 1) hx hb dL_holds_405 (by decide) ?_
              refine lv_goto (tgt := 435) hx hb dL_holds_406 (by decide) ?_
              refine lv_istore (lv' := [(8, .int 1), (10, .int x10_44), (5, .int x5_37), (0, .ref (eA E 0)), (1, .int x1), (2, .int x2), (3, .int x3), (4, .int x4), (6, .int x6), (7, .int x7), (9, .int x9)]) hx hb dL_holds_435 hl (by decide) rfl (fun ls hl => ?_)
              obtain ⟨x9_63, ex9_63⟩ : ∃ y : Int32, y = (x9 + 1) := ⟨_, rfl⟩
              have hf := nm_use ex9_63 hf
              refine lv_iinc (v := x9_63) (lv' := [(9, .int x9_63), (8, .int 1), (10, .int x10_44), (5, .int x5_37), (0, .ref (eA E 0)), (1, .int x1), (2, .int x2), (3, .int x3), (4, .int x4), (6, .int x6), (7, .int x7)]) hx hb dL_holds_437 hl (k := 10) rfl (by rw [ex9_63]; rfl) (by decide) rfl (fun ls hl => ?_)
              refine lv_goto (tgt := 340) hx hb dL_holds_440 (by decide) ?_
              exact ih340 x1 x2 x3 x4 x5_37 x6 x7 1 x9_63 s60 _ _ _ hW (lv_sub hl [4, 5, 6, 7, 8, 3, 9, 10, 1, 0] rfl) hf
  have h92 : ∀ (n92 : Nat) (x1 : Int32) (x2 : Int32) (x3 : Int32) (x4 : Int32) (x5 : Int32) (x6 : Int32) (x7 : Int32) (x8 : Int32) (x9 : Int32) (σ : Sg) (H : Heap) (locs : List Loc) (ls : Array Slot), Wk E σ μ dg s H locs → lv_has ls 13 [(0, .ref (eA E 0)), (1, .int x1), (2, .int x2), (3, .int x3), (4, .int x4), (5, .int x5), (6, .int x6), (7, .int x7), (8, .int x8), (9, .int x9)] → fL_holds_L92 n92 x1 x2 x3 x4 x5 x6 x7 x8 x9 σ = some (r, σ') → W p l e (Rm 8 153) s m [.ref (eA E 0)].toArray below meth c H locs 0 0 (MQ below (Qi E σ' μ dg r) [.ref (eA E 0)].toArray s 0 0 (eP E)) (F0 m 92 ls []) := by
    intro n92
    induction n92 with
    | zero =>
      intro x1 x2 x3 x4 x5 x6 x7 x8 x9 σ  H locs ls hW hl hf
      exact absurd hf (by simp [fL_holds_L92])
    | succ n92 ih92 =>
      have h280 : ∀ (x1 : Int32) (x2 : Int32) (x3 : Int32) (x4 : Int32) (x5 : Int32) (x7 : Int32) (x8 : Int32) (x9 : Int32) (x12 : Int32) (k0 : Int32) (σ : Sg) (H : Heap) (locs : List Loc) (ls : Array Slot), Wk E σ μ dg s H locs → lv_has ls 13 [(0, .ref (eA E 0)), (1, .int x1), (2, .int x2), (3, .int x3), (4, .int x4), (5, .int x5), (7, .int x7), (8, .int x8), (9, .int x9), (12, .int x12)] → fL_holds_b280 (fun x1 x2 x3 x4 x5 x6 x7 x8 x9 σ => fL_holds_L92 n92 x1 x2 x3 x4 x5 x6 x7 x8 x9 σ) x1 x2 x3 x4 x5 x7 x8 x9 x12 k0 σ = some (r, σ') → W p l e (Rm 8 153) s m [.ref (eA E 0)].toArray below meth c H locs 0 0 (MQ below (Qi E σ' μ dg r) [.ref (eA E 0)].toArray s 0 0 (eP E)) (F0 m 280 ls [.int k0]) := by
        intro x1 x2 x3 x4 x5 x7 x8 x9 x12 k0 σ  H locs ls hW hl hf
        unfold fL_holds_b280 at hf
        refine lv_istore (lv' := [(6, .int k0), (0, .ref (eA E 0)), (1, .int x1), (2, .int x2), (3, .int x3), (4, .int x4), (5, .int x5), (7, .int x7), (8, .int x8), (9, .int x9), (12, .int x12)]) hx hb dL_holds_280 hl (by decide) rfl (fun ls hl => ?_)
        refine lv_iload hx hb dL_holds_282 (lv_at hl 7 rfl) ?_
        refine lv_iload hx hb dL_holds_284 (lv_at hl 10 rfl) ?_
        refine lv_if_ne (tgt := 293) hx hb dL_holds_286 (by decide) (fun c64 => ?_) (fun c64 => ?_)
        · have hf := br_n c64 hf
          refine lv_iconst (v := 0) hx hb dL_holds_293 (by decide) ?_
          refine lv_iadd hx hb dL_holds_294 ?_
          refine lv_topi (fun x7_65 ex7_65 => ?_)
          have hf := nm_use ex7_65 hf
          refine lv_istore (lv' := [(7, .int x7_65), (6, .int k0), (0, .ref (eA E 0)), (1, .int x1), (2, .int x2), (3, .int x3), (4, .int x4), (5, .int x5), (8, .int x8), (9, .int x9), (12, .int x12)]) hx hb dL_holds_295 hl (by decide) rfl (fun ls hl => ?_)
          refine lv_goto (tgt := 331) hx hb dL_holds_297 (by decide) ?_
          obtain ⟨x9_66, ex9_66⟩ : ∃ y : Int32, y = (x9 + 1) := ⟨_, rfl⟩
          have hf := nm_use ex9_66 hf
          refine lv_iinc (v := x9_66) (lv' := [(9, .int x9_66), (7, .int x7_65), (6, .int k0), (0, .ref (eA E 0)), (1, .int x1), (2, .int x2), (3, .int x3), (4, .int x4), (5, .int x5), (8, .int x8), (12, .int x12)]) hx hb dL_holds_331 hl (k := 9) rfl (by rw [ex9_66]; rfl) (by decide) rfl (fun ls hl => ?_)
          refine lv_goto (tgt := 92) hx hb dL_holds_334 (by decide) ?_
          exact ih92 x1 x2 x3 x4 x5 k0 x7_65 x8 x9_66 σ _ _ _ hW (lv_sub hl [3, 4, 5, 6, 7, 8, 2, 1, 9, 0] rfl) hf
        · have hf := br_p c64 hf
          refine lv_iconst (v := 1) hx hb dL_holds_289 (by decide) ?_
          refine lv_goto (tgt := 294) hx hb dL_holds_290 (by decide) ?_
          refine lv_iadd hx hb dL_holds_294 ?_
          refine lv_topi (fun x7_67 ex7_67 => ?_)
          have hf := nm_use ex7_67 hf
          refine lv_istore (lv' := [(7, .int x7_67), (6, .int k0), (0, .ref (eA E 0)), (1, .int x1), (2, .int x2), (3, .int x3), (4, .int x4), (5, .int x5), (8, .int x8), (9, .int x9), (12, .int x12)]) hx hb dL_holds_295 hl (by decide) rfl (fun ls hl => ?_)
          refine lv_goto (tgt := 331) hx hb dL_holds_297 (by decide) ?_
          obtain ⟨x9_68, ex9_68⟩ : ∃ y : Int32, y = (x9 + 1) := ⟨_, rfl⟩
          have hf := nm_use ex9_68 hf
          refine lv_iinc (v := x9_68) (lv' := [(9, .int x9_68), (7, .int x7_67), (6, .int k0), (0, .ref (eA E 0)), (1, .int x1), (2, .int x2), (3, .int x3), (4, .int x4), (5, .int x5), (8, .int x8), (12, .int x12)]) hx hb dL_holds_331 hl (k := 9) rfl (by rw [ex9_68]; rfl) (by decide) rfl (fun ls hl => ?_)
          refine lv_goto (tgt := 92) hx hb dL_holds_334 (by decide) ?_
          exact ih92 x1 x2 x3 x4 x5 k0 x7_67 x8 x9_68 σ _ _ _ hW (lv_sub hl [3, 4, 5, 6, 7, 8, 2, 1, 9, 0] rfl) hf
      have h240 : ∀ (x1 : Int32) (x2 : Int32) (x3 : Int32) (x4 : Int32) (x5 : Int32) (x6 : Int32) (x7 : Int32) (x9 : Int32) (x12 : Int32) (k0 : Int32) (σ : Sg) (H : Heap) (locs : List Loc) (ls : Array Slot), Wk E σ μ dg s H locs → lv_has ls 13 [(0, .ref (eA E 0)), (1, .int x1), (2, .int x2), (3, .int x3), (4, .int x4), (5, .int x5), (6, .int x6), (7, .int x7), (9, .int x9), (12, .int x12)] → fL_holds_b240 (fun x1 x2 x3 x4 x5 x6 x7 x8 x9 σ => fL_holds_L92 n92 x1 x2 x3 x4 x5 x6 x7 x8 x9 σ) x1 x2 x3 x4 x5 x6 x7 x9 x12 k0 σ = some (r, σ') → W p l e (Rm 8 153) s m [.ref (eA E 0)].toArray below meth c H locs 0 0 (MQ below (Qi E σ' μ dg r) [.ref (eA E 0)].toArray s 0 0 (eP E)) (F0 m 240 ls [.int k0]) := by
        intro x1 x2 x3 x4 x5 x6 x7 x9 x12 k0 σ  H locs ls hW hl hf
        unfold fL_holds_b240 at hf
        refine lv_istore (lv' := [(8, .int k0), (0, .ref (eA E 0)), (1, .int x1), (2, .int x2), (3, .int x3), (4, .int x4), (5, .int x5), (6, .int x6), (7, .int x7), (9, .int x9), (12, .int x12)]) hx hb dL_holds_240 hl (by decide) rfl (fun ls hl => ?_)
        refine lv_iload hx hb dL_holds_242 (lv_at hl 5 rfl) ?_
        refine lv_iload hx hb dL_holds_244 (lv_at hl 10 rfl) ?_
        refine lv_iload hx hb dL_holds_246 (lv_at hl 10 rfl) ?_
        refine lv_imul hx hb dL_holds_248 ?_
        refine lv_iadd hx hb dL_holds_249 ?_
        refine lv_topi (fun x4_69 ex4_69 => ?_)
        have hf := nm_use ex4_69 hf
        refine lv_istore (lv' := [(4, .int x4_69), (8, .int k0), (0, .ref (eA E 0)), (1, .int x1), (2, .int x2), (3, .int x3), (5, .int x5), (6, .int x6), (7, .int x7), (9, .int x9), (12, .int x12)]) hx hb dL_holds_250 hl (by decide) rfl (fun ls hl => ?_)
        refine lv_iload hx hb dL_holds_252 (lv_at hl 10 rfl) ?_
        refine lv_iload hx hb dL_holds_254 (lv_at hl 7 rfl) ?_
        refine lv_icmp_le (tgt := 264) hx hb dL_holds_256 (by decide) (fun c70 => ?_) (fun c70 => ?_)
        · have hf := br_p c70 hf
          refine lv_iload hx hb dL_holds_264 (lv_at hl 10 rfl) ?_
          refine lv_ineg hx hb dL_holds_266 ?_
          refine lv_iload hx hb dL_holds_267 (lv_at hl 7 rfl) ?_
          refine lv_icmp_le (tgt := 278) hx hb dL_holds_269 (by decide) (fun c71 => ?_) (fun c71 => ?_)
          · have hf := br_p c71 hf
            refine lv_iload hx hb dL_holds_278 (lv_at hl 7 rfl) ?_
            exact h280 x1 x2 x3 x4_69 x5 x7 k0 x9 x12 x6 σ _ _ _ hW (lv_sub hl [2, 3, 4, 5, 0, 6, 8, 1, 9, 10] rfl) hf
          · have hf := br_n c71 hf
            refine lv_iload hx hb dL_holds_272 (lv_at hl 10 rfl) ?_
            refine lv_ineg hx hb dL_holds_274 ?_
            refine lv_goto (tgt := 280) hx hb dL_holds_275 (by decide) ?_
            exact h280 x1 x2 x3 x4_69 x5 x7 k0 x9 x12 (-x12) σ _ _ _ hW (lv_sub hl [2, 3, 4, 5, 0, 6, 8, 1, 9, 10] rfl) hf
        · have hf := br_n c70 hf
          refine lv_iload hx hb dL_holds_259 (lv_at hl 10 rfl) ?_
          refine lv_goto (tgt := 280) hx hb dL_holds_261 (by decide) ?_
          exact h280 x1 x2 x3 x4_69 x5 x7 k0 x9 x12 x12 σ _ _ _ hW (lv_sub hl [2, 3, 4, 5, 0, 6, 8, 1, 9, 10] rfl) hf
      have h239 : ∀ (x1 : Int32) (x2 : Int32) (x3 : Int32) (x4 : Int32) (x5 : Int32) (x6 : Int32) (x7 : Int32) (x9 : Int32) (x12 : Int32) (σ : Sg) (H : Heap) (locs : List Loc) (ls : Array Slot), Wk E σ μ dg s H locs → lv_has ls 13 [(0, .ref (eA E 0)), (1, .int x1), (2, .int x2), (3, .int x3), (4, .int x4), (5, .int x5), (6, .int x6), (7, .int x7), (9, .int x9), (12, .int x12)] → fL_holds_b239 (fun x1 x2 x3 x4 x5 x6 x7 x8 x9 σ => fL_holds_L92 n92 x1 x2 x3 x4 x5 x6 x7 x8 x9 σ) x1 x2 x3 x4 x5 x6 x7 x9 x12 σ = some (r, σ') → W p l e (Rm 8 153) s m [.ref (eA E 0)].toArray below meth c H locs 0 0 (MQ below (Qi E σ' μ dg r) [.ref (eA E 0)].toArray s 0 0 (eP E)) (F0 m 239 ls []) := by
        intro x1 x2 x3 x4 x5 x6 x7 x9 x12 σ  H locs ls hW hl hf
        unfold fL_holds_b239 at hf
        refine lv_iconst (v := 0) hx hb dL_holds_239 (by decide) ?_
        exact h240 x1 x2 x3 x4 x5 x6 x7 x9 x12 0 σ _ _ _ hW (lv_sub hl [0, 1, 2, 3, 4, 5, 6, 7, 8, 9] rfl) hf
      have h232 : ∀ (x1 : Int32) (x2 : Int32) (x3 : Int32) (x4 : Int32) (x5 : Int32) (x6 : Int32) (x7 : Int32) (x9 : Int32) (x12 : Int32) (k0 : Int32) (k1 : Int32) (σ : Sg) (H : Heap) (locs : List Loc) (ls : Array Slot), Wk E σ μ dg s H locs → lv_has ls 13 [(0, .ref (eA E 0)), (1, .int x1), (2, .int x2), (3, .int x3), (4, .int x4), (5, .int x5), (6, .int x6), (7, .int x7), (9, .int x9), (12, .int x12)] → fL_holds_b232 (fun x1 x2 x3 x4 x5 x6 x7 x8 x9 σ => fL_holds_L92 n92 x1 x2 x3 x4 x5 x6 x7 x8 x9 σ) x1 x2 x3 x4 x5 x6 x7 x9 x12 k0 k1 σ = some (r, σ') → W p l e (Rm 8 153) s m [.ref (eA E 0)].toArray below meth c H locs 0 0 (MQ below (Qi E σ' μ dg r) [.ref (eA E 0)].toArray s 0 0 (eP E)) (F0 m 232 ls [.int k0, .int k1]) := by
        intro x1 x2 x3 x4 x5 x6 x7 x9 x12 k0 k1 σ  H locs ls hW hl hf
        unfold fL_holds_b232 at hf
        refine lv_icmp_ne (tgt := 239) hx hb dL_holds_232 (by decide) (fun c72 => ?_) (fun c72 => ?_)
        · have hf := br_n c72 hf
          exact h239 x1 x2 x3 x4 x5 x6 x7 x9 x12 σ _ _ _ hW (lv_sub hl [0, 1, 2, 3, 4, 5, 6, 7, 8, 9] rfl) hf
        · have hf := br_p c72 hf
          refine lv_iconst (v := 1) hx hb dL_holds_235 (by decide) ?_
          refine lv_goto (tgt := 240) hx hb dL_holds_236 (by decide) ?_
          exact h240 x1 x2 x3 x4 x5 x6 x7 x9 x12 1 σ _ _ _ hW (lv_sub hl [0, 1, 2, 3, 4, 5, 6, 7, 8, 9] rfl) hf
      have h216 : ∀ (x1 : Int32) (x2 : Int32) (x3 : Int32) (x4 : Int32) (x5 : Int32) (x6 : Int32) (x7 : Int32) (x9 : Int32) (x12 : Int32) (k0 : Int32) (σ : Sg) (H : Heap) (locs : List Loc) (ls : Array Slot), Wk E σ μ dg s H locs → lv_has ls 13 [(0, .ref (eA E 0)), (1, .int x1), (2, .int x2), (3, .int x3), (4, .int x4), (5, .int x5), (6, .int x6), (7, .int x7), (9, .int x9), (12, .int x12)] → fL_holds_b216 (fun x1 x2 x3 x4 x5 x6 x7 x8 x9 σ => fL_holds_L92 n92 x1 x2 x3 x4 x5 x6 x7 x8 x9 σ) x1 x2 x3 x4 x5 x6 x7 x9 x12 k0 σ = some (r, σ') → W p l e (Rm 8 153) s m [.ref (eA E 0)].toArray below meth c H locs 0 0 (MQ below (Qi E σ' μ dg r) [.ref (eA E 0)].toArray s 0 0 (eP E)) (F0 m 216 ls [.int k0]) := by
        intro x1 x2 x3 x4 x5 x6 x7 x9 x12 k0 σ  H locs ls hW hl hf
        unfold fL_holds_b216 at hf
        refine lv_iload hx hb dL_holds_216 (lv_at hl 8 rfl) ?_
        refine lv_aload_n hx hb dL_holds_218 rfl (lv_at hl 0 rfl) ?_
        refine lv_iconst (v := 0) hx hb dL_holds_219 (by decide) ?_
        obtain ⟨r74, s75, q73, hf⟩ := bo_inv hf
        refine ss_xcallVi (As := [.int 0]) hx hb hml hown hK hW kb_X6_setting kM_RL_34 rfl (okq_lt (by decide)) (c_fx (by decide)) (mX6_setting l hfl (a1 := 0) q73) rfl dL_holds_220 rfl hl.1 (Nat.le_of_ble_eq_true rfl) ⟨Nat.le_of_ble_eq_true rfl, Nat.le_of_ble_eq_true rfl⟩ ⟨Nat.zero_le _, Nat.zero_le _⟩ (fun H locs hW => ?_)
        obtain ⟨hz76, hf⟩ := gd_inv hf
        refine lv_irem hx hb dL_holds_223 hz76 ?_
        refine lv_if_ne (tgt := 231) hx hb dL_holds_224 (by decide) (fun c77 => ?_) (fun c77 => ?_)
        · have hf := br_n c77 hf
          refine lv_iconst (v := 0) hx hb dL_holds_231 (by decide) ?_
          exact h232 x1 x2 x3 x4 x5 x6 x7 x9 x12 0 k0 s75 _ _ _ hW (lv_sub hl [0, 1, 2, 3, 4, 5, 6, 7, 8, 9] rfl) hf
        · have hf := br_p c77 hf
          refine lv_iconst (v := 1) hx hb dL_holds_227 (by decide) ?_
          refine lv_goto (tgt := 232) hx hb dL_holds_228 (by decide) ?_
          exact h232 x1 x2 x3 x4 x5 x6 x7 x9 x12 1 k0 s75 _ _ _ hW (lv_sub hl [0, 1, 2, 3, 4, 5, 6, 7, 8, 9] rfl) hf
      have h150 : ∀ (x1 : Int32) (x2 : Int32) (x3 : Int32) (x4 : Int32) (x5 : Int32) (x6 : Int32) (x7 : Int32) (x9 : Int32) (x10 : Int32) (x11 : Int32) (k0 : Int32) (σ : Sg) (H : Heap) (locs : List Loc) (ls : Array Slot), Wk E σ μ dg s H locs → lv_has ls 13 [(0, .ref (eA E 0)), (1, .int x1), (2, .int x2), (3, .int x3), (4, .int x4), (5, .int x5), (6, .int x6), (7, .int x7), (9, .int x9), (10, .int x10), (11, .int x11)] → fL_holds_b150 (fun x1 x2 x3 x4 x5 x6 x7 x8 x9 σ => fL_holds_L92 n92 x1 x2 x3 x4 x5 x6 x7 x8 x9 σ) x1 x2 x3 x4 x5 x6 x7 x9 x10 x11 k0 σ = some (r, σ') → W p l e (Rm 8 153) s m [.ref (eA E 0)].toArray below meth c H locs 0 0 (MQ below (Qi E σ' μ dg r) [.ref (eA E 0)].toArray s 0 0 (eP E)) (F0 m 150 ls [.int k0]) := by
        intro x1 x2 x3 x4 x5 x6 x7 x9 x10 x11 k0 σ  H locs ls hW hl hf
        unfold fL_holds_b150 at hf
        refine lv_istore (lv' := [(8, .int k0), (0, .ref (eA E 0)), (1, .int x1), (2, .int x2), (3, .int x3), (4, .int x4), (5, .int x5), (6, .int x6), (7, .int x7), (9, .int x9), (10, .int x10), (11, .int x11)]) hx hb dL_holds_150 hl (by decide) rfl (fun ls hl => ?_)
        refine lv_iload_n hx hb dL_holds_152 rfl (lv_at hl 4 rfl) ?_
        refine lv_if_eq (tgt := 300) hx hb dL_holds_153 (by decide) (fun c78 => ?_) (fun c78 => ?_)
        · have hf := br_p c78 hf
          refine lv_iload hx hb dL_holds_300 (lv_at hl 0 rfl) ?_
          refine lv_if_eq (tgt := 328) hx hb dL_holds_302 (by decide) (fun c79 => ?_) (fun c79 => ?_)
          · have hf := br_p c79 hf
            refine lv_iconst (v := 0) hx hb dL_holds_328 (by decide) ?_
            refine lv_istore (lv' := [(8, .int 0), (0, .ref (eA E 0)), (1, .int x1), (2, .int x2), (3, .int x3), (4, .int x4), (5, .int x5), (6, .int x6), (7, .int x7), (9, .int x9), (10, .int x10), (11, .int x11)]) hx hb dL_holds_329 hl (by decide) rfl (fun ls hl => ?_)
            obtain ⟨x9_80, ex9_80⟩ : ∃ y : Int32, y = (x9 + 1) := ⟨_, rfl⟩
            have hf := nm_use ex9_80 hf
            refine lv_iinc (v := x9_80) (lv' := [(9, .int x9_80), (8, .int 0), (0, .ref (eA E 0)), (1, .int x1), (2, .int x2), (3, .int x3), (4, .int x4), (5, .int x5), (6, .int x6), (7, .int x7), (10, .int x10), (11, .int x11)]) hx hb dL_holds_331 hl (k := 9) rfl (by rw [ex9_80]; rfl) (by decide) rfl (fun ls hl => ?_)
            refine lv_goto (tgt := 92) hx hb dL_holds_334 (by decide) ?_
            exact ih92 x1 x2 x3 x4 x5 x6 x7 0 x9_80 σ _ _ _ hW (lv_sub hl [2, 3, 4, 5, 6, 7, 8, 9, 1, 0] rfl) hf
          · have hf := br_n c79 hf
            refine lv_iload hx hb dL_holds_305 (lv_at hl 11 rfl) ?_
            refine lv_sipush (v := (-10001)) hx hb dL_holds_307 (by decide) ?_
            refine lv_icmp_ne (tgt := 328) hx hb dL_holds_310 (by decide) (fun c81 => ?_) (fun c81 => ?_)
            · have hf := br_n c81 hf
              refine lv_iconst (v := 0) hx hb dL_holds_328 (by decide) ?_
              refine lv_istore (lv' := [(8, .int 0), (0, .ref (eA E 0)), (1, .int x1), (2, .int x2), (3, .int x3), (4, .int x4), (5, .int x5), (6, .int x6), (7, .int x7), (9, .int x9), (10, .int x10), (11, .int x11)]) hx hb dL_holds_329 hl (by decide) rfl (fun ls hl => ?_)
              obtain ⟨x9_82, ex9_82⟩ : ∃ y : Int32, y = (x9 + 1) := ⟨_, rfl⟩
              have hf := nm_use ex9_82 hf
              refine lv_iinc (v := x9_82) (lv' := [(9, .int x9_82), (8, .int 0), (0, .ref (eA E 0)), (1, .int x1), (2, .int x2), (3, .int x3), (4, .int x4), (5, .int x5), (6, .int x6), (7, .int x7), (10, .int x10), (11, .int x11)]) hx hb dL_holds_331 hl (k := 9) rfl (by rw [ex9_82]; rfl) (by decide) rfl (fun ls hl => ?_)
              refine lv_goto (tgt := 92) hx hb dL_holds_334 (by decide) ?_
              exact ih92 x1 x2 x3 x4 x5 x6 x7 0 x9_82 σ _ _ _ hW (lv_sub hl [2, 3, 4, 5, 6, 7, 8, 9, 1, 0] rfl) hf
            · have hf := br_p c81 hf
              refine lv_aload_n hx hb dL_holds_313 rfl (lv_at hl 1 rfl) ?_
              refine lv_iload hx hb dL_holds_314 (lv_at hl 9 rfl) ?_
              refine lv_iconst (v := 4) hx hb dL_holds_316 (by decide) ?_
              obtain ⟨r84, s85, q83, hf⟩ := bo_inv hf
              refine ss_xcallVi (As := [.int x9, .int 4]) hx hb hml hown hK hW kb_X6_sampleOf kM_RL_24 rfl (okq_lt (by decide)) (c_fx (by decide)) (mX6_sampleOf l hfl (a1 := x9) (a2 := 4) q83) rfl dL_holds_317 rfl hl.1 (Nat.le_of_ble_eq_true rfl) ⟨Nat.le_of_ble_eq_true rfl, Nat.le_of_ble_eq_true rfl⟩ ⟨Nat.zero_le _, Nat.zero_le _⟩ (fun H locs hW => ?_)
              refine lv_iconst (v := (-1)) hx hb dL_holds_320 (by decide) ?_
              refine lv_icmp_ne (tgt := 328) hx hb dL_holds_321 (by decide) (fun c86 => ?_) (fun c86 => ?_)
              · have hf := br_n c86 hf
                refine lv_iconst (v := 0) hx hb dL_holds_328 (by decide) ?_
                refine lv_istore (lv' := [(8, .int 0), (0, .ref (eA E 0)), (1, .int x1), (2, .int x2), (3, .int x3), (4, .int x4), (5, .int x5), (6, .int x6), (7, .int x7), (9, .int x9), (10, .int x10), (11, .int x11)]) hx hb dL_holds_329 hl (by decide) rfl (fun ls hl => ?_)
                obtain ⟨x9_87, ex9_87⟩ : ∃ y : Int32, y = (x9 + 1) := ⟨_, rfl⟩
                have hf := nm_use ex9_87 hf
                refine lv_iinc (v := x9_87) (lv' := [(9, .int x9_87), (8, .int 0), (0, .ref (eA E 0)), (1, .int x1), (2, .int x2), (3, .int x3), (4, .int x4), (5, .int x5), (6, .int x6), (7, .int x7), (10, .int x10), (11, .int x11)]) hx hb dL_holds_331 hl (k := 9) rfl (by rw [ex9_87]; rfl) (by decide) rfl (fun ls hl => ?_)
                refine lv_goto (tgt := 92) hx hb dL_holds_334 (by decide) ?_
                exact ih92 x1 x2 x3 x4 x5 x6 x7 0 x9_87 s85 _ _ _ hW (lv_sub hl [2, 3, 4, 5, 6, 7, 8, 9, 1, 0] rfl) hf
              · have hf := br_p c86 hf
                refine lv_iconst (v := 1) hx hb dL_holds_324 (by decide) ?_
                refine lv_goto (tgt := 329) hx hb dL_holds_325 (by decide) ?_
                refine lv_istore (lv' := [(8, .int 1), (0, .ref (eA E 0)), (1, .int x1), (2, .int x2), (3, .int x3), (4, .int x4), (5, .int x5), (6, .int x6), (7, .int x7), (9, .int x9), (10, .int x10), (11, .int x11)]) hx hb dL_holds_329 hl (by decide) rfl (fun ls hl => ?_)
                obtain ⟨x9_88, ex9_88⟩ : ∃ y : Int32, y = (x9 + 1) := ⟨_, rfl⟩
                have hf := nm_use ex9_88 hf
                refine lv_iinc (v := x9_88) (lv' := [(9, .int x9_88), (8, .int 1), (0, .ref (eA E 0)), (1, .int x1), (2, .int x2), (3, .int x3), (4, .int x4), (5, .int x5), (6, .int x6), (7, .int x7), (10, .int x10), (11, .int x11)]) hx hb dL_holds_331 hl (k := 9) rfl (by rw [ex9_88]; rfl) (by decide) rfl (fun ls hl => ?_)
                refine lv_goto (tgt := 92) hx hb dL_holds_334 (by decide) ?_
                exact ih92 x1 x2 x3 x4 x5 x6 x7 1 x9_88 s85 _ _ _ hW (lv_sub hl [2, 3, 4, 5, 6, 7, 8, 9, 1, 0] rfl) hf
        · have hf := br_n c78 hf
          refine lv_iload hx hb dL_holds_156 (lv_at hl 10 rfl) ?_
          refine lv_iload hx hb dL_holds_158 (lv_at hl 11 rfl) ?_
          refine lv_isub hx hb dL_holds_160 ?_
          refine lv_topi (fun x12_89 ex12_89 => ?_)
          have hf := nm_use ex12_89 hf
          refine lv_istore (lv' := [(12, .int x12_89), (8, .int k0), (0, .ref (eA E 0)), (1, .int x1), (2, .int x2), (3, .int x3), (4, .int x4), (5, .int x5), (6, .int x6), (7, .int x7), (9, .int x9), (10, .int x10), (11, .int x11)]) hx hb dL_holds_161 hl (by decide) rfl (fun ls hl => ?_)
          refine lv_iload hx hb dL_holds_163 (lv_at hl 1 rfl) ?_
          refine lv_if_eq (tgt := 239) hx hb dL_holds_165 (by decide) (fun c90 => ?_) (fun c90 => ?_)
          · have hf := br_p c90 hf
            exact h239 x1 x2 x3 x4 x5 x6 x7 x9 x12_89 σ _ _ _ hW (lv_sub hl [2, 3, 4, 5, 6, 7, 8, 9, 10, 0] rfl) hf
          · have hf := br_n c90 hf
            refine lv_iload hx hb dL_holds_168 (lv_at hl 12 rfl) ?_
            refine lv_sipush (v := (-2048)) hx hb dL_holds_170 (by decide) ?_
            refine lv_icmp_lt (tgt := 239) hx hb dL_holds_173 (by decide) (fun c91 => ?_) (fun c91 => ?_)
            · have hf := br_p c91 hf
              exact h239 x1 x2 x3 x4 x5 x6 x7 x9 x12_89 σ _ _ _ hW (lv_sub hl [2, 3, 4, 5, 6, 7, 8, 9, 10, 0] rfl) hf
            · have hf := br_n c91 hf
              refine lv_iload hx hb dL_holds_176 (lv_at hl 12 rfl) ?_
              refine lv_sipush (v := 2047) hx hb dL_holds_178 (by decide) ?_
              refine lv_icmp_gt (tgt := 239) hx hb dL_holds_181 (by decide) (fun c92 => ?_) (fun c92 => ?_)
              · have hf := br_p c92 hf
                exact h239 x1 x2 x3 x4 x5 x6 x7 x9 x12_89 σ _ _ _ hW (lv_sub hl [2, 3, 4, 5, 6, 7, 8, 9, 10, 0] rfl) hf
              · have hf := br_n c92 hf
                refine lv_aload_n hx hb dL_holds_184 rfl (lv_at hl 2 rfl) ?_
                refine lv_iload hx hb dL_holds_185 (lv_at hl 10 rfl) ?_
                refine lv_iconst (v := 5) hx hb dL_holds_187 (by decide) ?_
                obtain ⟨r94, s95, q93, hf⟩ := bo_inv hf
                refine ss_xcallVi (As := [.int x9, .int 5]) hx hb hml hown hK hW kb_X6_sampleOf kM_RL_24 rfl (okq_lt (by decide)) (c_fx (by decide)) (mX6_sampleOf l hfl (a1 := x9) (a2 := 5) q93) rfl dL_holds_188 rfl hl.1 (Nat.le_of_ble_eq_true rfl) ⟨Nat.le_of_ble_eq_true rfl, Nat.le_of_ble_eq_true rfl⟩ ⟨Nat.zero_le _, Nat.zero_le _⟩ (fun H locs hW => ?_)
                refine lv_iload hx hb dL_holds_191 (lv_at hl 0 rfl) ?_
                refine lv_sipush (v := 10000) hx hb dL_holds_193 (by decide) ?_
                refine lv_iadd hx hb dL_holds_196 ?_
                refine lv_icmp_ne (tgt := 239) hx hb dL_holds_197 (by decide) (fun c96 => ?_) (fun c96 => ?_)
                · have hf := br_n c96 hf
                  exact h239 x1 x2 x3 x4 x5 x6 x7 x9 x12_89 s95 _ _ _ hW (lv_sub hl [2, 3, 4, 5, 6, 7, 8, 9, 10, 0] rfl) hf
                · have hf := br_p c96 hf
                  refine lv_aload_n hx hb dL_holds_200 rfl (lv_at hl 2 rfl) ?_
                  refine lv_iload hx hb dL_holds_201 (lv_at hl 10 rfl) ?_
                  refine lv_iconst (v := 3) hx hb dL_holds_203 (by decide) ?_
                  obtain ⟨r98, s99, q97, hf⟩ := bo_inv hf
                  refine ss_xcallVi (As := [.int x9, .int 3]) hx hb hml hown hK hW kb_X6_sampleOf kM_RL_24 rfl (okq_lt (by decide)) (c_fx (by decide)) (mX6_sampleOf l hfl (a1 := x9) (a2 := 3) q97) rfl dL_holds_204 rfl hl.1 (Nat.le_of_ble_eq_true rfl) ⟨Nat.le_of_ble_eq_true rfl, Nat.le_of_ble_eq_true rfl⟩ ⟨Nat.zero_le _, Nat.zero_le _⟩ (fun H locs hW => ?_)
                  refine lv_iconst (v := (-1)) hx hb dL_holds_207 (by decide) ?_
                  refine lv_icmp_ne (tgt := 215) hx hb dL_holds_208 (by decide) (fun c100 => ?_) (fun c100 => ?_)
                  · have hf := br_n c100 hf
                    refine lv_iconst (v := 0) hx hb dL_holds_215 (by decide) ?_
                    exact h216 x1 x2 x3 x4 x5 x6 x7 x9 x12_89 0 s99 _ _ _ hW (lv_sub hl [2, 3, 4, 5, 6, 7, 8, 9, 10, 0] rfl) hf
                  · have hf := br_p c100 hf
                    refine lv_iconst (v := 1) hx hb dL_holds_211 (by decide) ?_
                    refine lv_goto (tgt := 216) hx hb dL_holds_212 (by decide) ?_
                    exact h216 x1 x2 x3 x4 x5 x6 x7 x9 x12_89 1 s99 _ _ _ hW (lv_sub hl [2, 3, 4, 5, 6, 7, 8, 9, 10, 0] rfl) hf
      have h149 : ∀ (x1 : Int32) (x2 : Int32) (x3 : Int32) (x4 : Int32) (x5 : Int32) (x6 : Int32) (x7 : Int32) (x9 : Int32) (x10 : Int32) (x11 : Int32) (σ : Sg) (H : Heap) (locs : List Loc) (ls : Array Slot), Wk E σ μ dg s H locs → lv_has ls 13 [(0, .ref (eA E 0)), (1, .int x1), (2, .int x2), (3, .int x3), (4, .int x4), (5, .int x5), (6, .int x6), (7, .int x7), (9, .int x9), (10, .int x10), (11, .int x11)] → fL_holds_b149 (fun x1 x2 x3 x4 x5 x6 x7 x8 x9 σ => fL_holds_L92 n92 x1 x2 x3 x4 x5 x6 x7 x8 x9 σ) x1 x2 x3 x4 x5 x6 x7 x9 x10 x11 σ = some (r, σ') → W p l e (Rm 8 153) s m [.ref (eA E 0)].toArray below meth c H locs 0 0 (MQ below (Qi E σ' μ dg r) [.ref (eA E 0)].toArray s 0 0 (eP E)) (F0 m 149 ls []) := by
        intro x1 x2 x3 x4 x5 x6 x7 x9 x10 x11 σ  H locs ls hW hl hf
        unfold fL_holds_b149 at hf
        refine lv_iconst (v := 0) hx hb dL_holds_149 (by decide) ?_
        exact h150 x1 x2 x3 x4 x5 x6 x7 x9 x10 x11 0 σ _ _ _ hW (lv_sub hl [0, 1, 2, 3, 4, 5, 6, 7, 8, 9, 10] rfl) hf
      intro x1 x2 x3 x4 x5 x6 x7 x8 x9 σ  H locs ls hW hl hf
      rw [fL_holds_L92] at hf
      refine lv_iload hx hb dL_holds_92 (lv_at hl 9 rfl) ?_
      refine lv_iload_n hx hb dL_holds_94 rfl (lv_at hl 1 rfl) ?_
      refine lv_icmp_ge (tgt := 337) hx hb dL_holds_95 (by decide) (fun c101 => ?_) (fun c101 => ?_)
      · have hf := br_p c101 hf
        refine lv_iconst (v := 0) hx hb dL_holds_337 (by decide) ?_
        refine lv_istore (lv' := [(9, .int 0), (0, .ref (eA E 0)), (1, .int x1), (2, .int x2), (3, .int x3), (4, .int x4), (5, .int x5), (6, .int x6), (7, .int x7), (8, .int x8)]) hx hb dL_holds_338 hl (by decide) rfl (fun ls hl => ?_)
        exact h340 80 x1 x2 x3 x4 x5 x6 x7 x8 0 σ _ _ _ hW (lv_sub hl [1, 2, 3, 4, 5, 6, 7, 8, 9, 0] rfl) hf
      · have hf := br_n c101 hf
        refine lv_iload hx hb dL_holds_98 (lv_at hl 8 rfl) ?_
        refine lv_if_eq (tgt := 337) hx hb dL_holds_100 (by decide) (fun c102 => ?_) (fun c102 => ?_)
        · have hf := br_p c102 hf
          refine lv_iconst (v := 0) hx hb dL_holds_337 (by decide) ?_
          refine lv_istore (lv' := [(9, .int 0), (0, .ref (eA E 0)), (1, .int x1), (2, .int x2), (3, .int x3), (4, .int x4), (5, .int x5), (6, .int x6), (7, .int x7), (8, .int x8)]) hx hb dL_holds_338 hl (by decide) rfl (fun ls hl => ?_)
          exact h340 80 x1 x2 x3 x4 x5 x6 x7 x8 0 σ _ _ _ hW (lv_sub hl [1, 2, 3, 4, 5, 6, 7, 8, 9, 0] rfl) hf
        · have hf := br_n c102 hf
          refine lv_aload_n hx hb dL_holds_103 rfl (lv_at hl 0 rfl) ?_
          refine lv_iload hx hb dL_holds_104 (lv_at hl 9 rfl) ?_
          refine lv_iconst (v := 0) hx hb dL_holds_106 (by decide) ?_
          obtain ⟨r104, s105, q103, hf⟩ := bo_inv hf
          refine ss_xcallVi (As := [.int x9, .int 0]) hx hb hml hown hK hW kb_X6_sampleOf kM_RL_24 rfl (okq_lt (by decide)) (c_fx (by decide)) (mX6_sampleOf l hfl (a1 := x9) (a2 := 0) q103) rfl dL_holds_107 rfl hl.1 (Nat.le_of_ble_eq_true rfl) ⟨Nat.le_of_ble_eq_true rfl, Nat.le_of_ble_eq_true rfl⟩ ⟨Nat.zero_le _, Nat.zero_le _⟩ (fun H locs hW => ?_)
          refine lv_sipush (v := 10000) hx hb dL_holds_110 (by decide) ?_
          refine lv_isub hx hb dL_holds_113 ?_
          refine lv_topi (fun x10_106 ex10_106 => ?_)
          have hf := nm_use ex10_106 hf
          refine lv_istore (lv' := [(10, .int x10_106), (0, .ref (eA E 0)), (1, .int x1), (2, .int x2), (3, .int x3), (4, .int x4), (5, .int x5), (6, .int x6), (7, .int x7), (8, .int x8), (9, .int x9)]) hx hb dL_holds_114 hl (by decide) rfl (fun ls hl => ?_)
          refine lv_aload_n hx hb dL_holds_116 rfl (lv_at hl 1 rfl) ?_
          refine lv_iload hx hb dL_holds_117 (lv_at hl 10 rfl) ?_
          refine lv_iconst (v := 1) hx hb dL_holds_119 (by decide) ?_
          obtain ⟨r108, s109, q107, hf⟩ := bo_inv hf
          refine ss_xcallVi (As := [.int x9, .int 1]) hx hb hml hown hK hW kb_X6_sampleOf kM_RL_24 rfl (okq_lt (by decide)) (c_fx (by decide)) (mX6_sampleOf l hfl (a1 := x9) (a2 := 1) q107) rfl dL_holds_120 rfl hl.1 (Nat.le_of_ble_eq_true rfl) ⟨Nat.le_of_ble_eq_true rfl, Nat.le_of_ble_eq_true rfl⟩ ⟨Nat.zero_le _, Nat.zero_le _⟩ (fun H locs hW => ?_)
          refine lv_sipush (v := 10000) hx hb dL_holds_123 (by decide) ?_
          refine lv_isub hx hb dL_holds_126 ?_
          refine lv_topi (fun x11_110 ex11_110 => ?_)
          have hf := nm_use ex11_110 hf
          refine lv_istore (lv' := [(11, .int x11_110), (10, .int x10_106), (0, .ref (eA E 0)), (1, .int x1), (2, .int x2), (3, .int x3), (4, .int x4), (5, .int x5), (6, .int x6), (7, .int x7), (8, .int x8), (9, .int x9)]) hx hb dL_holds_127 hl (by decide) rfl (fun ls hl => ?_)
          refine lv_iload hx hb dL_holds_129 (lv_at hl 1 rfl) ?_
          refine lv_sipush (v := (-2048)) hx hb dL_holds_131 (by decide) ?_
          refine lv_icmp_lt (tgt := 149) hx hb dL_holds_134 (by decide) (fun c111 => ?_) (fun c111 => ?_)
          · have hf := br_p c111 hf
            exact h149 x1 x2 x3 x4 x5 x6 x7 x9 x10_106 x11_110 s109 _ _ _ hW (lv_sub hl [2, 3, 4, 5, 6, 7, 8, 9, 11, 1, 0] rfl) hf
          · have hf := br_n c111 hf
            refine lv_iload hx hb dL_holds_137 (lv_at hl 1 rfl) ?_
            refine lv_sipush (v := 2047) hx hb dL_holds_139 (by decide) ?_
            refine lv_icmp_gt (tgt := 149) hx hb dL_holds_142 (by decide) (fun c112 => ?_) (fun c112 => ?_)
            · have hf := br_p c112 hf
              exact h149 x1 x2 x3 x4 x5 x6 x7 x9 x10_106 x11_110 s109 _ _ _ hW (lv_sub hl [2, 3, 4, 5, 6, 7, 8, 9, 11, 1, 0] rfl) hf
            · have hf := br_n c112 hf
              refine lv_iconst (v := 1) hx hb dL_holds_145 (by decide) ?_
              refine lv_goto (tgt := 150) hx hb dL_holds_146 (by decide) ?_
              exact h150 x1 x2 x3 x4 x5 x6 x7 x9 x10_106 x11_110 1 s109 _ _ _ hW (lv_sub hl [2, 3, 4, 5, 6, 7, 8, 9, 11, 1, 0] rfl) hf
  have h26 : ∀ (x1 : Int32) (x2 : Int32) (k0 : Int32) (σ : Sg) (H : Heap) (locs : List Loc) (ls : Array Slot), Wk E σ μ dg s H locs → lv_has ls 13 [(0, .ref (eA E 0)), (1, .int x1), (2, .int x2)] → fL_holds_b26 x1 x2 k0 σ = some (r, σ') → W p l e (Rm 8 153) s m [.ref (eA E 0)].toArray below meth c H locs 0 0 (MQ below (Qi E σ' μ dg r) [.ref (eA E 0)].toArray s 0 0 (eP E)) (F0 m 26 ls [.int k0]) := by
    intro x1 x2 k0 σ  H locs ls hW hl hf
    unfold fL_holds_b26 at hf
    refine lv_istore_n (lv' := [(3, .int k0), (0, .ref (eA E 0)), (1, .int x1), (2, .int x2)]) hx hb dL_holds_26 rfl hl (by decide) rfl (fun ls hl => ?_)
    refine lv_iconst (v := 0) hx hb dL_holds_27 (by decide) ?_
    refine lv_istore (lv' := [(4, .int 0), (3, .int k0), (0, .ref (eA E 0)), (1, .int x1), (2, .int x2)]) hx hb dL_holds_28 hl (by decide) rfl (fun ls hl => ?_)
    refine lv_iconst (v := 0) hx hb dL_holds_30 (by decide) ?_
    refine lv_istore (lv' := [(5, .int 0), (4, .int 0), (3, .int k0), (0, .ref (eA E 0)), (1, .int x1), (2, .int x2)]) hx hb dL_holds_31 hl (by decide) rfl (fun ls hl => ?_)
    refine lv_iconst (v := 0) hx hb dL_holds_33 (by decide) ?_
    refine lv_istore (lv' := [(6, .int 0), (5, .int 0), (4, .int 0), (3, .int k0), (0, .ref (eA E 0)), (1, .int x1), (2, .int x2)]) hx hb dL_holds_34 hl (by decide) rfl (fun ls hl => ?_)
    refine lv_iconst (v := 0) hx hb dL_holds_36 (by decide) ?_
    refine lv_istore (lv' := [(7, .int 0), (6, .int 0), (5, .int 0), (4, .int 0), (3, .int k0), (0, .ref (eA E 0)), (1, .int x1), (2, .int x2)]) hx hb dL_holds_37 hl (by decide) rfl (fun ls hl => ?_)
    refine lv_iload_n hx hb dL_holds_39 rfl (lv_at hl 4 rfl) ?_
    refine lv_if_eq (tgt := 70) hx hb dL_holds_40 (by decide) (fun c113 => ?_) (fun c113 => ?_)
    · have hf := br_p c113 hf
      refine lv_iload_n hx hb dL_holds_70 rfl (lv_at hl 7 rfl) ?_
      refine lv_if_ne (tgt := 86) hx hb dL_holds_71 (by decide) (fun c114 => ?_) (fun c114 => ?_)
      · have hf := br_n c114 hf
        refine lv_iconst (v := 0) hx hb dL_holds_86 (by decide) ?_
        refine lv_istore (lv' := [(8, .int 0), (7, .int 0), (6, .int 0), (5, .int 0), (4, .int 0), (3, .int k0), (0, .ref (eA E 0)), (1, .int x1), (2, .int x2)]) hx hb dL_holds_87 hl (by decide) rfl (fun ls hl => ?_)
        refine lv_iconst (v := 0) hx hb dL_holds_89 (by decide) ?_
        refine lv_istore (lv' := [(9, .int 0), (8, .int 0), (7, .int 0), (6, .int 0), (5, .int 0), (4, .int 0), (3, .int k0), (0, .ref (eA E 0)), (1, .int x1), (2, .int x2)]) hx hb dL_holds_90 hl (by decide) rfl (fun ls hl => ?_)
        exact h92 80 x1 x2 k0 0 0 0 0 0 0 σ _ _ _ hW (lv_sub hl [7, 8, 9, 6, 5, 4, 3, 2, 1, 0] rfl) hf
      · have hf := br_p c114 hf
        refine lv_aload_n hx hb dL_holds_74 rfl (lv_at hl 5 rfl) ?_
        refine lv_iconst (v := 3) hx hb dL_holds_75 (by decide) ?_
        obtain ⟨r116, s117, q115, hf⟩ := bo_inv hf
        refine ss_xcallVi (As := [.int 3]) hx hb hml hown hK hW kb_X6_count kM_RL_9 rfl (okq_lt (by decide)) (c_fx (by decide)) (mX6_count l hfl (a1 := 3) q115) rfl dL_holds_76 rfl hl.1 (Nat.le_of_ble_eq_true rfl) ⟨Nat.le_of_ble_eq_true rfl, Nat.le_of_ble_eq_true rfl⟩ ⟨Nat.zero_le _, Nat.zero_le _⟩ (fun H locs hW => ?_)
        refine lv_if_ne (tgt := 86) hx hb dL_holds_79 (by decide) (fun c118 => ?_) (fun c118 => ?_)
        · have hf := br_n c118 hf
          refine lv_iconst (v := 0) hx hb dL_holds_86 (by decide) ?_
          refine lv_istore (lv' := [(8, .int 0), (7, .int 0), (6, .int 0), (5, .int 0), (4, .int 0), (3, .int k0), (0, .ref (eA E 0)), (1, .int x1), (2, .int x2)]) hx hb dL_holds_87 hl (by decide) rfl (fun ls hl => ?_)
          refine lv_iconst (v := 0) hx hb dL_holds_89 (by decide) ?_
          refine lv_istore (lv' := [(9, .int 0), (8, .int 0), (7, .int 0), (6, .int 0), (5, .int 0), (4, .int 0), (3, .int k0), (0, .ref (eA E 0)), (1, .int x1), (2, .int x2)]) hx hb dL_holds_90 hl (by decide) rfl (fun ls hl => ?_)
          exact h92 80 x1 x2 k0 0 0 0 0 0 0 s117 _ _ _ hW (lv_sub hl [7, 8, 9, 6, 5, 4, 3, 2, 1, 0] rfl) hf
        · have hf := br_p c118 hf
          refine lv_iconst (v := 1) hx hb dL_holds_82 (by decide) ?_
          refine lv_goto (tgt := 87) hx hb dL_holds_83 (by decide) ?_
          refine lv_istore (lv' := [(8, .int 1), (7, .int 0), (6, .int 0), (5, .int 0), (4, .int 0), (3, .int k0), (0, .ref (eA E 0)), (1, .int x1), (2, .int x2)]) hx hb dL_holds_87 hl (by decide) rfl (fun ls hl => ?_)
          refine lv_iconst (v := 0) hx hb dL_holds_89 (by decide) ?_
          refine lv_istore (lv' := [(9, .int 0), (8, .int 1), (7, .int 0), (6, .int 0), (5, .int 0), (4, .int 0), (3, .int k0), (0, .ref (eA E 0)), (1, .int x1), (2, .int x2)]) hx hb dL_holds_90 hl (by decide) rfl (fun ls hl => ?_)
          exact h92 80 x1 x2 k0 0 0 0 0 1 0 s117 _ _ _ hW (lv_sub hl [7, 8, 9, 6, 5, 4, 3, 2, 1, 0] rfl) hf
    · have hf := br_n c113 hf
      refine lv_iload_n hx hb dL_holds_43 rfl (lv_at hl 7 rfl) ?_
      refine lv_iload_n hx hb dL_holds_44 rfl (lv_at hl 6 rfl) ?_
      refine lv_aload_n hx hb dL_holds_45 rfl (lv_at hl 5 rfl) ?_
      refine lv_iconst (v := 0) hx hb dL_holds_46 (by decide) ?_
      obtain ⟨r120, s121, q119, hf⟩ := bo_inv hf
      refine ss_xcallVi (As := [.int 0]) hx hb hml hown hK hW kb_X6_setting kM_RL_34 rfl (okq_lt (by decide)) (c_fx (by decide)) (mX6_setting l hfl (a1 := 0) q119) rfl dL_holds_47 rfl hl.1 (Nat.le_of_ble_eq_true rfl) ⟨Nat.le_of_ble_eq_true rfl, Nat.le_of_ble_eq_true rfl⟩ ⟨Nat.zero_le _, Nat.zero_le _⟩ (fun H locs hW => ?_)
      refine lv_iadd hx hb dL_holds_50 ?_
      refine lv_iconst (v := 1) hx hb dL_holds_51 (by decide) ?_
      refine lv_isub hx hb dL_holds_52 ?_
      refine lv_aload_n hx hb dL_holds_53 rfl (lv_at hl 5 rfl) ?_
      refine lv_iconst (v := 0) hx hb dL_holds_54 (by decide) ?_
      obtain ⟨r123, s124, q122, hf⟩ := bo_inv hf
      refine ss_xcallVi (As := [.int 0]) hx hb hml hown hK hW kb_X6_setting kM_RL_34 rfl (okq_lt (by decide)) (c_fx (by decide)) (mX6_setting l hfl (a1 := 0) q122) rfl dL_holds_55 rfl hl.1 (Nat.le_of_ble_eq_true rfl) ⟨Nat.le_of_ble_eq_true rfl, Nat.le_of_ble_eq_true rfl⟩ ⟨Nat.zero_le _, Nat.zero_le _⟩ (fun H locs hW => ?_)
      obtain ⟨hz125, hf⟩ := gd_inv hf
      refine lv_idiv hx hb dL_holds_58 hz125 ?_
      refine lv_icmp_ne (tgt := 66) hx hb dL_holds_59 (by decide) (fun c126 => ?_) (fun c126 => ?_)
      · have hf := br_n c126 hf
        refine lv_iconst (v := 0) hx hb dL_holds_66 (by decide) ?_
        refine lv_goto (tgt := 87) hx hb dL_holds_67 (by decide) ?_
        refine lv_istore (lv' := [(8, .int 0), (7, .int 0), (6, .int 0), (5, .int 0), (4, .int 0), (3, .int k0), (0, .ref (eA E 0)), (1, .int x1), (2, .int x2)]) hx hb dL_holds_87 hl (by decide) rfl (fun ls hl => ?_)
        refine lv_iconst (v := 0) hx hb dL_holds_89 (by decide) ?_
        refine lv_istore (lv' := [(9, .int 0), (8, .int 0), (7, .int 0), (6, .int 0), (5, .int 0), (4, .int 0), (3, .int k0), (0, .ref (eA E 0)), (1, .int x1), (2, .int x2)]) hx hb dL_holds_90 hl (by decide) rfl (fun ls hl => ?_)
        exact h92 80 x1 x2 k0 0 0 0 0 0 0 s124 _ _ _ hW (lv_sub hl [7, 8, 9, 6, 5, 4, 3, 2, 1, 0] rfl) hf
      · have hf := br_p c126 hf
        refine lv_iconst (v := 1) hx hb dL_holds_62 (by decide) ?_
        refine lv_goto (tgt := 87) hx hb dL_holds_63 (by decide) ?_
        refine lv_istore (lv' := [(8, .int 1), (7, .int 0), (6, .int 0), (5, .int 0), (4, .int 0), (3, .int k0), (0, .ref (eA E 0)), (1, .int x1), (2, .int x2)]) hx hb dL_holds_87 hl (by decide) rfl (fun ls hl => ?_)
        refine lv_iconst (v := 0) hx hb dL_holds_89 (by decide) ?_
        refine lv_istore (lv' := [(9, .int 0), (8, .int 1), (7, .int 0), (6, .int 0), (5, .int 0), (4, .int 0), (3, .int k0), (0, .ref (eA E 0)), (1, .int x1), (2, .int x2)]) hx hb dL_holds_90 hl (by decide) rfl (fun ls hl => ?_)
        exact h92 80 x1 x2 k0 0 0 0 0 1 0 s124 _ _ _ hW (lv_sub hl [7, 8, 9, 6, 5, 4, 3, 2, 1, 0] rfl) hf
  refine lv_aload_n hx hb dL_holds_0 rfl (lv_at hl 0 rfl) ?_
  refine lv_iconst (v := 0) hx hb dL_holds_1 (by decide) ?_
  obtain ⟨r128, s129, q127, hf⟩ := bo_inv hf
  refine ss_xcallVi (As := [.int 0]) hx hb hml hown hK hW kb_X6_count kM_RL_9 rfl (okq_lt (by decide)) (c_fx (by decide)) (mX6_count l hfl (a1 := 0) q127) rfl dL_holds_2 rfl hl.1 (Nat.le_of_ble_eq_true rfl) ⟨Nat.le_of_ble_eq_true rfl, Nat.le_of_ble_eq_true rfl⟩ ⟨Nat.zero_le _, Nat.zero_le _⟩ (fun H locs hW => ?_)
  refine lv_istore_n (lv' := [(1, .int r128), (0, .ref (eA E 0))]) hx hb dL_holds_5 rfl hl (by decide) rfl (fun ls hl => ?_)
  refine lv_aload_n hx hb dL_holds_6 rfl (lv_at hl 1 rfl) ?_
  refine lv_iconst (v := 2) hx hb dL_holds_7 (by decide) ?_
  obtain ⟨r131, s132, q130, hf⟩ := bo_inv hf
  refine ss_xcallVi (As := [.int 2]) hx hb hml hown hK hW kb_X6_count kM_RL_9 rfl (okq_lt (by decide)) (c_fx (by decide)) (mX6_count l hfl (a1 := 2) q130) rfl dL_holds_8 rfl hl.1 (Nat.le_of_ble_eq_true rfl) ⟨Nat.le_of_ble_eq_true rfl, Nat.le_of_ble_eq_true rfl⟩ ⟨Nat.zero_le _, Nat.zero_le _⟩ (fun H locs hW => ?_)
  refine lv_istore_n (lv' := [(2, .int r131), (1, .int r128), (0, .ref (eA E 0))]) hx hb dL_holds_11 rfl hl (by decide) rfl (fun ls hl => ?_)
  refine lv_aload_n hx hb dL_holds_12 rfl (lv_at hl 2 rfl) ?_
  refine lv_iconst (v := 1) hx hb dL_holds_13 (by decide) ?_
  obtain ⟨r134, s135, q133, hf⟩ := bo_inv hf
  refine ss_xcallVi (As := [.int 1]) hx hb hml hown hK hW kb_X6_count kM_RL_9 rfl (okq_lt (by decide)) (c_fx (by decide)) (mX6_count l hfl (a1 := 1) q133) rfl dL_holds_14 rfl hl.1 (Nat.le_of_ble_eq_true rfl) ⟨Nat.le_of_ble_eq_true rfl, Nat.le_of_ble_eq_true rfl⟩ ⟨Nat.zero_le _, Nat.zero_le _⟩ (fun H locs hW => ?_)
  refine lv_iconst (v := 1) hx hb dL_holds_17 (by decide) ?_
  refine lv_icmp_ne (tgt := 25) hx hb dL_holds_18 (by decide) (fun c136 => ?_) (fun c136 => ?_)
  · have hf := br_n c136 hf
    refine lv_iconst (v := 0) hx hb dL_holds_25 (by decide) ?_
    exact h26 r128 r131 0 s135 _ _ _ hW (lv_sub hl [2, 1, 0] rfl) hf
  · have hf := br_p c136 hf
    refine lv_iconst (v := 1) hx hb dL_holds_21 (by decide) ?_
    refine lv_goto (tgt := 26) hx hb dL_holds_22 (by decide) ?_
    exact h26 r128 r131 1 s135 _ _ _ hW (lv_sub hl [2, 1, 0] rfl) hf
