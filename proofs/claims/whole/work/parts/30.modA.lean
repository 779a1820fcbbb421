def fX7_in (a0 : Int32) (a1 : Int32) (a2 : Int32) : Option Int32 := if a0 < a1 then (some 0) else (if a2 < a0 then (some 0) else (some 1))
set_option maxHeartbeats 4000000 in
set_option maxRecDepth 100000 in
theorem mX7_in (l : Launch) {E : En} {σ μ : Sg} {dg : Int64} {a0 : Int32} {a1 : Int32} {a2 : Int32}  {r : Int32} (hf : fX7_in a0 a1 a2 = some r) : Met l yX7_in [.code yX7_in cX7_in 3 (some .boolean)] (Rm 0 0) (va_Pc [.int a0, .int a1, .int a2] (Wd E σ μ dg)) (Qi E σ μ dg r) 0 0 (eP E) := by
  refine ss_of (by decide) (Nat.le_of_ble_eq_true rfl) (fun p e s m below meth c hx hb hr hlk hml hown hK hW ls hl => ?_)
  have hown : s.vm.findClass RX7 = some m.cls := hown
  have hl : lv_has ls 3 [(0, .int a0), (1, .int a1), (2, .int a2)] := hl
  unfold fX7_in at hf
  refine lv_iload_n hx hb dX7_in_0 rfl (lv_at hl 0 rfl) ?_
  refine lv_iload_n hx hb dX7_in_1 rfl (lv_at hl 1 rfl) ?_
  refine lv_icmp_lt (tgt := 14) hx hb dX7_in_2 (by decide) (fun c1 => ?_) (fun c1 => ?_)
  · have hf := br_p c1 hf
    refine lv_iconst (v := 0) hx hb dX7_in_14 (by decide) ?_
    exact ss_zret hx hb hr hlk hW (Option.some.inj hf) rfl dX7_in_15
  · have hf := br_n c1 hf
    refine lv_iload_n hx hb dX7_in_5 rfl (lv_at hl 0 rfl) ?_
    refine lv_iload_n hx hb dX7_in_6 rfl (lv_at hl 2 rfl) ?_
    refine lv_icmp_gt (tgt := 14) hx hb dX7_in_7 (by decide) (fun c2 => ?_) (fun c2 => ?_)
    · have hf := br_p c2 hf
      refine lv_iconst (v := 0) hx hb dX7_in_14 (by decide) ?_
      exact ss_zret hx hb hr hlk hW (Option.some.inj hf) rfl dX7_in_15
    · have hf := br_n c2 hf
      refine lv_iconst (v := 1) hx hb dX7_in_10 (by decide) ?_
      refine lv_goto (tgt := 15) hx hb dX7_in_11 (by decide) ?_
      exact ss_zret hx hb hr hlk hW (Option.some.inj hf) rfl dX7_in_15
def fX7_holds (a1 : Int32) (μ : Sg) : Option (Int32 × Sg) := nm (up2 μ 20 0 a1) fun u1 => if a1 = 0 then (some (1, u1)) else (some (0, u1))
set_option maxHeartbeats 4000000 in
set_option maxRecDepth 100000 in
theorem mX7_holds (l : Launch) {E : En} {σ μ : Sg} {dg : Int64} {a1 : Int32}  {r : Int32} {μ' : Sg} (hf : fX7_holds a1 μ = some (r, μ')) : Met l yX7_holds [.code yX7_holds cX7_holds 2 (some .boolean)] (Rm 0 0) (va_Pc [.ref (eA E 9), .int a1] (Wd E σ μ dg)) (Qi E σ μ' dg r) 0 0 (eP E) := by
  refine ss_of (by decide) (Nat.le_of_ble_eq_true rfl) (fun p e s m below meth c hx hb hr hlk hml hown hK hW ls hl => ?_)
  have hown : s.vm.findClass RX7 = some m.cls := hown
  have hl : lv_has ls 2 [(0, .ref (eA E 9)), (1, .int a1)] := hl
  unfold fX7_holds at hf
  refine lv_aload_n hx hb dX7_holds_0 rfl (lv_at hl 0 rfl) ?_
  refine lv_iload_n hx hb dX7_holds_1 rfl (lv_at hl 1 rfl) ?_
  refine p_M_thrown hx hb hown hK hW kF_RX7_44 dX7_holds_2 (fun H locs hW => ?_)
  obtain ⟨u1, eu1⟩ : ∃ y : Sg, y = (up2 μ 20 0 a1) := ⟨_, rfl⟩
  have hf := nm_use eu1 hf
  rw [← eu1] at hW
  refine lv_iload_n hx hb dX7_holds_5 rfl (lv_at hl 1 rfl) ?_
  refine lv_if_ne (tgt := 13) hx hb dX7_holds_6 (by decide) (fun c2 => ?_) (fun c2 => ?_)
  · have hf := br_n c2 hf
    refine lv_iconst (v := 0) hx hb dX7_holds_13 (by decide) ?_
    cases hf
    exact ss_zret hx hb hr hlk hW rfl rfl dX7_holds_14
  · have hf := br_p c2 hf
    refine lv_iconst (v := 1) hx hb dX7_holds_9 (by decide) ?_
    refine lv_goto (tgt := 14) hx hb dX7_holds_10 (by decide) ?_
    cases hf
    exact ss_zret hx hb hr hlk hW rfl rfl dX7_holds_14
def fX7_save_L52  (n : Nat) (x1 : Int32) (μ : Sg) : Option Sg := match n with
  | 0 => none
  | n + 1 => if 295 ≤ x1 then (nm (up2 μ 20 3 ((μ 20 3) + 1)) fun u2 => some u2) else (gd (¬ (x1 < 0 ∨ 295 ≤ (x1).toNatClampNeg)) <| gd (¬ (((295 * (μ 20 3)) + x1) < 0 ∨ 1770 ≤ (((295 * (μ 20 3)) + x1)).toNatClampNeg)) <| nm (up2 μ 1 ((((295 * (μ 20 3)) + x1)).toNatClampNeg) (μ 0 (x1).toNatClampNeg)) fun u5 => nm (x1 + 1) fun x1_6 => (fun x1 μ => fX7_save_L52 n x1 μ) x1_6 u5)
def fX7_save_L11  (n : Nat) (x1 : Int32) (μ : Sg) : Option Sg := match n with
  | 0 => none
  | n + 1 => if 1475 ≤ x1 then (nm (up2 μ 20 3 ((μ 20 3) - 1)) fun u8 => fX7_save_L52 1600 0 u8) else (gd (¬ ((295 + x1) < 0 ∨ 1770 ≤ ((295 + x1)).toNatClampNeg)) <| gd (¬ (x1 < 0 ∨ 1770 ≤ (x1).toNatClampNeg)) <| nm (up2 μ 1 ((x1).toNatClampNeg) (μ 1 ((295 + x1)).toNatClampNeg)) fun u11 => nm (x1 + 1) fun x1_12 => (fun x1 μ => fX7_save_L11 n x1 μ) x1_12 u11)
def fX7_save (μ : Sg) : Option Sg := if (μ 20 3) = 6 then (fX7_save_L11 1600 0 μ) else (fX7_save_L52 1600 0 μ)
set_option maxHeartbeats 4000000 in
set_option maxRecDepth 100000 in
theorem mX7_save (l : Launch) {E : En} {σ μ : Sg} {dg : Int64}   {μ' : Sg} (hf : fX7_save μ = some μ') : Met l yX7_save [.code yX7_save cX7_save 2 none] (Rm 0 0) (va_Pc [.ref (eA E 9)] (Wd E σ μ dg)) (Qv E σ μ' dg) 0 0 (eP E) := by
  refine ss_of (by decide) (Nat.le_of_ble_eq_true rfl) (fun p e s m below meth c hx hb hr hlk hml hown hK hW ls hl => ?_)
  have hown : s.vm.findClass RX7 = some m.cls := hown
  have hl : lv_has ls 2 [(0, .ref (eA E 9))] := hl
  unfold fX7_save at hf
  have h52 : ∀ (n52 : Nat) (x1 : Int32) (μ : Sg) (H : Heap) (locs : List Loc) (ls : Array Slot), Wk E σ μ dg s H locs → lv_has ls 2 [(0, .ref (eA E 9)), (1, .int x1)] → fX7_save_L52 n52 x1 μ = some μ' → W p l e (Rm 0 0) s m [.ref (eA E 9)].toArray below meth c H locs 0 0 (MQ below (Qv E σ μ' dg) [.ref (eA E 9)].toArray s 0 0 (eP E)) (F0 m 52 ls []) := by
    intro n52
    induction n52 with
    | zero =>
      intro x1 μ  H locs ls hW hl hf
      exact absurd hf (by simp [fX7_save_L52])
    | succ n52 ih52 =>
      intro x1 μ  H locs ls hW hl hf
      rw [fX7_save_L52] at hf
      refine lv_iload_n hx hb dX7_save_52 rfl (lv_at hl 1 rfl) ?_
      refine lv_sipush (v := 295) hx hb dX7_save_53 (by decide) ?_
      refine lv_icmp_ge (tgt := 86) hx hb dX7_save_56 (by decide) (fun c1 => ?_) (fun c1 => ?_)
      · have hf := br_p c1 hf
        refine lv_aload_n hx hb dX7_save_86 rfl (lv_at hl 0 rfl) ?_
        refine lv_dup hx hb dX7_save_87 rfl ?_
        refine g_M_savedMany hx hb hown hK hW kF_RX7_48 dX7_save_88 ?_
        refine lv_iconst (v := 1) hx hb dX7_save_91 (by decide) ?_
        refine lv_iadd hx hb dX7_save_92 ?_
        refine p_M_savedMany hx hb hown hK hW kF_RX7_48 dX7_save_93 (fun H locs hW => ?_)
        obtain ⟨u2, eu2⟩ : ∃ y : Sg, y = (up2 μ 20 3 ((μ 20 3) + 1)) := ⟨_, rfl⟩
        have hf := nm_use eu2 hf
        rw [← eu2] at hW
        cases hf
        exact ss_vret hx hb hr hlk hW dX7_save_96
      · have hf := br_n c1 hf
        refine lv_aload_n hx hb dX7_save_59 rfl (lv_at hl 0 rfl) ?_
        refine g_M_saved hx hb hown hK hW kF_RX7_13 dX7_save_60 ?_
        refine lv_sipush (v := 295) hx hb dX7_save_63 (by decide) ?_
        refine lv_aload_n hx hb dX7_save_66 rfl (lv_at hl 0 rfl) ?_
        refine g_M_savedMany hx hb hown hK hW kF_RX7_48 dX7_save_67 ?_
        refine lv_imul hx hb dX7_save_70 ?_
        refine lv_iload_n hx hb dX7_save_71 rfl (lv_at hl 1 rfl) ?_
        refine lv_iadd hx hb dX7_save_72 ?_
        refine lv_aload_n hx hb dX7_save_73 rfl (lv_at hl 0 rfl) ?_
        refine g_M_s hx hb hown hK hW kF_RX7_7 dX7_save_74 ?_
        refine lv_iload_n hx hb dX7_save_77 rfl (lv_at hl 1 rfl) ?_
        obtain ⟨hk3, hf⟩ := gd_inv hf
        refine l_M0 hx hb hK hW rfl hk3 dX7_save_78 ?_
        obtain ⟨hk4, hf⟩ := gd_inv hf
        refine s_M1 hx hb hK hW rfl hk4 dX7_save_79 (fun H locs hW => ?_)
        obtain ⟨u5, eu5⟩ : ∃ y : Sg, y = (up2 μ 1 ((((295 * (μ 20 3)) + x1)).toNatClampNeg) (μ 0 (x1).toNatClampNeg)) := ⟨_, rfl⟩
        have hf := nm_use eu5 hf
        rw [← eu5] at hW
        obtain ⟨x1_6, ex1_6⟩ : ∃ y : Int32, y = (x1 + 1) := ⟨_, rfl⟩
        have hf := nm_use ex1_6 hf
        refine lv_iinc (v := x1_6) (lv' := [(1, .int x1_6), (0, .ref (eA E 9))]) hx hb dX7_save_80 hl (k := 1) rfl (by rw [ex1_6]; rfl) (by decide) rfl (fun ls hl => ?_)
        refine lv_goto (tgt := 52) hx hb dX7_save_83 (by decide) ?_
        exact ih52 x1_6 u5 _ _ _ hW (lv_sub hl [1, 0] rfl) hf
  have h11 : ∀ (n11 : Nat) (x1 : Int32) (μ : Sg) (H : Heap) (locs : List Loc) (ls : Array Slot), Wk E σ μ dg s H locs → lv_has ls 2 [(0, .ref (eA E 9)), (1, .int x1)] → fX7_save_L11 n11 x1 μ = some μ' → W p l e (Rm 0 0) s m [.ref (eA E 9)].toArray below meth c H locs 0 0 (MQ below (Qv E σ μ' dg) [.ref (eA E 9)].toArray s 0 0 (eP E)) (F0 m 11 ls []) := by
    intro n11
    induction n11 with
    | zero =>
      intro x1 μ  H locs ls hW hl hf
      exact absurd hf (by simp [fX7_save_L11])
    | succ n11 ih11 =>
      intro x1 μ  H locs ls hW hl hf
      rw [fX7_save_L11] at hf
      refine lv_iload_n hx hb dX7_save_11 rfl (lv_at hl 1 rfl) ?_
      refine lv_sipush (v := 1475) hx hb dX7_save_12 (by decide) ?_
      refine lv_icmp_ge (tgt := 40) hx hb dX7_save_15 (by decide) (fun c7 => ?_) (fun c7 => ?_)
      · have hf := br_p c7 hf
        refine lv_aload_n hx hb dX7_save_40 rfl (lv_at hl 0 rfl) ?_
        refine lv_dup hx hb dX7_save_41 rfl ?_
        refine g_M_savedMany hx hb hown hK hW kF_RX7_48 dX7_save_42 ?_
        refine lv_iconst (v := 1) hx hb dX7_save_45 (by decide) ?_
        refine lv_isub hx hb dX7_save_46 ?_
        refine p_M_savedMany hx hb hown hK hW kF_RX7_48 dX7_save_47 (fun H locs hW => ?_)
        obtain ⟨u8, eu8⟩ : ∃ y : Sg, y = (up2 μ 20 3 ((μ 20 3) - 1)) := ⟨_, rfl⟩
        have hf := nm_use eu8 hf
        rw [← eu8] at hW
        refine lv_iconst (v := 0) hx hb dX7_save_50 (by decide) ?_
        refine lv_istore_n (lv' := [(1, .int 0), (0, .ref (eA E 9))]) hx hb dX7_save_51 rfl hl (by decide) rfl (fun ls hl => ?_)
        exact h52 1600 0 u8 _ _ _ hW (lv_sub hl [1, 0] rfl) hf
      · have hf := br_n c7 hf
        refine lv_aload_n hx hb dX7_save_18 rfl (lv_at hl 0 rfl) ?_
        refine g_M_saved hx hb hown hK hW kF_RX7_13 dX7_save_19 ?_
        refine lv_iload_n hx hb dX7_save_22 rfl (lv_at hl 1 rfl) ?_
        refine lv_aload_n hx hb dX7_save_23 rfl (lv_at hl 0 rfl) ?_
        refine g_M_saved hx hb hown hK hW kF_RX7_13 dX7_save_24 ?_
        refine lv_sipush (v := 295) hx hb dX7_save_27 (by decide) ?_
        refine lv_iload_n hx hb dX7_save_30 rfl (lv_at hl 1 rfl) ?_
        refine lv_iadd hx hb dX7_save_31 ?_
        obtain ⟨hk9, hf⟩ := gd_inv hf
        refine l_M1 hx hb hK hW rfl hk9 dX7_save_32 ?_
        obtain ⟨hk10, hf⟩ := gd_inv hf
        refine s_M1 hx hb hK hW rfl hk10 dX7_save_33 (fun H locs hW => ?_)
        obtain ⟨u11, eu11⟩ : ∃ y : Sg, y = (up2 μ 1 ((x1).toNatClampNeg) (μ 1 ((295 + x1)).toNatClampNeg)) := ⟨_, rfl⟩
        have hf := nm_use eu11 hf
        rw [← eu11] at hW
        obtain ⟨x1_12, ex1_12⟩ : ∃ y : Int32, y = (x1 + 1) := ⟨_, rfl⟩
        have hf := nm_use ex1_12 hf
        refine lv_iinc (v := x1_12) (lv' := [(1, .int x1_12), (0, .ref (eA E 9))]) hx hb dX7_save_34 hl (k := 1) rfl (by rw [ex1_12]; rfl) (by decide) rfl (fun ls hl => ?_)
        refine lv_goto (tgt := 11) hx hb dX7_save_37 (by decide) ?_
        exact ih11 x1_12 u11 _ _ _ hW (lv_sub hl [1, 0] rfl) hf
  refine lv_aload_n hx hb dX7_save_0 rfl (lv_at hl 0 rfl) ?_
  refine g_M_savedMany hx hb hown hK hW kF_RX7_48 dX7_save_1 ?_
  refine lv_bipush (v := 6) hx hb dX7_save_4 (by decide) ?_
  refine lv_icmp_ne (tgt := 50) hx hb dX7_save_6 (by decide) (fun c13 => ?_) (fun c13 => ?_)
  · have hf := br_n c13 hf
    refine lv_iconst (v := 0) hx hb dX7_save_50 (by decide) ?_
    refine lv_istore_n (lv' := [(1, .int 0), (0, .ref (eA E 9))]) hx hb dX7_save_51 rfl hl (by decide) rfl (fun ls hl => ?_)
    exact h52 1600 0 μ _ _ _ hW (lv_sub hl [1, 0] rfl) hf
  · have hf := br_p c13 hf
    refine lv_iconst (v := 0) hx hb dX7_save_9 (by decide) ?_
    refine lv_istore_n (lv' := [(1, .int 0), (0, .ref (eA E 9))]) hx hb dX7_save_10 rfl hl (by decide) rfl (fun ls hl => ?_)
    exact h11 1600 0 μ _ _ _ hW (lv_sub hl [1, 0] rfl) hf
def fX7_shape_b40 (a0 : Int32) (a1 : Int32) (a2 : Int32) (a3 : Int32) (k0 : Int32) : Option Int32 := if a0 = 1 then (gd (¬ a2 = 0) <| some ((a1 * ((2 * a3) - a2)) / a2)) else (gd (¬ a2 = 0) <| some ((a1 * ((4 * k0) - a2)) / a2))
def fX7_shape (a0 : Int32) (a1 : Int32) (a2 : Int32) (a3 : Int32) : Option Int32 := if a0 = 0 then (if a2 ≤ (2 * a3) then (some (-a1)) else (some a1)) else (nm (a2 / 2) fun x4_5 => if x4_5 ≤ a3 then (fX7_shape_b40 a0 a1 a2 a3 (a3 - x4_5)) else (fX7_shape_b40 a0 a1 a2 a3 (x4_5 - a3)))
set_option maxHeartbeats 4000000 in
set_option maxRecDepth 100000 in
theorem mX7_shape (l : Launch) {E : En} {σ μ : Sg} {dg : Int64} {a0 : Int32} {a1 : Int32} {a2 : Int32} {a3 : Int32}  {r : Int32} (hf : fX7_shape a0 a1 a2 a3 = some r) : Met l yX7_shape [.code yX7_shape cX7_shape 6 (some .int)] (Rm 0 0) (va_Pc [.int a0, .int a1, .int a2, .int a3] (Wd E σ μ dg)) (Qi E σ μ dg r) 0 0 (eP E) := by
  refine ss_of (by decide) (Nat.le_of_ble_eq_true rfl) (fun p e s m below meth c hx hb hr hlk hml hown hK hW ls hl => ?_)
  have hown : s.vm.findClass RX7 = some m.cls := hown
  have hl : lv_has ls 6 [(0, .int a0), (1, .int a1), (2, .int a2), (3, .int a3)] := hl
  unfold fX7_shape at hf
  have h40 : ∀ (k0 : Int32) (H : Heap) (locs : List Loc) (ls : Array Slot), Wk E σ μ dg s H locs → lv_has ls 6 [(0, .int a0), (1, .int a1), (2, .int a2), (3, .int a3)] → fX7_shape_b40 a0 a1 a2 a3 k0 = some r → W p l e (Rm 0 0) s m [.int a0, .int a1, .int a2, .int a3].toArray below meth c H locs 0 0 (MQ below (Qi E σ μ dg r) [.int a0, .int a1, .int a2, .int a3].toArray s 0 0 (eP E)) (F0 m 40 ls [.int k0]) := by
    intro k0  H locs ls hW hl hf
    unfold fX7_shape_b40 at hf
    refine lv_istore (lv' := [(5, .int k0), (0, .int a0), (1, .int a1), (2, .int a2), (3, .int a3)]) hx hb dX7_shape_40 hl (by decide) rfl (fun ls hl => ?_)
    refine lv_iload_n hx hb dX7_shape_42 rfl (lv_at hl 2 rfl) ?_
    refine lv_iload_n hx hb dX7_shape_43 rfl (lv_at hl 1 rfl) ?_
    refine lv_iconst (v := 1) hx hb dX7_shape_44 (by decide) ?_
    refine lv_icmp_ne (tgt := 56) hx hb dX7_shape_45 (by decide) (fun c1 => ?_) (fun c1 => ?_)
    · have hf := br_n c1 hf
      refine lv_iconst (v := 4) hx hb dX7_shape_56 (by decide) ?_
      refine lv_iload hx hb dX7_shape_57 (lv_at hl 0 rfl) ?_
      refine lv_imul hx hb dX7_shape_59 ?_
      refine lv_iload_n hx hb dX7_shape_60 rfl (lv_at hl 3 rfl) ?_
      refine lv_isub hx hb dX7_shape_61 ?_
      refine lv_imul hx hb dX7_shape_62 ?_
      refine lv_iload_n hx hb dX7_shape_63 rfl (lv_at hl 3 rfl) ?_
      obtain ⟨hz2, hf⟩ := gd_inv hf
      refine lv_idiv hx hb dX7_shape_64 hz2 ?_
      exact ss_iret hx hb hr hlk hW (Option.some.inj hf) dX7_shape_65
    · have hf := br_p c1 hf
      refine lv_iconst (v := 2) hx hb dX7_shape_48 (by decide) ?_
      refine lv_iload_n hx hb dX7_shape_49 rfl (lv_at hl 4 rfl) ?_
      refine lv_imul hx hb dX7_shape_50 ?_
      refine lv_iload_n hx hb dX7_shape_51 rfl (lv_at hl 3 rfl) ?_
      refine lv_isub hx hb dX7_shape_52 ?_
      refine lv_goto (tgt := 62) hx hb dX7_shape_53 (by decide) ?_
      refine lv_imul hx hb dX7_shape_62 ?_
      refine lv_iload_n hx hb dX7_shape_63 rfl (lv_at hl 3 rfl) ?_
      obtain ⟨hz3, hf⟩ := gd_inv hf
      refine lv_idiv hx hb dX7_shape_64 hz3 ?_
      exact ss_iret hx hb hr hlk hW (Option.some.inj hf) dX7_shape_65
  refine lv_iload_n hx hb dX7_shape_0 rfl (lv_at hl 0 rfl) ?_
  refine lv_if_ne (tgt := 18) hx hb dX7_shape_1 (by decide) (fun c4 => ?_) (fun c4 => ?_)
  · have hf := br_n c4 hf
    refine lv_iload_n hx hb dX7_shape_18 rfl (lv_at hl 2 rfl) ?_
    refine lv_iconst (v := 2) hx hb dX7_shape_19 (by decide) ?_
    refine lv_idiv hx hb dX7_shape_20 (by decide) ?_
    refine lv_topi (fun x4_5 ex4_5 => ?_)
    have hf := nm_use ex4_5 hf
    refine lv_istore (lv' := [(4, .int x4_5), (0, .int a0), (1, .int a1), (2, .int a2), (3, .int a3)]) hx hb dX7_shape_21 hl (by decide) rfl (fun ls hl => ?_)
    refine lv_iload_n hx hb dX7_shape_23 rfl (lv_at hl 4 rfl) ?_
    refine lv_iload hx hb dX7_shape_24 (lv_at hl 0 rfl) ?_
    refine lv_icmp_ge (tgt := 36) hx hb dX7_shape_26 (by decide) (fun c6 => ?_) (fun c6 => ?_)
    · have hf := br_p c6 hf
      refine lv_iload_n hx hb dX7_shape_36 rfl (lv_at hl 4 rfl) ?_
      refine lv_iload hx hb dX7_shape_37 (lv_at hl 0 rfl) ?_
      refine lv_isub hx hb dX7_shape_39 ?_
      exact h40 (a3 - x4_5) _ _ _ hW (lv_sub hl [1, 2, 3, 4] rfl) hf
    · have hf := br_n c6 hf
      refine lv_iload hx hb dX7_shape_29 (lv_at hl 0 rfl) ?_
      refine lv_iload_n hx hb dX7_shape_31 rfl (lv_at hl 4 rfl) ?_
      refine lv_isub hx hb dX7_shape_32 ?_
      refine lv_goto (tgt := 40) hx hb dX7_shape_33 (by decide) ?_
      exact h40 (x4_5 - a3) _ _ _ hW (lv_sub hl [1, 2, 3, 4] rfl) hf
  · have hf := br_p c4 hf
    refine lv_iconst (v := 2) hx hb dX7_shape_4 (by decide) ?_
    refine lv_iload_n hx hb dX7_shape_5 rfl (lv_at hl 3 rfl) ?_
    refine lv_imul hx hb dX7_shape_6 ?_
    refine lv_iload_n hx hb dX7_shape_7 rfl (lv_at hl 2 rfl) ?_
    refine lv_icmp_ge (tgt := 15) hx hb dX7_shape_8 (by decide) (fun c7 => ?_) (fun c7 => ?_)
    · have hf := br_p c7 hf
      refine lv_iload_n hx hb dX7_shape_15 rfl (lv_at hl 1 rfl) ?_
      refine lv_ineg hx hb dX7_shape_16 ?_
      exact ss_iret hx hb hr hlk hW (Option.some.inj hf) dX7_shape_17
    · have hf := br_n c7 hf
      refine lv_iload_n hx hb dX7_shape_11 rfl (lv_at hl 1 rfl) ?_
      refine lv_goto (tgt := 17) hx hb dX7_shape_12 (by decide) ?_
      exact ss_iret hx hb hr hlk hW (Option.some.inj hf) dX7_shape_17
def fX7_clipped (a0 : Int32) : Option Int32 := if (-2048) ≤ a0 then (if a0 ≤ 2047 then (some a0) else (some 2047)) else (some (-2048))
set_option maxHeartbeats 4000000 in
set_option maxRecDepth 100000 in
theorem mX7_clipped (l : Launch) {E : En} {σ μ : Sg} {dg : Int64} {a0 : Int32}  {r : Int32} (hf : fX7_clipped a0 = some r) : Met l yX7_clipped [.code yX7_clipped cX7_clipped 1 (some .int)] (Rm 0 0) (va_Pc [.int a0] (Wd E σ μ dg)) (Qi E σ μ dg r) 0 0 (eP E) := by
  refine ss_of (by decide) (Nat.le_of_ble_eq_true rfl) (fun p e s m below meth c hx hb hr hlk hml hown hK hW ls hl => ?_)
  have hown : s.vm.findClass RX7 = some m.cls := hown
  have hl : lv_has ls 1 [(0, .int a0)] := hl
  unfold fX7_clipped at hf
  refine lv_iload_n hx hb dX7_clipped_0 rfl (lv_at hl 0 rfl) ?_
  refine lv_sipush (v := (-2048)) hx hb dX7_clipped_1 (by decide) ?_
  refine lv_icmp_ge (tgt := 13) hx hb dX7_clipped_4 (by decide) (fun c1 => ?_) (fun c1 => ?_)
  · have hf := br_p c1 hf
    refine lv_iload_n hx hb dX7_clipped_13 rfl (lv_at hl 0 rfl) ?_
    refine lv_sipush (v := 2047) hx hb dX7_clipped_14 (by decide) ?_
    refine lv_icmp_le (tgt := 26) hx hb dX7_clipped_17 (by decide) (fun c2 => ?_) (fun c2 => ?_)
    · have hf := br_p c2 hf
      refine lv_iload_n hx hb dX7_clipped_26 rfl (lv_at hl 0 rfl) ?_
      exact ss_iret hx hb hr hlk hW (Option.some.inj hf) dX7_clipped_27
    · have hf := br_n c2 hf
      refine lv_sipush (v := 2047) hx hb dX7_clipped_20 (by decide) ?_
      refine lv_goto (tgt := 27) hx hb dX7_clipped_23 (by decide) ?_
      exact ss_iret hx hb hr hlk hW (Option.some.inj hf) dX7_clipped_27
  · have hf := br_n c1 hf
    refine lv_sipush (v := (-2048)) hx hb dX7_clipped_7 (by decide) ?_
    refine lv_goto (tgt := 27) hx hb dX7_clipped_10 (by decide) ?_
    exact ss_iret hx hb hr hlk hW (Option.some.inj hf) dX7_clipped_27
def fX7_notCoded_L9  (n : Nat) (x1 : Int32) (μ : Sg) : Option Sg := match n with
  | 0 => none
  | n + 1 => if 32 ≤ x1 then (some μ) else (gd (¬ ((263 + x1) < 0 ∨ 295 ≤ ((263 + x1)).toNatClampNeg)) <| nm (up2 μ 0 (((263 + x1)).toNatClampNeg) 0) fun u3 => nm (x1 + 1) fun x1_4 => (fun x1 μ => fX7_notCoded_L9 n x1 μ) x1_4 u3)
def fX7_notCoded (μ : Sg) : Option Sg := nm (up2 μ 0 1 0) fun u5 => fX7_notCoded_L9 80 0 u5
set_option maxHeartbeats 4000000 in
set_option maxRecDepth 100000 in
theorem mX7_notCoded (l : Launch) {E : En} {σ μ : Sg} {dg : Int64}   {μ' : Sg} (hf : fX7_notCoded μ = some μ') : Met l yX7_notCoded [.code yX7_notCoded cX7_notCoded 2 none] (Rm 0 0) (va_Pc [.ref (eA E 9)] (Wd E σ μ dg)) (Qv E σ μ' dg) 0 0 (eP E) := by
  refine ss_of (by decide) (Nat.le_of_ble_eq_true rfl) (fun p e s m below meth c hx hb hr hlk hml hown hK hW ls hl => ?_)
  have hown : s.vm.findClass RX7 = some m.cls := hown
  have hl : lv_has ls 2 [(0, .ref (eA E 9))] := hl
  unfold fX7_notCoded at hf
  have h9 : ∀ (n9 : Nat) (x1 : Int32) (μ : Sg) (H : Heap) (locs : List Loc) (ls : Array Slot), Wk E σ μ dg s H locs → lv_has ls 2 [(0, .ref (eA E 9)), (1, .int x1)] → fX7_notCoded_L9 n9 x1 μ = some μ' → W p l e (Rm 0 0) s m [.ref (eA E 9)].toArray below meth c H locs 0 0 (MQ below (Qv E σ μ' dg) [.ref (eA E 9)].toArray s 0 0 (eP E)) (F0 m 9 ls []) := by
    intro n9
    induction n9 with
    | zero =>
      intro x1 μ  H locs ls hW hl hf
      exact absurd hf (by simp [fX7_notCoded_L9])
    | succ n9 ih9 =>
      intro x1 μ  H locs ls hW hl hf
      rw [fX7_notCoded_L9] at hf
      refine lv_iload_n hx hb dX7_notCoded_9 rfl (lv_at hl 1 rfl) ?_
      refine lv_bipush (v := 32) hx hb dX7_notCoded_10 (by decide) ?_
      refine lv_icmp_ge (tgt := 32) hx hb dX7_notCoded_12 (by decide) (fun c1 => ?_) (fun c1 => ?_)
      · have hf := br_p c1 hf
        cases hf
        exact ss_vret hx hb hr hlk hW dX7_notCoded_32
      · have hf := br_n c1 hf
        refine lv_aload_n hx hb dX7_notCoded_15 rfl (lv_at hl 0 rfl) ?_
        refine g_M_s hx hb hown hK hW kF_RX7_7 dX7_notCoded_16 ?_
        refine lv_sipush (v := 263) hx hb dX7_notCoded_19 (by decide) ?_
        refine lv_iload_n hx hb dX7_notCoded_22 rfl (lv_at hl 1 rfl) ?_
        refine lv_iadd hx hb dX7_notCoded_23 ?_
        refine lv_iconst (v := 0) hx hb dX7_notCoded_24 (by decide) ?_
        obtain ⟨hk2, hf⟩ := gd_inv hf
        refine s_M0 hx hb hK hW rfl hk2 dX7_notCoded_25 (fun H locs hW => ?_)
        obtain ⟨u3, eu3⟩ : ∃ y : Sg, y = (up2 μ 0 (((263 + x1)).toNatClampNeg) 0) := ⟨_, rfl⟩
        have hf := nm_use eu3 hf
        rw [← eu3] at hW
        obtain ⟨x1_4, ex1_4⟩ : ∃ y : Int32, y = (x1 + 1) := ⟨_, rfl⟩
        have hf := nm_use ex1_4 hf
        refine lv_iinc (v := x1_4) (lv' := [(1, .int x1_4), (0, .ref (eA E 9))]) hx hb dX7_notCoded_26 hl (k := 1) rfl (by rw [ex1_4]; rfl) (by decide) rfl (fun ls hl => ?_)
        refine lv_goto (tgt := 9) hx hb dX7_notCoded_29 (by decide) ?_
        exact ih9 x1_4 u3 _ _ _ hW (lv_sub hl [1, 0] rfl) hf
  refine lv_aload_n hx hb dX7_notCoded_0 rfl (lv_at hl 0 rfl) ?_
  refine g_M_s hx hb hown hK hW kF_RX7_7 dX7_notCoded_1 ?_
  refine lv_iconst (v := 1) hx hb dX7_notCoded_4 (by decide) ?_
  refine lv_iconst (v := 0) hx hb dX7_notCoded_5 (by decide) ?_
  refine s_M0 (k0 := 1) hx hb hK hW (by decide) (show ¬ ((1 : Int32) < 0 ∨ 295 ≤ (1 : Int32).toNatClampNeg) by decide) dX7_notCoded_6 (fun H locs hW => ?_)
  obtain ⟨u5, eu5⟩ : ∃ y : Sg, y = (up2 μ 0 1 0) := ⟨_, rfl⟩
  have hf := nm_use eu5 hf
  rw [← eu5] at hW
  refine lv_iconst (v := 0) hx hb dX7_notCoded_7 (by decide) ?_
  refine lv_istore_n (lv' := [(1, .int 0), (0, .ref (eA E 9))]) hx hb dX7_notCoded_8 rfl hl (by decide) rfl (fun ls hl => ?_)
  exact h9 80 0 u5 _ _ _ hW (lv_sub hl [1, 0] rfl) hf
def fX7_add_b105 (a1 : Int32) (a2 : Int32) (a3 : Int32) (k54 : Int32 → Int32 → Sg → Option (Int32 × Sg)) (x5 : Int32) (x6 : Int32) (k0 : Int32) (k1 : Int32) (μ : Sg) : Option (Int32 × Sg) := nm (k1 + k0) fun x4_1 => bd (fX7_clipped x6) fun r3 => gd (¬ ((7 + x5) < 0 ∨ 295 ≤ ((7 + x5)).toNatClampNeg)) <| nm (up2 μ 0 (((7 + x5)).toNatClampNeg) r3) fun u5 => nm (x5 + 1) fun x5_6 => k54 x4_1 x5_6 u5
def fX7_add_L54 (a1 : Int32) (a2 : Int32) (a3 : Int32) (n : Nat) (x4 : Int32) (x5 : Int32) (μ : Sg) : Option (Int32 × Sg) := match n with
  | 0 => none
  | n + 1 => if (μ 0 0) ≤ x5 then (bd (fX7_notCoded μ) fun u9 => some (x4, u9)) else (gd (¬ ((7 + x5) < 0 ∨ 295 ≤ ((7 + x5)).toNatClampNeg)) <| gd (¬ a3 = 0) <| bd (fX7_shape a1 a2 a3 (x5 - x5 / a3 * a3)) fun r13 => nm ((μ 0 ((7 + x5)).toNatClampNeg) + r13) fun x6_14 => bd (fX7_clipped x6_14) fun r16 => if x6_14 = r16 then (fX7_add_b105 a1 a2 a3 (fun x4 x5 μ => fX7_add_L54 a1 a2 a3 n x4 x5 μ) x5 x6_14 0 x4 μ) else (fX7_add_b105 a1 a2 a3 (fun x4 x5 μ => fX7_add_L54 a1 a2 a3 n x4 x5 μ) x5 x6_14 1 x4 μ))
def fX7_add_b36 (a1 : Int32) (a2 : Int32) (a3 : Int32) (k0 : Int32) (μ : Sg) : Option (Int32 × Sg) := bd2 (fX7_holds k0 μ) fun r19 u20 => if r19 = 0 then (some (0, u20)) else (bd (fX7_save u20) fun u23 => fX7_add_L54 a1 a2 a3 80 0 0 u23)
def fX7_add_b35 (a1 : Int32) (a2 : Int32) (a3 : Int32) (μ : Sg) : Option (Int32 × Sg) := fX7_add_b36 a1 a2 a3 1 μ
def fX7_add (a1 : Int32) (a2 : Int32) (a3 : Int32) (μ : Sg) : Option (Int32 × Sg) := bd (fX7_in a1 0 2) fun r25 => if r25 = 0 then (fX7_add_b35 a1 a2 a3 μ) else (bd (fX7_in a2 0 2047) fun r28 => if r28 = 0 then (fX7_add_b35 a1 a2 a3 μ) else (bd (fX7_in a3 1 64) fun r31 => if r31 = 0 then (fX7_add_b35 a1 a2 a3 μ) else (fX7_add_b36 a1 a2 a3 0 μ)))
set_option maxHeartbeats 4000000 in
set_option maxRecDepth 100000 in
theorem mX7_add (l : Launch) {E : En} {σ μ : Sg} {dg : Int64} {a1 : Int32} {a2 : Int32} {a3 : Int32}  {r : Int32} {μ' : Sg} (hf : fX7_add a1 a2 a3 μ = some (r, μ')) : Met l yX7_add [.code yX7_add cX7_add 7 (some .int)] (Rm 1 25) (va_Pc [.ref (eA E 9), .int a1, .int a2, .int a3] (Wd E σ μ dg)) (Qi E σ μ' dg r) 0 0 (eP E) := by
  refine ss_of (by decide) (Nat.le_of_ble_eq_true rfl) (fun p e s m below meth c hx hb hr hlk hml hown hK hW ls hl => ?_)
  have hown : s.vm.findClass RX7 = some m.cls := hown
  have hl : lv_has ls 7 [(0, .ref (eA E 9)), (1, .int a1), (2, .int a2), (3, .int a3)] := hl
  unfold fX7_add at hf
  have h54 : ∀ (n54 : Nat) (x4 : Int32) (x5 : Int32) (μ : Sg) (H : Heap) (locs : List Loc) (ls : Array Slot), Wk E σ μ dg s H locs → lv_has ls 7 [(0, .ref (eA E 9)), (1, .int a1), (2, .int a2), (3, .int a3), (4, .int x4), (5, .int x5)] → fX7_add_L54 a1 a2 a3 n54 x4 x5 μ = some (r, μ') → W p l e (Rm 1 25) s m [.ref (eA E 9), .int a1, .int a2, .int a3].toArray below meth c H locs 0 0 (MQ below (Qi E σ μ' dg r) [.ref (eA E 9), .int a1, .int a2, .int a3].toArray s 0 0 (eP E)) (F0 m 54 ls []) := by
    intro n54
    induction n54 with
    | zero =>
      intro x4 x5 μ  H locs ls hW hl hf
      exact absurd hf (by simp [fX7_add_L54])
    | succ n54 ih54 =>
      have h105 : ∀ (x5 : Int32) (x6 : Int32) (k0 : Int32) (k1 : Int32) (μ : Sg) (H : Heap) (locs : List Loc) (ls : Array Slot), Wk E σ μ dg s H locs → lv_has ls 7 [(0, .ref (eA E 9)), (1, .int a1), (2, .int a2), (3, .int a3), (5, .int x5), (6, .int x6)] → fX7_add_b105 a1 a2 a3 (fun x4 x5 μ => fX7_add_L54 a1 a2 a3 n54 x4 x5 μ) x5 x6 k0 k1 μ = some (r, μ') → W p l e (Rm 1 25) s m [.ref (eA E 9), .int a1, .int a2, .int a3].toArray below meth c H locs 0 0 (MQ below (Qi E σ μ' dg r) [.ref (eA E 9), .int a1, .int a2, .int a3].toArray s 0 0 (eP E)) (F0 m 105 ls [.int k0, .int k1]) := by
        intro x5 x6 k0 k1 μ  H locs ls hW hl hf
        unfold fX7_add_b105 at hf
        refine lv_iadd hx hb dX7_add_105 ?_
        refine lv_topi (fun x4_1 ex4_1 => ?_)
        have hf := nm_use ex4_1 hf
        refine lv_istore (lv' := [(4, .int x4_1), (0, .ref (eA E 9)), (1, .int a1), (2, .int a2), (3, .int a3), (5, .int x5), (6, .int x6)]) hx hb dX7_add_106 hl (by decide) rfl (fun ls hl => ?_)
        refine lv_aload_n hx hb dX7_add_108 rfl (lv_at hl 1 rfl) ?_
        refine g_M_s hx hb hown hK hW kF_RX7_7 dX7_add_109 ?_
        refine lv_bipush (v := 7) hx hb dX7_add_112 (by decide) ?_
        refine lv_iload hx hb dX7_add_114 (lv_at hl 5 rfl) ?_
        refine lv_iadd hx hb dX7_add_116 ?_
        refine lv_iload hx hb dX7_add_117 (lv_at hl 6 rfl) ?_
        obtain ⟨r3, q2, hf⟩ := bd_inv hf
        refine ss_callSi (As := [.int x6]) hx hb hml hown hK hW kb_X7_clipped kM_RX7_67 (mX7_clipped l (a0 := x6) q2) rfl dX7_add_119 rfl hl.1 (Nat.le_of_ble_eq_true rfl) ⟨Nat.le_of_ble_eq_true rfl, Nat.le_of_ble_eq_true rfl⟩ ⟨Nat.zero_le _, Nat.zero_le _⟩ (fun H locs hW => ?_)
        obtain ⟨hk4, hf⟩ := gd_inv hf
        refine s_M0 hx hb hK hW rfl hk4 dX7_add_122 (fun H locs hW => ?_)
        obtain ⟨u5, eu5⟩ : ∃ y : Sg, y = (up2 μ 0 (((7 + x5)).toNatClampNeg) r3) := ⟨_, rfl⟩
        have hf := nm_use eu5 hf
        rw [← eu5] at hW
        obtain ⟨x5_6, ex5_6⟩ : ∃ y : Int32, y = (x5 + 1) := ⟨_, rfl⟩
        have hf := nm_use ex5_6 hf
        refine lv_iinc (v := x5_6) (lv' := [(5, .int x5_6), (4, .int x4_1), (0, .ref (eA E 9)), (1, .int a1), (2, .int a2), (3, .int a3), (6, .int x6)]) hx hb dX7_add_123 hl (k := 5) rfl (by rw [ex5_6]; rfl) (by decide) rfl (fun ls hl => ?_)
        refine lv_goto (tgt := 54) hx hb dX7_add_126 (by decide) ?_
        exact ih54 x4_1 x5_6 u5 _ _ _ hW (lv_sub hl [2, 3, 4, 5, 1, 0] rfl) hf
      intro x4 x5 μ  H locs ls hW hl hf
      rw [fX7_add_L54] at hf
      refine lv_iload hx hb dX7_add_54 (lv_at hl 5 rfl) ?_
      refine lv_aload_n hx hb dX7_add_56 rfl (lv_at hl 0 rfl) ?_
      refine g_M_s hx hb hown hK hW kF_RX7_7 dX7_add_57 ?_
      refine lv_iconst (v := 0) hx hb dX7_add_60 (by decide) ?_
      refine l_M0 (k0 := 0) hx hb hK hW (by decide) (show ¬ ((0 : Int32) < 0 ∨ 295 ≤ (0 : Int32).toNatClampNeg) by decide) dX7_add_61 ?_
      refine lv_icmp_ge (tgt := 129) hx hb dX7_add_62 (by decide) (fun c7 => ?_) (fun c7 => ?_)
      · have hf := br_p c7 hf
        refine lv_aload_n hx hb dX7_add_129 rfl (lv_at hl 0 rfl) ?_
        obtain ⟨u9, q8, hf⟩ := bd_inv hf
        refine ss_callVv (As := []) hx hb hml hown hK hW kb_X7_notCoded kM_RX7_103 rfl (by decide) (c_fx (by decide)) (mX7_notCoded l  q8) rfl dX7_add_130 rfl hl.1 (Nat.le_of_ble_eq_true rfl) ⟨Nat.le_of_ble_eq_true rfl, Nat.le_of_ble_eq_true rfl⟩ ⟨Nat.zero_le _, Nat.zero_le _⟩ (fun H locs hW => ?_)
        refine lv_iload hx hb dX7_add_133 (lv_at hl 4 rfl) ?_
        cases hf
        exact ss_iret hx hb hr hlk hW rfl dX7_add_135
      · have hf := br_n c7 hf
        refine lv_aload_n hx hb dX7_add_65 rfl (lv_at hl 0 rfl) ?_
        refine g_M_s hx hb hown hK hW kF_RX7_7 dX7_add_66 ?_
        refine lv_bipush (v := 7) hx hb dX7_add_69 (by decide) ?_
        refine lv_iload hx hb dX7_add_71 (lv_at hl 5 rfl) ?_
        refine lv_iadd hx hb dX7_add_73 ?_
        obtain ⟨hk10, hf⟩ := gd_inv hf
        refine l_M0 hx hb hK hW rfl hk10 dX7_add_74 ?_
        refine lv_iload_n hx hb dX7_add_75 rfl (lv_at hl 1 rfl) ?_
        refine lv_iload_n hx hb dX7_add_76 rfl (lv_at hl 2 rfl) ?_
        refine lv_iload_n hx hb dX7_add_77 rfl (lv_at hl 3 rfl) ?_
        refine lv_iload hx hb dX7_add_78 (lv_at hl 5 rfl) ?_
        refine lv_iload_n hx hb dX7_add_80 rfl (lv_at hl 3 rfl) ?_
        obtain ⟨hz11, hf⟩ := gd_inv hf
        refine lv_irem hx hb dX7_add_81 hz11 ?_
        obtain ⟨r13, q12, hf⟩ := bd_inv hf
        refine ss_callSi (As := [.int a1, .int a2, .int a3, .int (x5 - x5 / a3 * a3)]) hx hb hml hown hK hW kb_X7_shape kM_RX7_106 (mX7_shape l (a0 := a1) (a1 := a2) (a2 := a3) (a3 := (x5 - x5 / a3 * a3)) q12) rfl dX7_add_82 rfl hl.1 (Nat.le_of_ble_eq_true rfl) ⟨Nat.le_of_ble_eq_true rfl, Nat.le_of_ble_eq_true rfl⟩ ⟨Nat.zero_le _, Nat.zero_le _⟩ (fun H locs hW => ?_)
        refine lv_iadd hx hb dX7_add_85 ?_
        refine lv_topi (fun x6_14 ex6_14 => ?_)
        have hf := nm_use ex6_14 hf
        refine lv_istore (lv' := [(6, .int x6_14), (0, .ref (eA E 9)), (1, .int a1), (2, .int a2), (3, .int a3), (4, .int x4), (5, .int x5)]) hx hb dX7_add_86 hl (by decide) rfl (fun ls hl => ?_)
        refine lv_iload hx hb dX7_add_88 (lv_at hl 5 rfl) ?_
        refine lv_iload hx hb dX7_add_90 (lv_at hl 0 rfl) ?_
        refine lv_iload hx hb dX7_add_92 (lv_at hl 0 rfl) ?_
        obtain ⟨r16, q15, hf⟩ := bd_inv hf
        refine ss_callSi (As := [.int x6_14]) hx hb hml hown hK hW kb_X7_clipped kM_RX7_67 (mX7_clipped l (a0 := x6_14) q15) rfl dX7_add_94 rfl hl.1 (Nat.le_of_ble_eq_true rfl) ⟨Nat.le_of_ble_eq_true rfl, Nat.le_of_ble_eq_true rfl⟩ ⟨Nat.zero_le _, Nat.zero_le _⟩ (fun H locs hW => ?_)
        refine lv_icmp_ne (tgt := 104) hx hb dX7_add_97 (by decide) (fun c17 => ?_) (fun c17 => ?_)
        · have hf := br_n c17 hf
          refine lv_iconst (v := 1) hx hb dX7_add_104 (by decide) ?_
          exact h105 x5 x6_14 1 x4 μ _ _ _ hW (lv_sub hl [1, 2, 3, 4, 6, 0] rfl) hf
        · have hf := br_p c17 hf
          refine lv_iconst (v := 0) hx hb dX7_add_100 (by decide) ?_
          refine lv_goto (tgt := 105) hx hb dX7_add_101 (by decide) ?_
          exact h105 x5 x6_14 0 x4 μ _ _ _ hW (lv_sub hl [1, 2, 3, 4, 6, 0] rfl) hf
  have h36 : ∀ (k0 : Int32) (μ : Sg) (H : Heap) (locs : List Loc) (ls : Array Slot), Wk E σ μ dg s H locs → lv_has ls 7 [(0, .ref (eA E 9)), (1, .int a1), (2, .int a2), (3, .int a3)] → fX7_add_b36 a1 a2 a3 k0 μ = some (r, μ') → W p l e (Rm 1 25) s m [.ref (eA E 9), .int a1, .int a2, .int a3].toArray below meth c H locs 0 0 (MQ below (Qi E σ μ' dg r) [.ref (eA E 9), .int a1, .int a2, .int a3].toArray s 0 0 (eP E)) (F0 m 36 ls [.int k0, .ref (eA E 9)]) := by
    intro k0 μ  H locs ls hW hl hf
    unfold fX7_add_b36 at hf
    obtain ⟨r19, u20, q18, hf⟩ := bd2_inv hf
    refine ss_callVi (As := [.int k0]) hx hb hml hown hK hW kb_X7_holds kM_RX7_97 rfl (by decide) (c_fx (by decide)) (mX7_holds l (a1 := k0) q18) rfl dX7_add_36 rfl hl.1 (Nat.le_of_ble_eq_true rfl) ⟨Nat.le_of_ble_eq_true rfl, Nat.le_of_ble_eq_true rfl⟩ ⟨Nat.zero_le _, Nat.zero_le _⟩ (fun H locs hW => ?_)
    refine lv_if_ne (tgt := 44) hx hb dX7_add_39 (by decide) (fun c21 => ?_) (fun c21 => ?_)
    · have hf := br_n c21 hf
      refine lv_aload_n hx hb dX7_add_44 rfl (lv_at hl 0 rfl) ?_
      obtain ⟨u23, q22, hf⟩ := bd_inv hf
      refine ss_callVv (As := []) hx hb hml hown hK hW kb_X7_save kM_RX7_100 rfl (by decide) (c_fx (by decide)) (mX7_save l  q22) rfl dX7_add_45 rfl hl.1 (Nat.le_of_ble_eq_true rfl) ⟨Nat.le_of_ble_eq_true rfl, Nat.le_of_ble_eq_true rfl⟩ ⟨Nat.zero_le _, Nat.zero_le _⟩ (fun H locs hW => ?_)
      refine lv_iconst (v := 0) hx hb dX7_add_48 (by decide) ?_
      refine lv_istore (lv' := [(4, .int 0), (0, .ref (eA E 9)), (1, .int a1), (2, .int a2), (3, .int a3)]) hx hb dX7_add_49 hl (by decide) rfl (fun ls hl => ?_)
      refine lv_iconst (v := 0) hx hb dX7_add_51 (by decide) ?_
      refine lv_istore (lv' := [(5, .int 0), (4, .int 0), (0, .ref (eA E 9)), (1, .int a1), (2, .int a2), (3, .int a3)]) hx hb dX7_add_52 hl (by decide) rfl (fun ls hl => ?_)
      exact h54 80 0 0 u23 _ _ _ hW (lv_sub hl [2, 3, 4, 5, 1, 0] rfl) hf
    · have hf := br_p c21 hf
      refine lv_iconst (v := 0) hx hb dX7_add_42 (by decide) ?_
      cases hf
      exact ss_iret hx hb hr hlk hW rfl dX7_add_43
  have h35 : ∀ (μ : Sg) (H : Heap) (locs : List Loc) (ls : Array Slot), Wk E σ μ dg s H locs → lv_has ls 7 [(0, .ref (eA E 9)), (1, .int a1), (2, .int a2), (3, .int a3)] → fX7_add_b35 a1 a2 a3 μ = some (r, μ') → W p l e (Rm 1 25) s m [.ref (eA E 9), .int a1, .int a2, .int a3].toArray below meth c H locs 0 0 (MQ below (Qi E σ μ' dg r) [.ref (eA E 9), .int a1, .int a2, .int a3].toArray s 0 0 (eP E)) (F0 m 35 ls [.ref (eA E 9)]) := by
    intro μ  H locs ls hW hl hf
    unfold fX7_add_b35 at hf
    refine lv_iconst (v := 1) hx hb dX7_add_35 (by decide) ?_
    exact h36 1 μ _ _ _ hW (lv_sub hl [0, 1, 2, 3] rfl) hf
  refine lv_aload_n hx hb dX7_add_0 rfl (lv_at hl 0 rfl) ?_
  refine lv_iload_n hx hb dX7_add_1 rfl (lv_at hl 1 rfl) ?_
  refine lv_iconst (v := 0) hx hb dX7_add_2 (by decide) ?_
  refine lv_iconst (v := 2) hx hb dX7_add_3 (by decide) ?_
  obtain ⟨r25, q24, hf⟩ := bd_inv hf
  refine ss_callSi (As := [.int a1, .int 0, .int 2]) hx hb hml hown hK hW kb_X7_in kM_RX7_51 (mX7_in l (a0 := a1) (a1 := 0) (a2 := 2) q24) rfl dX7_add_4 rfl hl.1 (Nat.le_of_ble_eq_true rfl) ⟨Nat.le_of_ble_eq_true rfl, Nat.le_of_ble_eq_true rfl⟩ ⟨Nat.zero_le _, Nat.zero_le _⟩ (fun H locs hW => ?_)
  refine lv_if_eq (tgt := 35) hx hb dX7_add_7 (by decide) (fun c26 => ?_) (fun c26 => ?_)
  · have hf := br_p c26 hf
    exact h35 μ _ _ _ hW (lv_sub hl [0, 1, 2, 3] rfl) hf
  · have hf := br_n c26 hf
    refine lv_iload_n hx hb dX7_add_10 rfl (lv_at hl 2 rfl) ?_
    refine lv_iconst (v := 0) hx hb dX7_add_11 (by decide) ?_
    refine lv_sipush (v := 2047) hx hb dX7_add_12 (by decide) ?_
    obtain ⟨r28, q27, hf⟩ := bd_inv hf
    refine ss_callSi (As := [.int a2, .int 0, .int 2047]) hx hb hml hown hK hW kb_X7_in kM_RX7_51 (mX7_in l (a0 := a2) (a1 := 0) (a2 := 2047) q27) rfl dX7_add_15 rfl hl.1 (Nat.le_of_ble_eq_true rfl) ⟨Nat.le_of_ble_eq_true rfl, Nat.le_of_ble_eq_true rfl⟩ ⟨Nat.zero_le _, Nat.zero_le _⟩ (fun H locs hW => ?_)
    refine lv_if_eq (tgt := 35) hx hb dX7_add_18 (by decide) (fun c29 => ?_) (fun c29 => ?_)
    · have hf := br_p c29 hf
      exact h35 μ _ _ _ hW (lv_sub hl [0, 1, 2, 3] rfl) hf
    · have hf := br_n c29 hf
      refine lv_iload_n hx hb dX7_add_21 rfl (lv_at hl 3 rfl) ?_
      refine lv_iconst (v := 1) hx hb dX7_add_22 (by decide) ?_
      refine lv_bipush (v := 64) hx hb dX7_add_23 (by decide) ?_
      obtain ⟨r31, q30, hf⟩ := bd_inv hf
      refine ss_callSi (As := [.int a3, .int 1, .int 64]) hx hb hml hown hK hW kb_X7_in kM_RX7_51 (mX7_in l (a0 := a3) (a1 := 1) (a2 := 64) q30) rfl dX7_add_25 rfl hl.1 (Nat.le_of_ble_eq_true rfl) ⟨Nat.le_of_ble_eq_true rfl, Nat.le_of_ble_eq_true rfl⟩ ⟨Nat.zero_le _, Nat.zero_le _⟩ (fun H locs hW => ?_)
      refine lv_if_eq (tgt := 35) hx hb dX7_add_28 (by decide) (fun c32 => ?_) (fun c32 => ?_)
      · have hf := br_p c32 hf
        exact h35 μ _ _ _ hW (lv_sub hl [0, 1, 2, 3] rfl) hf
      · have hf := br_n c32 hf
        refine lv_iconst (v := 0) hx hb dX7_add_31 (by decide) ?_
        refine lv_goto (tgt := 36) hx hb dX7_add_32 (by decide) ?_
        exact h36 0 μ _ _ _ hW (lv_sub hl [0, 1, 2, 3] rfl) hf
def fX7_alike_L4  (n : Nat) (x1 : Int32) (x2 : Int32) (μ : Sg) : Option Int32 := match n with
  | 0 => none
  | n + 1 => if (μ 0 0) ≤ x2 then (some x1) else (gd (¬ ((7 + x2) < 0 ∨ 295 ≤ ((7 + x2)).toNatClampNeg)) <| gd (¬ (x2 < 0 ∨ 64 ≤ (x2).toNatClampNeg)) <| if (μ 0 ((7 + x2)).toNatClampNeg) = (μ 6 (x2).toNatClampNeg) then (nm (x1 + 1) fun x1_7 => nm (x2 + 1) fun x2_8 => (fun x1 x2 μ => fX7_alike_L4 n x1 x2 μ) x1_7 x2_8 μ) else (nm (x1 + 0) fun x1_5 => nm (x2 + 1) fun x2_6 => (fun x1 x2 μ => fX7_alike_L4 n x1 x2 μ) x1_5 x2_6 μ))
def fX7_alike (μ : Sg) : Option Int32 := fX7_alike_L4 80 0 0 μ
set_option maxHeartbeats 4000000 in
set_option maxRecDepth 100000 in
theorem mX7_alike (l : Launch) {E : En} {σ μ : Sg} {dg : Int64}   {r : Int32} (hf : fX7_alike μ = some r) : Met l yX7_alike [.code yX7_alike cX7_alike 3 (some .int)] (Rm 0 0) (va_Pc [.ref (eA E 9)] (Wd E σ μ dg)) (Qi E σ μ dg r) 0 0 (eP E) := by
  refine ss_of (by decide) (Nat.le_of_ble_eq_true rfl) (fun p e s m below meth c hx hb hr hlk hml hown hK hW ls hl => ?_)
  have hown : s.vm.findClass RX7 = some m.cls := hown
  have hl : lv_has ls 3 [(0, .ref (eA E 9))] := hl
  unfold fX7_alike at hf
  have h4 : ∀ (n4 : Nat) (x1 : Int32) (x2 : Int32) (μ : Sg) (H : Heap) (locs : List Loc) (ls : Array Slot), Wk E σ μ dg s H locs → lv_has ls 3 [(0, .ref (eA E 9)), (1, .int x1), (2, .int x2)] → fX7_alike_L4 n4 x1 x2 μ = some r → W p l e (Rm 0 0) s m [.ref (eA E 9)].toArray below meth c H locs 0 0 (MQ below (Qi E σ μ dg r) [.ref (eA E 9)].toArray s 0 0 (eP E)) (F0 m 4 ls []) := by
    intro n4
    induction n4 with
    | zero =>
      intro x1 x2 μ  H locs ls hW hl hf
      exact absurd hf (by simp [fX7_alike_L4])
    | succ n4 ih4 =>
      intro x1 x2 μ  H locs ls hW hl hf
      rw [fX7_alike_L4] at hf
      refine lv_iload_n hx hb dX7_alike_4 rfl (lv_at hl 2 rfl) ?_
      refine lv_aload_n hx hb dX7_alike_5 rfl (lv_at hl 0 rfl) ?_
      refine g_M_s hx hb hown hK hW kF_RX7_7 dX7_alike_6 ?_
      refine lv_iconst (v := 0) hx hb dX7_alike_9 (by decide) ?_
      refine l_M0 (k0 := 0) hx hb hK hW (by decide) (show ¬ ((0 : Int32) < 0 ∨ 295 ≤ (0 : Int32).toNatClampNeg) by decide) dX7_alike_10 ?_
      refine lv_icmp_ge (tgt := 46) hx hb dX7_alike_11 (by decide) (fun c1 => ?_) (fun c1 => ?_)
      · have hf := br_p c1 hf
        refine lv_iload_n hx hb dX7_alike_46 rfl (lv_at hl 1 rfl) ?_
        exact ss_iret hx hb hr hlk hW (Option.some.inj hf) dX7_alike_47
      · have hf := br_n c1 hf
        refine lv_iload_n hx hb dX7_alike_14 rfl (lv_at hl 1 rfl) ?_
        refine lv_aload_n hx hb dX7_alike_15 rfl (lv_at hl 0 rfl) ?_
        refine g_M_s hx hb hown hK hW kF_RX7_7 dX7_alike_16 ?_
        refine lv_bipush (v := 7) hx hb dX7_alike_19 (by decide) ?_
        refine lv_iload_n hx hb dX7_alike_21 rfl (lv_at hl 2 rfl) ?_
        refine lv_iadd hx hb dX7_alike_22 ?_
        obtain ⟨hk2, hf⟩ := gd_inv hf
        refine l_M0 hx hb hK hW rfl hk2 dX7_alike_23 ?_
        refine lv_aload_n hx hb dX7_alike_24 rfl (lv_at hl 0 rfl) ?_
        refine g_M_made hx hb hown hK hW kF_RX7_29 dX7_alike_25 ?_
        refine lv_iload_n hx hb dX7_alike_28 rfl (lv_at hl 2 rfl) ?_
        obtain ⟨hk3, hf⟩ := gd_inv hf
        refine l_M6 hx hb hK hW rfl hk3 dX7_alike_29 ?_
        refine lv_icmp_ne (tgt := 37) hx hb dX7_alike_30 (by decide) (fun c4 => ?_) (fun c4 => ?_)
        · have hf := br_n c4 hf
          refine lv_iconst (v := 0) hx hb dX7_alike_37 (by decide) ?_
          refine lv_iadd hx hb dX7_alike_38 ?_
          refine lv_topi (fun x1_5 ex1_5 => ?_)
          have hf := nm_use ex1_5 hf
          refine lv_istore_n (lv' := [(1, .int x1_5), (0, .ref (eA E 9)), (2, .int x2)]) hx hb dX7_alike_39 rfl hl (by decide) rfl (fun ls hl => ?_)
          obtain ⟨x2_6, ex2_6⟩ : ∃ y : Int32, y = (x2 + 1) := ⟨_, rfl⟩
          have hf := nm_use ex2_6 hf
          refine lv_iinc (v := x2_6) (lv' := [(2, .int x2_6), (1, .int x1_5), (0, .ref (eA E 9))]) hx hb dX7_alike_40 hl (k := 2) rfl (by rw [ex2_6]; rfl) (by decide) rfl (fun ls hl => ?_)
          refine lv_goto (tgt := 4) hx hb dX7_alike_43 (by decide) ?_
          exact ih4 x1_5 x2_6 μ _ _ _ hW (lv_sub hl [2, 1, 0] rfl) hf
        · have hf := br_p c4 hf
          refine lv_iconst (v := 1) hx hb dX7_alike_33 (by decide) ?_
          refine lv_goto (tgt := 38) hx hb dX7_alike_34 (by decide) ?_
          refine lv_iadd hx hb dX7_alike_38 ?_
          refine lv_topi (fun x1_7 ex1_7 => ?_)
          have hf := nm_use ex1_7 hf
          refine lv_istore_n (lv' := [(1, .int x1_7), (0, .ref (eA E 9)), (2, .int x2)]) hx hb dX7_alike_39 rfl hl (by decide) rfl (fun ls hl => ?_)
          obtain ⟨x2_8, ex2_8⟩ : ∃ y : Int32, y = (x2 + 1) := ⟨_, rfl⟩
          have hf := nm_use ex2_8 hf
          refine lv_iinc (v := x2_8) (lv' := [(2, .int x2_8), (1, .int x1_7), (0, .ref (eA E 9))]) hx hb dX7_alike_40 hl (k := 2) rfl (by rw [ex2_8]; rfl) (by decide) rfl (fun ls hl => ?_)
          refine lv_goto (tgt := 4) hx hb dX7_alike_43 (by decide) ?_
          exact ih4 x1_7 x2_8 μ _ _ _ hW (lv_sub hl [2, 1, 0] rfl) hf
  refine lv_iconst (v := 0) hx hb dX7_alike_0 (by decide) ?_
  refine lv_istore_n (lv' := [(1, .int 0), (0, .ref (eA E 9))]) hx hb dX7_alike_1 rfl hl (by decide) rfl (fun ls hl => ?_)
  refine lv_iconst (v := 0) hx hb dX7_alike_2 (by decide) ?_
  refine lv_istore_n (lv' := [(2, .int 0), (1, .int 0), (0, .ref (eA E 9))]) hx hb dX7_alike_3 rfl hl (by decide) rfl (fun ls hl => ?_)
  exact h4 80 0 0 μ _ _ _ hW (lv_sub hl [2, 1, 0] rfl) hf
def fX7_append_b30 (a1 : Int32) (k0 : Int32) (μ : Sg) : Option (Int32 × Sg) := bd2 (fX7_holds k0 μ) fun r2 u3 => if r2 = 0 then (some (0, u3)) else (gd (¬ ((u3 20 7) < 0 ∨ 40 ≤ ((u3 20 7)).toNatClampNeg)) <| nm (up2 u3 4 (((u3 20 7)).toNatClampNeg) a1) fun u6 => nm (up2 u6 20 7 ((u6 20 7) + 1)) fun u7 => some ((u7 20 7), u7))
def fX7_append (a1 : Int32) (μ : Sg) : Option (Int32 × Sg) := bd (fX7_in a1 33 126) fun r9 => if r9 = 0 then (fX7_append_b30 a1 1 μ) else (if (μ 20 7) = 40 then (fX7_append_b30 a1 2 μ) else (fX7_append_b30 a1 0 μ))
set_option maxHeartbeats 4000000 in
set_option maxRecDepth 100000 in
theorem mX7_append (l : Launch) {E : En} {σ μ : Sg} {dg : Int64} {a1 : Int32}  {r : Int32} {μ' : Sg} (hf : fX7_append a1 μ = some (r, μ')) : Met l yX7_append [.code yX7_append cX7_append 2 (some .int)] (Rm 1 22) (va_Pc [.ref (eA E 9), .int a1] (Wd E σ μ dg)) (Qi E σ μ' dg r) 0 0 (eP E) := by
  refine ss_of (by decide) (Nat.le_of_ble_eq_true rfl) (fun p e s m below meth c hx hb hr hlk hml hown hK hW ls hl => ?_)
  have hown : s.vm.findClass RX7 = some m.cls := hown
  have hl : lv_has ls 2 [(0, .ref (eA E 9)), (1, .int a1)] := hl
  unfold fX7_append at hf
  have h30 : ∀ (k0 : Int32) (μ : Sg) (H : Heap) (locs : List Loc) (ls : Array Slot), Wk E σ μ dg s H locs → lv_has ls 2 [(0, .ref (eA E 9)), (1, .int a1)] → fX7_append_b30 a1 k0 μ = some (r, μ') → W p l e (Rm 1 22) s m [.ref (eA E 9), .int a1].toArray below meth c H locs 0 0 (MQ below (Qi E σ μ' dg r) [.ref (eA E 9), .int a1].toArray s 0 0 (eP E)) (F0 m 30 ls [.int k0, .ref (eA E 9)]) := by
    intro k0 μ  H locs ls hW hl hf
    unfold fX7_append_b30 at hf
    obtain ⟨r2, u3, q1, hf⟩ := bd2_inv hf
    refine ss_callVi (As := [.int k0]) hx hb hml hown hK hW kb_X7_holds kM_RX7_97 rfl (by decide) (c_fx (by decide)) (mX7_holds l (a1 := k0) q1) rfl dX7_append_30 rfl hl.1 (Nat.le_of_ble_eq_true rfl) ⟨Nat.le_of_ble_eq_true rfl, Nat.le_of_ble_eq_true rfl⟩ ⟨Nat.zero_le _, Nat.zero_le _⟩ (fun H locs hW => ?_)
    refine lv_if_ne (tgt := 38) hx hb dX7_append_33 (by decide) (fun c4 => ?_) (fun c4 => ?_)
    · have hf := br_n c4 hf
      refine lv_aload_n hx hb dX7_append_38 rfl (lv_at hl 0 rfl) ?_
      refine g_M_text hx hb hown hK hW kF_RX7_23 dX7_append_39 ?_
      refine lv_aload_n hx hb dX7_append_42 rfl (lv_at hl 0 rfl) ?_
      refine g_M_length hx hb hown hK hW kF_RX7_125 dX7_append_43 ?_
      refine lv_iload_n hx hb dX7_append_46 rfl (lv_at hl 1 rfl) ?_
      obtain ⟨hk5, hf⟩ := gd_inv hf
      refine s_M4 hx hb hK hW rfl hk5 dX7_append_47 (fun H locs hW => ?_)
      obtain ⟨u6, eu6⟩ : ∃ y : Sg, y = (up2 u3 4 (((u3 20 7)).toNatClampNeg) a1) := ⟨_, rfl⟩
      have hf := nm_use eu6 hf
      rw [← eu6] at hW
      refine lv_aload_n hx hb dX7_append_48 rfl (lv_at hl 0 rfl) ?_
      refine lv_dup hx hb dX7_append_49 rfl ?_
      refine g_M_length hx hb hown hK hW kF_RX7_125 dX7_append_50 ?_
      refine lv_iconst (v := 1) hx hb dX7_append_53 (by decide) ?_
      refine lv_iadd hx hb dX7_append_54 ?_
      refine p_M_length hx hb hown hK hW kF_RX7_125 dX7_append_55 (fun H locs hW => ?_)
      obtain ⟨u7, eu7⟩ : ∃ y : Sg, y = (up2 u6 20 7 ((u6 20 7) + 1)) := ⟨_, rfl⟩
      have hf := nm_use eu7 hf
      rw [← eu7] at hW
      refine lv_aload_n hx hb dX7_append_58 rfl (lv_at hl 0 rfl) ?_
      refine g_M_length hx hb hown hK hW kF_RX7_125 dX7_append_59 ?_
      cases hf
      exact ss_iret hx hb hr hlk hW rfl dX7_append_62
    · have hf := br_p c4 hf
      refine lv_iconst (v := 0) hx hb dX7_append_36 (by decide) ?_
      cases hf
      exact ss_iret hx hb hr hlk hW rfl dX7_append_37
  refine lv_aload_n hx hb dX7_append_0 rfl (lv_at hl 0 rfl) ?_
  refine lv_iload_n hx hb dX7_append_1 rfl (lv_at hl 1 rfl) ?_
  refine lv_bipush (v := 33) hx hb dX7_append_2 (by decide) ?_
  refine lv_bipush (v := 126) hx hb dX7_append_4 (by decide) ?_
  obtain ⟨r9, q8, hf⟩ := bd_inv hf
  refine ss_callSi (As := [.int a1, .int 33, .int 126]) hx hb hml hown hK hW kb_X7_in kM_RX7_51 (mX7_in l (a0 := a1) (a1 := 33) (a2 := 126) q8) rfl dX7_append_6 rfl hl.1 (Nat.le_of_ble_eq_true rfl) ⟨Nat.le_of_ble_eq_true rfl, Nat.le_of_ble_eq_true rfl⟩ ⟨Nat.zero_le _, Nat.zero_le _⟩ (fun H locs hW => ?_)
  refine lv_if_ne (tgt := 16) hx hb dX7_append_9 (by decide) (fun c10 => ?_) (fun c10 => ?_)
  · have hf := br_n c10 hf
    refine lv_aload_n hx hb dX7_append_16 rfl (lv_at hl 0 rfl) ?_
    refine g_M_length hx hb hown hK hW kF_RX7_125 dX7_append_17 ?_
    refine lv_bipush (v := 40) hx hb dX7_append_20 (by decide) ?_
    refine lv_icmp_ne (tgt := 29) hx hb dX7_append_22 (by decide) (fun c11 => ?_) (fun c11 => ?_)
    · have hf := br_n c11 hf
      refine lv_iconst (v := 0) hx hb dX7_append_29 (by decide) ?_
      exact h30 0 μ _ _ _ hW (lv_sub hl [0, 1] rfl) hf
    · have hf := br_p c11 hf
      refine lv_iconst (v := 2) hx hb dX7_append_25 (by decide) ?_
      refine lv_goto (tgt := 30) hx hb dX7_append_26 (by decide) ?_
      exact h30 2 μ _ _ _ hW (lv_sub hl [0, 1] rfl) hf
  · have hf := br_p c10 hf
    refine lv_iconst (v := 1) hx hb dX7_append_12 (by decide) ?_
    refine lv_goto (tgt := 30) hx hb dX7_append_13 (by decide) ?_
    exact h30 1 μ _ _ _ hW (lv_sub hl [0, 1] rfl) hf
def fX7_isSample (a1 : Int32) (μ : Sg) : Option Int32 := bd (fX7_in a1 0 ((μ 0 0) - 1)) fun r2 => gd (r2 = 0 ∨ r2 = 1) <| some r2
set_option maxHeartbeats 4000000 in
set_option maxRecDepth 100000 in
theorem mX7_isSample (l : Launch) {E : En} {σ μ : Sg} {dg : Int64} {a1 : Int32}  {r : Int32} (hf : fX7_isSample a1 μ = some r) : Met l yX7_isSample [.code yX7_isSample cX7_isSample 2 (some .boolean)] (Rm 1 22) (va_Pc [.ref (eA E 9), .int a1] (Wd E σ μ dg)) (Qi E σ μ dg r) 0 0 (eP E) := by
  refine ss_of (by decide) (Nat.le_of_ble_eq_true rfl) (fun p e s m below meth c hx hb hr hlk hml hown hK hW ls hl => ?_)
  have hown : s.vm.findClass RX7 = some m.cls := hown
  have hl : lv_has ls 2 [(0, .ref (eA E 9)), (1, .int a1)] := hl
  unfold fX7_isSample at hf
  refine lv_iload_n hx hb dX7_isSample_0 rfl (lv_at hl 1 rfl) ?_
  refine lv_iconst (v := 0) hx hb dX7_isSample_1 (by decide) ?_
  refine lv_aload_n hx hb dX7_isSample_2 rfl (lv_at hl 0 rfl) ?_
  refine g_M_s hx hb hown hK hW kF_RX7_7 dX7_isSample_3 ?_
  refine lv_iconst (v := 0) hx hb dX7_isSample_6 (by decide) ?_
  refine l_M0 (k0 := 0) hx hb hK hW (by decide) (show ¬ ((0 : Int32) < 0 ∨ 295 ≤ (0 : Int32).toNatClampNeg) by decide) dX7_isSample_7 ?_
  refine lv_iconst (v := 1) hx hb dX7_isSample_8 (by decide) ?_
  refine lv_isub hx hb dX7_isSample_9 ?_
  obtain ⟨r2, q1, hf⟩ := bd_inv hf
  refine ss_callSi (As := [.int a1, .int 0, .int ((μ 0 0) - 1)]) hx hb hml hown hK hW kb_X7_in kM_RX7_51 (mX7_in l (a0 := a1) (a1 := 0) (a2 := ((μ 0 0) - 1)) q1) rfl dX7_isSample_10 rfl hl.1 (Nat.le_of_ble_eq_true rfl) ⟨Nat.le_of_ble_eq_true rfl, Nat.le_of_ble_eq_true rfl⟩ ⟨Nat.zero_le _, Nat.zero_le _⟩ (fun H locs hW => ?_)
  obtain ⟨hz3, hf⟩ := gd_inv hf
  exact ss_zret hx hb hr hlk hW (Option.some.inj hf) (zb_n hz3) dX7_isSample_13
def fX7_areSamples (a1 : Int32) (a2 : Int32) (μ : Sg) : Option Int32 := bd (fX7_isSample a1 μ) fun r2 => if r2 = 0 then (some 0) else (bd (fX7_in a2 1 ((μ 0 0) - a1)) fun r5 => if r5 = 0 then (some 0) else (some 1))
set_option maxHeartbeats 4000000 in
set_option maxRecDepth 100000 in
theorem mX7_areSamples (l : Launch) {E : En} {σ μ : Sg} {dg : Int64} {a1 : Int32} {a2 : Int32}  {r : Int32} (hf : fX7_areSamples a1 a2 μ = some r) : Met l yX7_areSamples [.code yX7_areSamples cX7_areSamples 3 (some .boolean)] (Rm 2 43) (va_Pc [.ref (eA E 9), .int a1, .int a2] (Wd E σ μ dg)) (Qi E σ μ dg r) 0 0 (eP E) := by
  refine ss_of (by decide) (Nat.le_of_ble_eq_true rfl) (fun p e s m below meth c hx hb hr hlk hml hown hK hW ls hl => ?_)
  have hown : s.vm.findClass RX7 = some m.cls := hown
  have hl : lv_has ls 3 [(0, .ref (eA E 9)), (1, .int a1), (2, .int a2)] := hl
  unfold fX7_areSamples at hf
  refine lv_aload_n hx hb dX7_areSamples_0 rfl (lv_at hl 0 rfl) ?_
  refine lv_iload_n hx hb dX7_areSamples_1 rfl (lv_at hl 1 rfl) ?_
  obtain ⟨r2, q1, hf⟩ := bd_inv hf
  refine ss_callVi (As := [.int a1]) hx hb hml hown hK hW kb_X7_isSample kM_RX7_63 rfl (by decide) (c_fx (by decide)) (mX7_isSample l (a1 := a1) q1) rfl dX7_areSamples_2 rfl hl.1 (Nat.le_of_ble_eq_true rfl) ⟨Nat.le_of_ble_eq_true rfl, Nat.le_of_ble_eq_true rfl⟩ ⟨Nat.zero_le _, Nat.zero_le _⟩ (fun H locs hW => ?_)
  refine lv_if_eq (tgt := 28) hx hb dX7_areSamples_5 (by decide) (fun c3 => ?_) (fun c3 => ?_)
  · have hf := br_p c3 hf
    refine lv_iconst (v := 0) hx hb dX7_areSamples_28 (by decide) ?_
    exact ss_zret hx hb hr hlk hW (Option.some.inj hf) rfl dX7_areSamples_29
  · have hf := br_n c3 hf
    refine lv_iload_n hx hb dX7_areSamples_8 rfl (lv_at hl 2 rfl) ?_
    refine lv_iconst (v := 1) hx hb dX7_areSamples_9 (by decide) ?_
    refine lv_aload_n hx hb dX7_areSamples_10 rfl (lv_at hl 0 rfl) ?_
    refine g_M_s hx hb hown hK hW kF_RX7_7 dX7_areSamples_11 ?_
    refine lv_iconst (v := 0) hx hb dX7_areSamples_14 (by decide) ?_
    refine l_M0 (k0 := 0) hx hb hK hW (by decide) (show ¬ ((0 : Int32) < 0 ∨ 295 ≤ (0 : Int32).toNatClampNeg) by decide) dX7_areSamples_15 ?_
    refine lv_iload_n hx hb dX7_areSamples_16 rfl (lv_at hl 1 rfl) ?_
    refine lv_isub hx hb dX7_areSamples_17 ?_
    obtain ⟨r5, q4, hf⟩ := bd_inv hf
    refine ss_callSi (As := [.int a2, .int 1, .int ((μ 0 0) - a1)]) hx hb hml hown hK hW kb_X7_in kM_RX7_51 (mX7_in l (a0 := a2) (a1 := 1) (a2 := ((μ 0 0) - a1)) q4) rfl dX7_areSamples_18 rfl hl.1 (Nat.le_of_ble_eq_true rfl) ⟨Nat.le_of_ble_eq_true rfl, Nat.le_of_ble_eq_true rfl⟩ ⟨Nat.zero_le _, Nat.zero_le _⟩ (fun H locs hW => ?_)
    refine lv_if_eq (tgt := 28) hx hb dX7_areSamples_21 (by decide) (fun c6 => ?_) (fun c6 => ?_)
    · have hf := br_p c6 hf
      refine lv_iconst (v := 0) hx hb dX7_areSamples_28 (by decide) ?_
      exact ss_zret hx hb hr hlk hW (Option.some.inj hf) rfl dX7_areSamples_29
    · have hf := br_n c6 hf
      refine lv_iconst (v := 1) hx hb dX7_areSamples_24 (by decide) ?_
      refine lv_goto (tgt := 29) hx hb dX7_areSamples_25 (by decide) ?_
      exact ss_zret hx hb hr hlk hW (Option.some.inj hf) rfl dX7_areSamples_29
def fX7_codeFor_b81 (a2 : Int32) (x4 : Int32) (x5 : Int32) (μ : Sg) : Option Int32 := gd (¬ (a2 < 0 ∨ 49 ≤ (a2).toNatClampNeg)) <| if x4 < ((μ 5 (a2).toNatClampNeg) / 4) then (some x5) else (some (x5 + 1))
def fX7_codeFor_b54 (a2 : Int32) (x4 : Int32) (x5 : Int32) (μ : Sg) : Option Int32 := gd (¬ (a2 < 0 ∨ 49 ≤ (a2).toNatClampNeg)) <| nm ((μ 5 (a2).toNatClampNeg) / 2) fun x6_4 => if x4 < x6_4 then (fX7_codeFor_b81 a2 x4 x5 μ) else (nm (x5 + 2) fun x5_6 => nm (x4 - x6_4) fun x4_7 => fX7_codeFor_b81 a2 x4_7 x5_6 μ)
def fX7_codeFor_b27 (a2 : Int32) (x4 : Int32) (k0 : Int32) (μ : Sg) : Option Int32 := gd (¬ (a2 < 0 ∨ 49 ≤ (a2).toNatClampNeg)) <| nm (μ 5 (a2).toNatClampNeg) fun x6_9 => if x4 < x6_9 then (fX7_codeFor_b54 a2 x4 k0 μ) else (nm (k0 + 4) fun x5_11 => nm (x4 - x6_9) fun x4_12 => fX7_codeFor_b54 a2 x4_12 x5_11 μ)
def fX7_codeFor_b14 (a1 : Int32) (a2 : Int32) (a3 : Int32) (k0 : Int32) (μ : Sg) : Option Int32 := if a1 ≤ a3 then (fX7_codeFor_b27 a2 k0 0 μ) else (fX7_codeFor_b27 a2 k0 8 μ)
def fX7_codeFor (a1 : Int32) (a2 : Int32) (a3 : Int32) (μ : Sg) : Option Int32 := if a1 ≤ a3 then (fX7_codeFor_b14 a1 a2 a3 (a3 - a1) μ) else (fX7_codeFor_b14 a1 a2 a3 (a1 - a3) μ)
set_option maxHeartbeats 4000000 in
set_option maxRecDepth 100000 in
theorem mX7_codeFor (l : Launch) {E : En} {σ μ : Sg} {dg : Int64} {a1 : Int32} {a2 : Int32} {a3 : Int32}  {r : Int32} (hf : fX7_codeFor a1 a2 a3 μ = some r) : Met l yX7_codeFor [.code yX7_codeFor cX7_codeFor 7 (some .int)] (Rm 0 0) (va_Pc [.ref (eA E 9), .int a1, .int a2, .int a3] (Wd E σ μ dg)) (Qi E σ μ dg r) 0 0 (eP E) := by
  refine ss_of (by decide) (Nat.le_of_ble_eq_true rfl) (fun p e s m below meth c hx hb hr hlk hml hown hK hW ls hl => ?_)
  have hown : s.vm.findClass RX7 = some m.cls := hown
  have hl : lv_has ls 7 [(0, .ref (eA E 9)), (1, .int a1), (2, .int a2), (3, .int a3)] := hl
  unfold fX7_codeFor at hf
  have h81 : ∀ (x4 : Int32) (x5 : Int32) (μ : Sg) (H : Heap) (locs : List Loc) (ls : Array Slot), Wk E σ μ dg s H locs → lv_has ls 7 [(0, .ref (eA E 9)), (2, .int a2), (4, .int x4), (5, .int x5)] → fX7_codeFor_b81 a2 x4 x5 μ = some r → W p l e (Rm 0 0) s m [.ref (eA E 9), .int a1, .int a2, .int a3].toArray below meth c H locs 0 0 (MQ below (Qi E σ μ dg r) [.ref (eA E 9), .int a1, .int a2, .int a3].toArray s 0 0 (eP E)) (F0 m 81 ls []) := by
    intro x4 x5 μ  H locs ls hW hl hf
    unfold fX7_codeFor_b81 at hf
    refine lv_iload hx hb dX7_codeFor_81 (lv_at hl 2 rfl) ?_
    refine lv_aload_n hx hb dX7_codeFor_83 rfl (lv_at hl 0 rfl) ?_
    refine g_M_table hx hb hown hK hW kF_RX7_26 dX7_codeFor_84 ?_
    refine lv_iload_n hx hb dX7_codeFor_87 rfl (lv_at hl 1 rfl) ?_
    obtain ⟨hk1, hf⟩ := gd_inv hf
    refine l_M5 hx hb hK hW rfl hk1 dX7_codeFor_88 ?_
    refine lv_iconst (v := 4) hx hb dX7_codeFor_89 (by decide) ?_
    refine lv_idiv hx hb dX7_codeFor_90 (by decide) ?_
    refine lv_icmp_lt (tgt := 101) hx hb dX7_codeFor_91 (by decide) (fun c2 => ?_) (fun c2 => ?_)
    · have hf := br_p c2 hf
      refine lv_iload hx hb dX7_codeFor_101 (lv_at hl 3 rfl) ?_
      exact ss_iret hx hb hr hlk hW (Option.some.inj hf) dX7_codeFor_103
    · have hf := br_n c2 hf
      refine lv_iload hx hb dX7_codeFor_94 (lv_at hl 3 rfl) ?_
      refine lv_iconst (v := 1) hx hb dX7_codeFor_96 (by decide) ?_
      refine lv_iadd hx hb dX7_codeFor_97 ?_
      refine lv_goto (tgt := 103) hx hb dX7_codeFor_98 (by decide) ?_
      exact ss_iret hx hb hr hlk hW (Option.some.inj hf) dX7_codeFor_103
  have h54 : ∀ (x4 : Int32) (x5 : Int32) (μ : Sg) (H : Heap) (locs : List Loc) (ls : Array Slot), Wk E σ μ dg s H locs → lv_has ls 7 [(0, .ref (eA E 9)), (2, .int a2), (4, .int x4), (5, .int x5)] → fX7_codeFor_b54 a2 x4 x5 μ = some r → W p l e (Rm 0 0) s m [.ref (eA E 9), .int a1, .int a2, .int a3].toArray below meth c H locs 0 0 (MQ below (Qi E σ μ dg r) [.ref (eA E 9), .int a1, .int a2, .int a3].toArray s 0 0 (eP E)) (F0 m 54 ls []) := by
    intro x4 x5 μ  H locs ls hW hl hf
    unfold fX7_codeFor_b54 at hf
    refine lv_aload_n hx hb dX7_codeFor_54 rfl (lv_at hl 0 rfl) ?_
    refine g_M_table hx hb hown hK hW kF_RX7_26 dX7_codeFor_55 ?_
    refine lv_iload_n hx hb dX7_codeFor_58 rfl (lv_at hl 1 rfl) ?_
    obtain ⟨hk3, hf⟩ := gd_inv hf
    refine l_M5 hx hb hK hW rfl hk3 dX7_codeFor_59 ?_
    refine lv_iconst (v := 2) hx hb dX7_codeFor_60 (by decide) ?_
    refine lv_idiv hx hb dX7_codeFor_61 (by decide) ?_
    refine lv_topi (fun x6_4 ex6_4 => ?_)
    have hf := nm_use ex6_4 hf
    refine lv_istore (lv' := [(6, .int x6_4), (0, .ref (eA E 9)), (2, .int a2), (4, .int x4), (5, .int x5)]) hx hb dX7_codeFor_62 hl (by decide) rfl (fun ls hl => ?_)
    refine lv_iload hx hb dX7_codeFor_64 (lv_at hl 3 rfl) ?_
    refine lv_iload hx hb dX7_codeFor_66 (lv_at hl 0 rfl) ?_
    refine lv_icmp_lt (tgt := 81) hx hb dX7_codeFor_68 (by decide) (fun c5 => ?_) (fun c5 => ?_)
    · have hf := br_p c5 hf
      exact h81 x4 x5 μ _ _ _ hW (lv_sub hl [1, 2, 3, 4] rfl) hf
    · have hf := br_n c5 hf
      obtain ⟨x5_6, ex5_6⟩ : ∃ y : Int32, y = (x5 + 2) := ⟨_, rfl⟩
      have hf := nm_use ex5_6 hf
      refine lv_iinc (v := x5_6) (lv' := [(5, .int x5_6), (6, .int x6_4), (0, .ref (eA E 9)), (2, .int a2), (4, .int x4)]) hx hb dX7_codeFor_71 hl (k := 4) rfl (by rw [ex5_6]; rfl) (by decide) rfl (fun ls hl => ?_)
      refine lv_iload hx hb dX7_codeFor_74 (lv_at hl 4 rfl) ?_
      refine lv_iload hx hb dX7_codeFor_76 (lv_at hl 1 rfl) ?_
      refine lv_isub hx hb dX7_codeFor_78 ?_
      refine lv_topi (fun x4_7 ex4_7 => ?_)
      have hf := nm_use ex4_7 hf
      refine lv_istore (lv' := [(4, .int x4_7), (5, .int x5_6), (6, .int x6_4), (0, .ref (eA E 9)), (2, .int a2)]) hx hb dX7_codeFor_79 hl (by decide) rfl (fun ls hl => ?_)
      exact h81 x4_7 x5_6 μ _ _ _ hW (lv_sub hl [3, 4, 0, 1] rfl) hf
  have h27 : ∀ (x4 : Int32) (k0 : Int32) (μ : Sg) (H : Heap) (locs : List Loc) (ls : Array Slot), Wk E σ μ dg s H locs → lv_has ls 7 [(0, .ref (eA E 9)), (2, .int a2), (4, .int x4)] → fX7_codeFor_b27 a2 x4 k0 μ = some r → W p l e (Rm 0 0) s m [.ref (eA E 9), .int a1, .int a2, .int a3].toArray below meth c H locs 0 0 (MQ below (Qi E σ μ dg r) [.ref (eA E 9), .int a1, .int a2, .int a3].toArray s 0 0 (eP E)) (F0 m 27 ls [.int k0]) := by
    intro x4 k0 μ  H locs ls hW hl hf
    unfold fX7_codeFor_b27 at hf
    refine lv_istore (lv' := [(5, .int k0), (0, .ref (eA E 9)), (2, .int a2), (4, .int x4)]) hx hb dX7_codeFor_27 hl (by decide) rfl (fun ls hl => ?_)
    refine lv_aload_n hx hb dX7_codeFor_29 rfl (lv_at hl 1 rfl) ?_
    refine g_M_table hx hb hown hK hW kF_RX7_26 dX7_codeFor_30 ?_
    refine lv_iload_n hx hb dX7_codeFor_33 rfl (lv_at hl 2 rfl) ?_
    obtain ⟨hk8, hf⟩ := gd_inv hf
    refine l_M5 hx hb hK hW rfl hk8 dX7_codeFor_34 ?_
    refine lv_topi (fun x6_9 ex6_9 => ?_)
    have hf := nm_use ex6_9 hf
    refine lv_istore (lv' := [(6, .int x6_9), (5, .int k0), (0, .ref (eA E 9)), (2, .int a2), (4, .int x4)]) hx hb dX7_codeFor_35 hl (by decide) rfl (fun ls hl => ?_)
    refine lv_iload hx hb dX7_codeFor_37 (lv_at hl 4 rfl) ?_
    refine lv_iload hx hb dX7_codeFor_39 (lv_at hl 0 rfl) ?_
    refine lv_icmp_lt (tgt := 54) hx hb dX7_codeFor_41 (by decide) (fun c10 => ?_) (fun c10 => ?_)
    · have hf := br_p c10 hf
      exact h54 x4 k0 μ _ _ _ hW (lv_sub hl [2, 3, 4, 1] rfl) hf
    · have hf := br_n c10 hf
      obtain ⟨x5_11, ex5_11⟩ : ∃ y : Int32, y = (k0 + 4) := ⟨_, rfl⟩
      have hf := nm_use ex5_11 hf
      refine lv_iinc (v := x5_11) (lv' := [(5, .int x5_11), (6, .int x6_9), (0, .ref (eA E 9)), (2, .int a2), (4, .int x4)]) hx hb dX7_codeFor_44 hl (k := 1) rfl (by rw [ex5_11]; rfl) (by decide) rfl (fun ls hl => ?_)
      refine lv_iload hx hb dX7_codeFor_47 (lv_at hl 4 rfl) ?_
      refine lv_iload hx hb dX7_codeFor_49 (lv_at hl 1 rfl) ?_
      refine lv_isub hx hb dX7_codeFor_51 ?_
      refine lv_topi (fun x4_12 ex4_12 => ?_)
      have hf := nm_use ex4_12 hf
      refine lv_istore (lv' := [(4, .int x4_12), (5, .int x5_11), (6, .int x6_9), (0, .ref (eA E 9)), (2, .int a2)]) hx hb dX7_codeFor_52 hl (by decide) rfl (fun ls hl => ?_)
      exact h54 x4_12 x5_11 μ _ _ _ hW (lv_sub hl [3, 4, 0, 1] rfl) hf
  have h14 : ∀ (k0 : Int32) (μ : Sg) (H : Heap) (locs : List Loc) (ls : Array Slot), Wk E σ μ dg s H locs → lv_has ls 7 [(0, .ref (eA E 9)), (1, .int a1), (2, .int a2), (3, .int a3)] → fX7_codeFor_b14 a1 a2 a3 k0 μ = some r → W p l e (Rm 0 0) s m [.ref (eA E 9), .int a1, .int a2, .int a3].toArray below meth c H locs 0 0 (MQ below (Qi E σ μ dg r) [.ref (eA E 9), .int a1, .int a2, .int a3].toArray s 0 0 (eP E)) (F0 m 14 ls [.int k0]) := by
    intro k0 μ  H locs ls hW hl hf
    unfold fX7_codeFor_b14 at hf
    refine lv_istore (lv' := [(4, .int k0), (0, .ref (eA E 9)), (1, .int a1), (2, .int a2), (3, .int a3)]) hx hb dX7_codeFor_14 hl (by decide) rfl (fun ls hl => ?_)
    refine lv_iload_n hx hb dX7_codeFor_16 rfl (lv_at hl 4 rfl) ?_
    refine lv_iload_n hx hb dX7_codeFor_17 rfl (lv_at hl 2 rfl) ?_
    refine lv_icmp_ge (tgt := 26) hx hb dX7_codeFor_18 (by decide) (fun c13 => ?_) (fun c13 => ?_)
    · have hf := br_p c13 hf
      refine lv_iconst (v := 0) hx hb dX7_codeFor_26 (by decide) ?_
      exact h27 k0 0 μ _ _ _ hW (lv_sub hl [1, 3, 0] rfl) hf
    · have hf := br_n c13 hf
      refine lv_bipush (v := 8) hx hb dX7_codeFor_21 (by decide) ?_
      refine lv_goto (tgt := 27) hx hb dX7_codeFor_23 (by decide) ?_
      exact h27 k0 8 μ _ _ _ hW (lv_sub hl [1, 3, 0] rfl) hf
  refine lv_iload_n hx hb dX7_codeFor_0 rfl (lv_at hl 3 rfl) ?_
  refine lv_iload_n hx hb dX7_codeFor_1 rfl (lv_at hl 1 rfl) ?_
  refine lv_icmp_ge (tgt := 11) hx hb dX7_codeFor_2 (by decide) (fun c14 => ?_) (fun c14 => ?_)
  · have hf := br_p c14 hf
    refine lv_iload_n hx hb dX7_codeFor_11 rfl (lv_at hl 3 rfl) ?_
    refine lv_iload_n hx hb dX7_codeFor_12 rfl (lv_at hl 1 rfl) ?_
    refine lv_isub hx hb dX7_codeFor_13 ?_
    exact h14 (a3 - a1) μ _ _ _ hW (lv_sub hl [0, 1, 2, 3] rfl) hf
  · have hf := br_n c14 hf
    refine lv_iload_n hx hb dX7_codeFor_5 rfl (lv_at hl 1 rfl) ?_
    refine lv_iload_n hx hb dX7_codeFor_6 rfl (lv_at hl 3 rfl) ?_
    refine lv_isub hx hb dX7_codeFor_7 ?_
    refine lv_goto (tgt := 14) hx hb dX7_codeFor_8 (by decide) ?_
    exact h14 (a1 - a3) μ _ _ _ hW (lv_sub hl [0, 1, 2, 3] rfl) hf
def fX7_nextGuess_b67 (a1 : Int32) (a3 : Int32) (k0 : Int32) (k1 : Int32) (μ : Sg) : Option Int32 := nm (k1 + k0) fun x5_1 => if (a3 &&& 8) = 0 then (bd (fX7_clipped (a1 + x5_1)) fun r6 => some r6) else (bd (fX7_clipped (a1 - x5_1)) fun r4 => some r4)
def fX7_nextGuess_b48 (a1 : Int32) (a3 : Int32) (x4 : Int32) (k0 : Int32) (k1 : Int32) (μ : Sg) : Option Int32 := nm (k1 + k0) fun x5_7 => if (a3 &&& 1) = 0 then (fX7_nextGuess_b67 a1 a3 0 x5_7 μ) else (fX7_nextGuess_b67 a1 a3 (x4 / 4) x5_7 μ)
def fX7_nextGuess_b29 (a1 : Int32) (a3 : Int32) (x4 : Int32) (k0 : Int32) (k1 : Int32) (μ : Sg) : Option Int32 := nm (k1 + k0) fun x5_9 => if (a3 &&& 2) = 0 then (fX7_nextGuess_b48 a1 a3 x4 0 x5_9 μ) else (fX7_nextGuess_b48 a1 a3 x4 (x4 / 2) x5_9 μ)
def fX7_nextGuess (a1 : Int32) (a2 : Int32) (a3 : Int32) (μ : Sg) : Option Int32 := gd (¬ (a2 < 0 ∨ 49 ≤ (a2).toNatClampNeg)) <| nm (μ 5 (a2).toNatClampNeg) fun x4_12 => nm (x4_12 / 8) fun x5_13 => if (a3 &&& 4) = 0 then (fX7_nextGuess_b29 a1 a3 x4_12 0 x5_13 μ) else (fX7_nextGuess_b29 a1 a3 x4_12 x4_12 x5_13 μ)
set_option maxHeartbeats 4000000 in
set_option maxRecDepth 100000 in
theorem mX7_nextGuess (l : Launch) {E : En} {σ μ : Sg} {dg : Int64} {a1 : Int32} {a2 : Int32} {a3 : Int32}  {r : Int32} (hf : fX7_nextGuess a1 a2 a3 μ = some r) : Met l yX7_nextGuess [.code yX7_nextGuess cX7_nextGuess 6 (some .int)] (Rm 1 20) (va_Pc [.ref (eA E 9), .int a1, .int a2, .int a3] (Wd E σ μ dg)) (Qi E σ μ dg r) 0 0 (eP E) := by
  refine ss_of (by decide) (Nat.le_of_ble_eq_true rfl) (fun p e s m below meth c hx hb hr hlk hml hown hK hW ls hl => ?_)
  have hown : s.vm.findClass RX7 = some m.cls := hown
  have hl : lv_has ls 6 [(0, .ref (eA E 9)), (1, .int a1), (2, .int a2), (3, .int a3)] := hl
  unfold fX7_nextGuess at hf
  have h67 : ∀ (k0 : Int32) (k1 : Int32) (μ : Sg) (H : Heap) (locs : List Loc) (ls : Array Slot), Wk E σ μ dg s H locs → lv_has ls 6 [(1, .int a1), (3, .int a3)] → fX7_nextGuess_b67 a1 a3 k0 k1 μ = some r → W p l e (Rm 1 20) s m [.ref (eA E 9), .int a1, .int a2, .int a3].toArray below meth c H locs 0 0 (MQ below (Qi E σ μ dg r) [.ref (eA E 9), .int a1, .int a2, .int a3].toArray s 0 0 (eP E)) (F0 m 67 ls [.int k0, .int k1]) := by
    intro k0 k1 μ  H locs ls hW hl hf
    unfold fX7_nextGuess_b67 at hf
    refine lv_iadd hx hb dX7_nextGuess_67 ?_
    refine lv_topi (fun x5_1 ex5_1 => ?_)
    have hf := nm_use ex5_1 hf
    refine lv_istore (lv' := [(5, .int x5_1), (1, .int a1), (3, .int a3)]) hx hb dX7_nextGuess_68 hl (by decide) rfl (fun ls hl => ?_)
    refine lv_iload_n hx hb dX7_nextGuess_70 rfl (lv_at hl 2 rfl) ?_
    refine lv_bipush (v := 8) hx hb dX7_nextGuess_71 (by decide) ?_
    refine lv_iand hx hb dX7_nextGuess_73 ?_
    refine lv_if_ne (tgt := 84) hx hb dX7_nextGuess_74 (by decide) (fun c2 => ?_) (fun c2 => ?_)
    · have hf := br_n c2 hf
      refine lv_iload_n hx hb dX7_nextGuess_84 rfl (lv_at hl 1 rfl) ?_
      refine lv_iload hx hb dX7_nextGuess_85 (lv_at hl 0 rfl) ?_
      refine lv_isub hx hb dX7_nextGuess_87 ?_
      obtain ⟨r4, q3, hf⟩ := bd_inv hf
      refine ss_callSi (As := [.int (a1 - x5_1)]) hx hb hml hown hK hW kb_X7_clipped kM_RX7_67 (mX7_clipped l (a0 := (a1 - x5_1)) q3) rfl dX7_nextGuess_88 rfl hl.1 (Nat.le_of_ble_eq_true rfl) ⟨Nat.le_of_ble_eq_true rfl, Nat.le_of_ble_eq_true rfl⟩ ⟨Nat.zero_le _, Nat.zero_le _⟩ (fun H locs hW => ?_)
      exact ss_iret hx hb hr hlk hW (Option.some.inj hf) dX7_nextGuess_91
    · have hf := br_p c2 hf
      refine lv_iload_n hx hb dX7_nextGuess_77 rfl (lv_at hl 1 rfl) ?_
      refine lv_iload hx hb dX7_nextGuess_78 (lv_at hl 0 rfl) ?_
      refine lv_iadd hx hb dX7_nextGuess_80 ?_
      refine lv_goto (tgt := 88) hx hb dX7_nextGuess_81 (by decide) ?_
      obtain ⟨r6, q5, hf⟩ := bd_inv hf
      refine ss_callSi (As := [.int (a1 + x5_1)]) hx hb hml hown hK hW kb_X7_clipped kM_RX7_67 (mX7_clipped l (a0 := (a1 + x5_1)) q5) rfl dX7_nextGuess_88 rfl hl.1 (Nat.le_of_ble_eq_true rfl) ⟨Nat.le_of_ble_eq_true rfl, Nat.le_of_ble_eq_true rfl⟩ ⟨Nat.zero_le _, Nat.zero_le _⟩ (fun H locs hW => ?_)
      exact ss_iret hx hb hr hlk hW (Option.some.inj hf) dX7_nextGuess_91
  have h48 : ∀ (x4 : Int32) (k0 : Int32) (k1 : Int32) (μ : Sg) (H : Heap) (locs : List Loc) (ls : Array Slot), Wk E σ μ dg s H locs → lv_has ls 6 [(1, .int a1), (3, .int a3), (4, .int x4)] → fX7_nextGuess_b48 a1 a3 x4 k0 k1 μ = some r → W p l e (Rm 1 20) s m [.ref (eA E 9), .int a1, .int a2, .int a3].toArray below meth c H locs 0 0 (MQ below (Qi E σ μ dg r) [.ref (eA E 9), .int a1, .int a2, .int a3].toArray s 0 0 (eP E)) (F0 m 48 ls [.int k0, .int k1]) := by
    intro x4 k0 k1 μ  H locs ls hW hl hf
    unfold fX7_nextGuess_b48 at hf
    refine lv_iadd hx hb dX7_nextGuess_48 ?_
    refine lv_topi (fun x5_7 ex5_7 => ?_)
    have hf := nm_use ex5_7 hf
    refine lv_istore (lv' := [(5, .int x5_7), (1, .int a1), (3, .int a3), (4, .int x4)]) hx hb dX7_nextGuess_49 hl (by decide) rfl (fun ls hl => ?_)
    refine lv_iload hx hb dX7_nextGuess_51 (lv_at hl 0 rfl) ?_
    refine lv_iload_n hx hb dX7_nextGuess_53 rfl (lv_at hl 2 rfl) ?_
    refine lv_iconst (v := 1) hx hb dX7_nextGuess_54 (by decide) ?_
    refine lv_iand hx hb dX7_nextGuess_55 ?_
    refine lv_if_ne (tgt := 63) hx hb dX7_nextGuess_56 (by decide) (fun c8 => ?_) (fun c8 => ?_)
    · have hf := br_n c8 hf
      refine lv_iload hx hb dX7_nextGuess_63 (lv_at hl 3 rfl) ?_
      refine lv_iconst (v := 4) hx hb dX7_nextGuess_65 (by decide) ?_
      refine lv_idiv hx hb dX7_nextGuess_66 (by decide) ?_
      exact h67 (x4 / 4) x5_7 μ _ _ _ hW (lv_sub hl [1, 2] rfl) hf
    · have hf := br_p c8 hf
      refine lv_iconst (v := 0) hx hb dX7_nextGuess_59 (by decide) ?_
      refine lv_goto (tgt := 67) hx hb dX7_nextGuess_60 (by decide) ?_
      exact h67 0 x5_7 μ _ _ _ hW (lv_sub hl [1, 2] rfl) hf
  have h29 : ∀ (x4 : Int32) (k0 : Int32) (k1 : Int32) (μ : Sg) (H : Heap) (locs : List Loc) (ls : Array Slot), Wk E σ μ dg s H locs → lv_has ls 6 [(1, .int a1), (3, .int a3), (4, .int x4)] → fX7_nextGuess_b29 a1 a3 x4 k0 k1 μ = some r → W p l e (Rm 1 20) s m [.ref (eA E 9), .int a1, .int a2, .int a3].toArray below meth c H locs 0 0 (MQ below (Qi E σ μ dg r) [.ref (eA E 9), .int a1, .int a2, .int a3].toArray s 0 0 (eP E)) (F0 m 29 ls [.int k0, .int k1]) := by
    intro x4 k0 k1 μ  H locs ls hW hl hf
    unfold fX7_nextGuess_b29 at hf
    refine lv_iadd hx hb dX7_nextGuess_29 ?_
    refine lv_topi (fun x5_9 ex5_9 => ?_)
    have hf := nm_use ex5_9 hf
    refine lv_istore (lv' := [(5, .int x5_9), (1, .int a1), (3, .int a3), (4, .int x4)]) hx hb dX7_nextGuess_30 hl (by decide) rfl (fun ls hl => ?_)
    refine lv_iload hx hb dX7_nextGuess_32 (lv_at hl 0 rfl) ?_
    refine lv_iload_n hx hb dX7_nextGuess_34 rfl (lv_at hl 2 rfl) ?_
    refine lv_iconst (v := 2) hx hb dX7_nextGuess_35 (by decide) ?_
    refine lv_iand hx hb dX7_nextGuess_36 ?_
    refine lv_if_ne (tgt := 44) hx hb dX7_nextGuess_37 (by decide) (fun c10 => ?_) (fun c10 => ?_)
    · have hf := br_n c10 hf
      refine lv_iload hx hb dX7_nextGuess_44 (lv_at hl 3 rfl) ?_
      refine lv_iconst (v := 2) hx hb dX7_nextGuess_46 (by decide) ?_
      refine lv_idiv hx hb dX7_nextGuess_47 (by decide) ?_
      exact h48 x4 (x4 / 2) x5_9 μ _ _ _ hW (lv_sub hl [1, 2, 3] rfl) hf
    · have hf := br_p c10 hf
      refine lv_iconst (v := 0) hx hb dX7_nextGuess_40 (by decide) ?_
      refine lv_goto (tgt := 48) hx hb dX7_nextGuess_41 (by decide) ?_
      exact h48 x4 0 x5_9 μ _ _ _ hW (lv_sub hl [1, 2, 3] rfl) hf
  refine lv_aload_n hx hb dX7_nextGuess_0 rfl (lv_at hl 0 rfl) ?_
  refine g_M_table hx hb hown hK hW kF_RX7_26 dX7_nextGuess_1 ?_
  refine lv_iload_n hx hb dX7_nextGuess_4 rfl (lv_at hl 2 rfl) ?_
  obtain ⟨hk11, hf⟩ := gd_inv hf
  refine l_M5 hx hb hK hW rfl hk11 dX7_nextGuess_5 ?_
  refine lv_topi (fun x4_12 ex4_12 => ?_)
  have hf := nm_use ex4_12 hf
  refine lv_istore (lv' := [(4, .int x4_12), (0, .ref (eA E 9)), (1, .int a1), (2, .int a2), (3, .int a3)]) hx hb dX7_nextGuess_6 hl (by decide) rfl (fun ls hl => ?_)
  refine lv_iload hx hb dX7_nextGuess_8 (lv_at hl 0 rfl) ?_
  refine lv_bipush (v := 8) hx hb dX7_nextGuess_10 (by decide) ?_
  refine lv_idiv hx hb dX7_nextGuess_12 (by decide) ?_
  refine lv_topi (fun x5_13 ex5_13 => ?_)
  have hf := nm_use ex5_13 hf
  refine lv_istore (lv' := [(5, .int x5_13), (4, .int x4_12), (0, .ref (eA E 9)), (1, .int a1), (2, .int a2), (3, .int a3)]) hx hb dX7_nextGuess_13 hl (by decide) rfl (fun ls hl => ?_)
  refine lv_iload hx hb dX7_nextGuess_15 (lv_at hl 0 rfl) ?_
  refine lv_iload_n hx hb dX7_nextGuess_17 rfl (lv_at hl 5 rfl) ?_
  refine lv_iconst (v := 4) hx hb dX7_nextGuess_18 (by decide) ?_
  refine lv_iand hx hb dX7_nextGuess_19 ?_
  refine lv_if_ne (tgt := 27) hx hb dX7_nextGuess_20 (by decide) (fun c14 => ?_) (fun c14 => ?_)
  · have hf := br_n c14 hf
    refine lv_iload hx hb dX7_nextGuess_27 (lv_at hl 1 rfl) ?_
    exact h29 x4_12 x4_12 x5_13 μ _ _ _ hW (lv_sub hl [3, 5, 1] rfl) hf
  · have hf := br_p c14 hf
    refine lv_iconst (v := 0) hx hb dX7_nextGuess_23 (by decide) ?_
    refine lv_goto (tgt := 29) hx hb dX7_nextGuess_24 (by decide) ?_
    exact h29 x4_12 0 x5_13 μ _ _ _ hW (lv_sub hl [3, 5, 1] rfl) hf
def fX7_nextNumber_b23  (k0 : Int32) : Option Int32 := if 0 ≤ k0 then (if k0 ≤ 48 then (some k0) else (some 48)) else (some 0)
def fX7_nextNumber (a0 : Int32) (a1 : Int32) : Option Int32 := nm (a1 &&& 7) fun x2_3 => if 4 ≤ x2_3 then (fX7_nextNumber_b23 (a0 + (2 * (x2_3 - 3)))) else (fX7_nextNumber_b23 (a0 - 1))
set_option maxHeartbeats 4000000 in
set_option maxRecDepth 100000 in
theorem mX7_nextNumber (l : Launch) {E : En} {σ μ : Sg} {dg : Int64} {a0 : Int32} {a1 : Int32}  {r : Int32} (hf : fX7_nextNumber a0 a1 = some r) : Met l yX7_nextNumber [.code yX7_nextNumber cX7_nextNumber 4 (some .int)] (Rm 0 0) (va_Pc [.int a0, .int a1] (Wd E σ μ dg)) (Qi E σ μ dg r) 0 0 (eP E) := by
  refine ss_of (by decide) (Nat.le_of_ble_eq_true rfl) (fun p e s m below meth c hx hb hr hlk hml hown hK hW ls hl => ?_)
  have hown : s.vm.findClass RX7 = some m.cls := hown
  have hl : lv_has ls 4 [(0, .int a0), (1, .int a1)] := hl
  unfold fX7_nextNumber at hf
  have h23 : ∀ (k0 : Int32) (H : Heap) (locs : List Loc) (ls : Array Slot), Wk E σ μ dg s H locs → lv_has ls 4 [] → fX7_nextNumber_b23 k0 = some r → W p l e (Rm 0 0) s m [.int a0, .int a1].toArray below meth c H locs 0 0 (MQ below (Qi E σ μ dg r) [.int a0, .int a1].toArray s 0 0 (eP E)) (F0 m 23 ls [.int k0]) := by
    intro k0  H locs ls hW hl hf
    unfold fX7_nextNumber_b23 at hf
    refine lv_istore_n (lv' := [(3, .int k0)]) hx hb dX7_nextNumber_23 rfl hl (by decide) rfl (fun ls hl => ?_)
    refine lv_iload_n hx hb dX7_nextNumber_24 rfl (lv_at hl 0 rfl) ?_
    refine lv_if_ge (tgt := 32) hx hb dX7_nextNumber_25 (by decide) (fun c1 => ?_) (fun c1 => ?_)
    · have hf := br_p c1 hf
      refine lv_iload_n hx hb dX7_nextNumber_32 rfl (lv_at hl 0 rfl) ?_
      refine lv_bipush (v := 48) hx hb dX7_nextNumber_33 (by decide) ?_
      refine lv_icmp_le (tgt := 43) hx hb dX7_nextNumber_35 (by decide) (fun c2 => ?_) (fun c2 => ?_)
      · have hf := br_p c2 hf
        refine lv_iload_n hx hb dX7_nextNumber_43 rfl (lv_at hl 0 rfl) ?_
        exact ss_iret hx hb hr hlk hW (Option.some.inj hf) dX7_nextNumber_44
      · have hf := br_n c2 hf
        refine lv_bipush (v := 48) hx hb dX7_nextNumber_38 (by decide) ?_
        refine lv_goto (tgt := 44) hx hb dX7_nextNumber_40 (by decide) ?_
        exact ss_iret hx hb hr hlk hW (Option.some.inj hf) dX7_nextNumber_44
    · have hf := br_n c1 hf
      refine lv_iconst (v := 0) hx hb dX7_nextNumber_28 (by decide) ?_
      refine lv_goto (tgt := 44) hx hb dX7_nextNumber_29 (by decide) ?_
      exact ss_iret hx hb hr hlk hW (Option.some.inj hf) dX7_nextNumber_44
  refine lv_iload_n hx hb dX7_nextNumber_0 rfl (lv_at hl 1 rfl) ?_
  refine lv_bipush (v := 7) hx hb dX7_nextNumber_1 (by decide) ?_
  refine lv_iand hx hb dX7_nextNumber_3 ?_
  refine lv_topi (fun x2_3 ex2_3 => ?_)
  have hf := nm_use ex2_3 hf
  refine lv_istore_n (lv' := [(2, .int x2_3), (0, .int a0), (1, .int a1)]) hx hb dX7_nextNumber_4 rfl hl (by decide) rfl (fun ls hl => ?_)
  refine lv_iload_n hx hb dX7_nextNumber_5 rfl (lv_at hl 0 rfl) ?_
  refine lv_iconst (v := 4) hx hb dX7_nextNumber_6 (by decide) ?_
  refine lv_icmp_ge (tgt := 16) hx hb dX7_nextNumber_7 (by decide) (fun c4 => ?_) (fun c4 => ?_)
  · have hf := br_p c4 hf
    refine lv_iload_n hx hb dX7_nextNumber_16 rfl (lv_at hl 1 rfl) ?_
    refine lv_iconst (v := 2) hx hb dX7_nextNumber_17 (by decide) ?_
    refine lv_iload_n hx hb dX7_nextNumber_18 rfl (lv_at hl 0 rfl) ?_
    refine lv_iconst (v := 3) hx hb dX7_nextNumber_19 (by decide) ?_
    refine lv_isub hx hb dX7_nextNumber_20 ?_
    refine lv_imul hx hb dX7_nextNumber_21 ?_
    refine lv_iadd hx hb dX7_nextNumber_22 ?_
    exact h23 (a0 + (2 * (x2_3 - 3))) _ _ _ hW (lv_sub hl [] rfl) hf
  · have hf := br_n c4 hf
    refine lv_iload_n hx hb dX7_nextNumber_10 rfl (lv_at hl 1 rfl) ?_
    refine lv_iconst (v := 1) hx hb dX7_nextNumber_11 (by decide) ?_
    refine lv_isub hx hb dX7_nextNumber_12 ?_
    refine lv_goto (tgt := 23) hx hb dX7_nextNumber_13 (by decide) ?_
    exact h23 (a0 - 1) _ _ _ hW (lv_sub hl [] rfl) hf
def fX7_square (a0 : Int32) : Option Int32 := some (a0 * a0)
set_option maxHeartbeats 4000000 in
set_option maxRecDepth 100000 in
theorem mX7_square (l : Launch) {E : En} {σ μ : Sg} {dg : Int64} {a0 : Int32}  {r : Int32} (hf : fX7_square a0 = some r) : Met l yX7_square [.code yX7_square cX7_square 1 (some .int)] (Rm 0 0) (va_Pc [.int a0] (Wd E σ μ dg)) (Qi E σ μ dg r) 0 0 (eP E) := by
  refine ss_of (by decide) (Nat.le_of_ble_eq_true rfl) (fun p e s m below meth c hx hb hr hlk hml hown hK hW ls hl => ?_)
  have hown : s.vm.findClass RX7 = some m.cls := hown
  have hl : lv_has ls 1 [(0, .int a0)] := hl
  unfold fX7_square at hf
  refine lv_iload_n hx hb dX7_square_0 rfl (lv_at hl 0 rfl) ?_
  refine lv_iload_n hx hb dX7_square_1 rfl (lv_at hl 0 rfl) ?_
  refine lv_imul hx hb dX7_square_2 ?_
  exact ss_iret hx hb hr hlk hW (Option.some.inj hf) dX7_square_3
def fX7_errorOf_L22 (a1 : Int32) (a2 : Int32) (n : Nat) (x4 : Int32) (x5 : Int32) (x6 : Int32) (x7 : Int32) (μ : Sg) : Option Int32 := match n with
  | 0 => none
  | n + 1 => if (a1 + a2) ≤ x7 then (some x4) else (gd (¬ ((7 + x7) < 0 ∨ 295 ≤ ((7 + x7)).toNatClampNeg)) <| bd (fX7_codeFor x5 x6 (μ 0 ((7 + x7)).toNatClampNeg) μ) fun r4 => bd (fX7_nextGuess x5 x6 r4 μ) fun r6 => bd (fX7_nextNumber x6 r4) fun r8 => gd (¬ ((7 + x7) < 0 ∨ 295 ≤ ((7 + x7)).toNatClampNeg)) <| bd (fX7_square ((μ 0 ((7 + x7)).toNatClampNeg) - r6)) fun r11 => nm (x4 + r11) fun x4_12 => nm (x7 + 1) fun x7_13 => (fun x4 x5 x6 x7 μ => fX7_errorOf_L22 a1 a2 n x4 x5 x6 x7 μ) x4_12 r6 r8 x7_13 μ)
def fX7_errorOf (a1 : Int32) (a2 : Int32) (a3 : Int32) (μ : Sg) : Option Int32 := gd (¬ ((7 + a1) < 0 ∨ 295 ≤ ((7 + a1)).toNatClampNeg)) <| nm (μ 0 ((7 + a1)).toNatClampNeg) fun x5_15 => nm (a1 + 1) fun x7_16 => fX7_errorOf_L22 a1 a2 80 0 x5_15 a3 x7_16 μ
set_option maxHeartbeats 4000000 in
set_option maxRecDepth 100000 in
theorem mX7_errorOf (l : Launch) {E : En} {σ μ : Sg} {dg : Int64} {a1 : Int32} {a2 : Int32} {a3 : Int32}  {r : Int32} (hf : fX7_errorOf a1 a2 a3 μ = some r) : Met l yX7_errorOf [.code yX7_errorOf cX7_errorOf 9 (some .int)] (Rm 2 45) (va_Pc [.ref (eA E 9), .int a1, .int a2, .int a3] (Wd E σ μ dg)) (Qi E σ μ dg r) 0 0 (eP E) := by
  refine ss_of (by decide) (Nat.le_of_ble_eq_true rfl) (fun p e s m below meth c hx hb hr hlk hml hown hK hW ls hl => ?_)
  have hown : s.vm.findClass RX7 = some m.cls := hown
  have hl : lv_has ls 9 [(0, .ref (eA E 9)), (1, .int a1), (2, .int a2), (3, .int a3)] := hl
  unfold fX7_errorOf at hf
  have h22 : ∀ (n22 : Nat) (x4 : Int32) (x5 : Int32) (x6 : Int32) (x7 : Int32) (μ : Sg) (H : Heap) (locs : List Loc) (ls : Array Slot), Wk E σ μ dg s H locs → lv_has ls 9 [(0, .ref (eA E 9)), (1, .int a1), (2, .int a2), (4, .int x4), (5, .int x5), (6, .int x6), (7, .int x7)] → fX7_errorOf_L22 a1 a2 n22 x4 x5 x6 x7 μ = some r → W p l e (Rm 2 45) s m [.ref (eA E 9), .int a1, .int a2, .int a3].toArray below meth c H locs 0 0 (MQ below (Qi E σ μ dg r) [.ref (eA E 9), .int a1, .int a2, .int a3].toArray s 0 0 (eP E)) (F0 m 22 ls []) := by
    intro n22
    induction n22 with
    | zero =>
      intro x4 x5 x6 x7 μ  H locs ls hW hl hf
      exact absurd hf (by simp [fX7_errorOf_L22])
    | succ n22 ih22 =>
      intro x4 x5 x6 x7 μ  H locs ls hW hl hf
      rw [fX7_errorOf_L22] at hf
      refine lv_iload hx hb dX7_errorOf_22 (lv_at hl 6 rfl) ?_
      refine lv_iload_n hx hb dX7_errorOf_24 rfl (lv_at hl 1 rfl) ?_
      refine lv_iload_n hx hb dX7_errorOf_25 rfl (lv_at hl 2 rfl) ?_
      refine lv_iadd hx hb dX7_errorOf_26 ?_
      refine lv_icmp_ge (tgt := 98) hx hb dX7_errorOf_27 (by decide) (fun c1 => ?_) (fun c1 => ?_)
      · have hf := br_p c1 hf
        refine lv_iload hx hb dX7_errorOf_98 (lv_at hl 3 rfl) ?_
        exact ss_iret hx hb hr hlk hW (Option.some.inj hf) dX7_errorOf_100
      · have hf := br_n c1 hf
        refine lv_aload_n hx hb dX7_errorOf_30 rfl (lv_at hl 0 rfl) ?_
        refine lv_iload hx hb dX7_errorOf_31 (lv_at hl 4 rfl) ?_
        refine lv_iload hx hb dX7_errorOf_33 (lv_at hl 5 rfl) ?_
        refine lv_aload_n hx hb dX7_errorOf_35 rfl (lv_at hl 0 rfl) ?_
        refine g_M_s hx hb hown hK hW kF_RX7_7 dX7_errorOf_36 ?_
        refine lv_bipush (v := 7) hx hb dX7_errorOf_39 (by decide) ?_
        refine lv_iload hx hb dX7_errorOf_41 (lv_at hl 6 rfl) ?_
        refine lv_iadd hx hb dX7_errorOf_43 ?_
        obtain ⟨hk2, hf⟩ := gd_inv hf
        refine l_M0 hx hb hK hW rfl hk2 dX7_errorOf_44 ?_
        obtain ⟨r4, q3, hf⟩ := bd_inv hf
        refine ss_callVi (As := [.int x5, .int x6, .int (μ 0 ((7 + x7)).toNatClampNeg)]) hx hb hml hown hK hW kb_X7_codeFor kM_RX7_71 rfl (by decide) (c_fx (by decide)) (mX7_codeFor l (a1 := x5) (a2 := x6) (a3 := (μ 0 ((7 + x7)).toNatClampNeg)) q3) rfl dX7_errorOf_45 rfl hl.1 (Nat.le_of_ble_eq_true rfl) ⟨Nat.le_of_ble_eq_true rfl, Nat.le_of_ble_eq_true rfl⟩ ⟨Nat.zero_le _, Nat.zero_le _⟩ (fun H locs hW => ?_)
        refine lv_istore (lv' := [(8, .int r4), (0, .ref (eA E 9)), (1, .int a1), (2, .int a2), (4, .int x4), (5, .int x5), (6, .int x6), (7, .int x7)]) hx hb dX7_errorOf_48 hl (by decide) rfl (fun ls hl => ?_)
        refine lv_aload_n hx hb dX7_errorOf_50 rfl (lv_at hl 1 rfl) ?_
        refine lv_iload hx hb dX7_errorOf_51 (lv_at hl 5 rfl) ?_
        refine lv_iload hx hb dX7_errorOf_53 (lv_at hl 6 rfl) ?_
        refine lv_iload hx hb dX7_errorOf_55 (lv_at hl 0 rfl) ?_
        obtain ⟨r6, q5, hf⟩ := bd_inv hf
        refine ss_callVi (As := [.int x5, .int x6, .int r4]) hx hb hml hown hK hW kb_X7_nextGuess kM_RX7_75 rfl (by decide) (c_fx (by decide)) (mX7_nextGuess l (a1 := x5) (a2 := x6) (a3 := r4) q5) rfl dX7_errorOf_57 rfl hl.1 (Nat.le_of_ble_eq_true rfl) ⟨Nat.le_of_ble_eq_true rfl, Nat.le_of_ble_eq_true rfl⟩ ⟨Nat.zero_le _, Nat.zero_le _⟩ (fun H locs hW => ?_)
        refine lv_istore (lv' := [(5, .int r6), (8, .int r4), (0, .ref (eA E 9)), (1, .int a1), (2, .int a2), (4, .int x4), (6, .int x6), (7, .int x7)]) hx hb dX7_errorOf_60 hl (by decide) rfl (fun ls hl => ?_)
        refine lv_iload hx hb dX7_errorOf_62 (lv_at hl 6 rfl) ?_
        refine lv_iload hx hb dX7_errorOf_64 (lv_at hl 1 rfl) ?_
        obtain ⟨r8, q7, hf⟩ := bd_inv hf
        refine ss_callSi (As := [.int x6, .int r4]) hx hb hml hown hK hW kb_X7_nextNumber kM_RX7_78 (mX7_nextNumber l (a0 := x6) (a1 := r4) q7) rfl dX7_errorOf_66 rfl hl.1 (Nat.le_of_ble_eq_true rfl) ⟨Nat.le_of_ble_eq_true rfl, Nat.le_of_ble_eq_true rfl⟩ ⟨Nat.zero_le _, Nat.zero_le _⟩ (fun H locs hW => ?_)
        refine lv_istore (lv' := [(6, .int r8), (5, .int r6), (8, .int r4), (0, .ref (eA E 9)), (1, .int a1), (2, .int a2), (4, .int x4), (7, .int x7)]) hx hb dX7_errorOf_69 hl (by decide) rfl (fun ls hl => ?_)
        refine lv_iload hx hb dX7_errorOf_71 (lv_at hl 6 rfl) ?_
        refine lv_aload_n hx hb dX7_errorOf_73 rfl (lv_at hl 3 rfl) ?_
        refine g_M_s hx hb hown hK hW kF_RX7_7 dX7_errorOf_74 ?_
        refine lv_bipush (v := 7) hx hb dX7_errorOf_77 (by decide) ?_
        refine lv_iload hx hb dX7_errorOf_79 (lv_at hl 7 rfl) ?_
        refine lv_iadd hx hb dX7_errorOf_81 ?_
        obtain ⟨hk9, hf⟩ := gd_inv hf
        refine l_M0 hx hb hK hW rfl hk9 dX7_errorOf_82 ?_
        refine lv_iload hx hb dX7_errorOf_83 (lv_at hl 1 rfl) ?_
        refine lv_isub hx hb dX7_errorOf_85 ?_
        obtain ⟨r11, q10, hf⟩ := bd_inv hf
        refine ss_callSi (As := [.int ((μ 0 ((7 + x7)).toNatClampNeg) - r6)]) hx hb hml hown hK hW kb_X7_square kM_RX7_82 (mX7_square l (a0 := ((μ 0 ((7 + x7)).toNatClampNeg) - r6)) q10) rfl dX7_errorOf_86 rfl hl.1 (Nat.le_of_ble_eq_true rfl) ⟨Nat.le_of_ble_eq_true rfl, Nat.le_of_ble_eq_true rfl⟩ ⟨Nat.zero_le _, Nat.zero_le _⟩ (fun H locs hW => ?_)
        refine lv_iadd hx hb dX7_errorOf_89 ?_
        refine lv_topi (fun x4_12 ex4_12 => ?_)
        have hf := nm_use ex4_12 hf
        refine lv_istore (lv' := [(4, .int x4_12), (6, .int r8), (5, .int r6), (8, .int r4), (0, .ref (eA E 9)), (1, .int a1), (2, .int a2), (7, .int x7)]) hx hb dX7_errorOf_90 hl (by decide) rfl (fun ls hl => ?_)
        obtain ⟨x7_13, ex7_13⟩ : ∃ y : Int32, y = (x7 + 1) := ⟨_, rfl⟩
        have hf := nm_use ex7_13 hf
        refine lv_iinc (v := x7_13) (lv' := [(7, .int x7_13), (4, .int x4_12), (6, .int r8), (5, .int r6), (8, .int r4), (0, .ref (eA E 9)), (1, .int a1), (2, .int a2)]) hx hb dX7_errorOf_92 hl (k := 7) rfl (by rw [ex7_13]; rfl) (by decide) rfl (fun ls hl => ?_)
        refine lv_goto (tgt := 22) hx hb dX7_errorOf_95 (by decide) ?_
        exact ih22 x4_12 r6 r8 x7_13 μ _ _ _ hW (lv_sub hl [5, 6, 7, 1, 3, 2, 0] rfl) hf
  refine lv_iconst (v := 0) hx hb dX7_errorOf_0 (by decide) ?_
  refine lv_istore (lv' := [(4, .int 0), (0, .ref (eA E 9)), (1, .int a1), (2, .int a2), (3, .int a3)]) hx hb dX7_errorOf_1 hl (by decide) rfl (fun ls hl => ?_)
  refine lv_aload_n hx hb dX7_errorOf_3 rfl (lv_at hl 1 rfl) ?_
  refine g_M_s hx hb hown hK hW kF_RX7_7 dX7_errorOf_4 ?_
  refine lv_bipush (v := 7) hx hb dX7_errorOf_7 (by decide) ?_
  refine lv_iload_n hx hb dX7_errorOf_9 rfl (lv_at hl 2 rfl) ?_
  refine lv_iadd hx hb dX7_errorOf_10 ?_
  obtain ⟨hk14, hf⟩ := gd_inv hf
  refine l_M0 hx hb hK hW rfl hk14 dX7_errorOf_11 ?_
  refine lv_topi (fun x5_15 ex5_15 => ?_)
  have hf := nm_use ex5_15 hf
  refine lv_istore (lv' := [(5, .int x5_15), (4, .int 0), (0, .ref (eA E 9)), (1, .int a1), (2, .int a2), (3, .int a3)]) hx hb dX7_errorOf_12 hl (by decide) rfl (fun ls hl => ?_)
  refine lv_iload_n hx hb dX7_errorOf_14 rfl (lv_at hl 5 rfl) ?_
  refine lv_istore (lv' := [(6, .int a3), (5, .int x5_15), (4, .int 0), (0, .ref (eA E 9)), (1, .int a1), (2, .int a2), (3, .int a3)]) hx hb dX7_errorOf_15 hl (by decide) rfl (fun ls hl => ?_)
  refine lv_iload_n hx hb dX7_errorOf_17 rfl (lv_at hl 4 rfl) ?_
  refine lv_iconst (v := 1) hx hb dX7_errorOf_18 (by decide) ?_
  refine lv_iadd hx hb dX7_errorOf_19 ?_
  refine lv_topi (fun x7_16 ex7_16 => ?_)
  have hf := nm_use ex7_16 hf
  refine lv_istore (lv' := [(7, .int x7_16), (6, .int a3), (5, .int x5_15), (4, .int 0), (0, .ref (eA E 9)), (1, .int a1), (2, .int a2), (3, .int a3)]) hx hb dX7_errorOf_20 hl (by decide) rfl (fun ls hl => ?_)
  exact h22 80 0 x5_15 a3 x7_16 μ _ _ _ hW (lv_sub hl [4, 5, 6, 3, 2, 1, 0] rfl) hf
def fX7_best_L7 (a1 : Int32) (a2 : Int32) (n : Nat) (x3 : Int32) (x4 : Int32) (μ : Sg) : Option Int32 := match n with
  | 0 => none
  | n + 1 => if x4 < 0 then (some x3) else (bd (fX7_errorOf a1 a2 x4 μ) fun r3 => bd (fX7_errorOf a1 a2 x3 μ) fun r5 => if r5 < r3 then (nm (x4 + (-1)) fun x4_7 => (fun x3 x4 μ => fX7_best_L7 a1 a2 n x3 x4 μ) x3 x4_7 μ) else (nm (x4 + (-1)) fun x4_8 => (fun x3 x4 μ => fX7_best_L7 a1 a2 n x3 x4 μ) x4 x4_8 μ))
def fX7_best (a1 : Int32) (a2 : Int32) (μ : Sg) : Option Int32 := fX7_best_L7 a1 a2 80 48 47 μ
set_option maxHeartbeats 4000000 in
set_option maxRecDepth 100000 in
theorem mX7_best (l : Launch) {E : En} {σ μ : Sg} {dg : Int64} {a1 : Int32} {a2 : Int32}  {r : Int32} (hf : fX7_best a1 a2 μ = some r) : Met l yX7_best [.code yX7_best cX7_best 5 (some .int)] (Rm 3 73) (va_Pc [.ref (eA E 9), .int a1, .int a2] (Wd E σ μ dg)) (Qi E σ μ dg r) 0 0 (eP E) := by
  refine ss_of (by decide) (Nat.le_of_ble_eq_true rfl) (fun p e s m below meth c hx hb hr hlk hml hown hK hW ls hl => ?_)
  have hown : s.vm.findClass RX7 = some m.cls := hown
  have hl : lv_has ls 5 [(0, .ref (eA E 9)), (1, .int a1), (2, .int a2)] := hl
  unfold fX7_best at hf
  have h7 : ∀ (n7 : Nat) (x3 : Int32) (x4 : Int32) (μ : Sg) (H : Heap) (locs : List Loc) (ls : Array Slot), Wk E σ μ dg s H locs → lv_has ls 5 [(0, .ref (eA E 9)), (1, .int a1), (2, .int a2), (3, .int x3), (4, .int x4)] → fX7_best_L7 a1 a2 n7 x3 x4 μ = some r → W p l e (Rm 3 73) s m [.ref (eA E 9), .int a1, .int a2].toArray below meth c H locs 0 0 (MQ below (Qi E σ μ dg r) [.ref (eA E 9), .int a1, .int a2].toArray s 0 0 (eP E)) (F0 m 7 ls []) := by
    intro n7
    induction n7 with
    | zero =>
      intro x3 x4 μ  H locs ls hW hl hf
      exact absurd hf (by simp [fX7_best_L7])
    | succ n7 ih7 =>
      intro x3 x4 μ  H locs ls hW hl hf
      rw [fX7_best_L7] at hf
      refine lv_iload hx hb dX7_best_7 (lv_at hl 4 rfl) ?_
      refine lv_if_lt (tgt := 43) hx hb dX7_best_9 (by decide) (fun c1 => ?_) (fun c1 => ?_)
      · have hf := br_p c1 hf
        refine lv_iload_n hx hb dX7_best_43 rfl (lv_at hl 3 rfl) ?_
        exact ss_iret hx hb hr hlk hW (Option.some.inj hf) dX7_best_44
      · have hf := br_n c1 hf
        refine lv_aload_n hx hb dX7_best_12 rfl (lv_at hl 0 rfl) ?_
        refine lv_iload_n hx hb dX7_best_13 rfl (lv_at hl 1 rfl) ?_
        refine lv_iload_n hx hb dX7_best_14 rfl (lv_at hl 2 rfl) ?_
        refine lv_iload hx hb dX7_best_15 (lv_at hl 4 rfl) ?_
        obtain ⟨r3, q2, hf⟩ := bd_inv hf
        refine ss_callVi (As := [.int a1, .int a2, .int x4]) hx hb hml hown hK hW kb_X7_errorOf kM_RX7_85 rfl (by decide) (c_fx (by decide)) (mX7_errorOf l (a1 := a1) (a2 := a2) (a3 := x4) q2) rfl dX7_best_17 rfl hl.1 (Nat.le_of_ble_eq_true rfl) ⟨Nat.le_of_ble_eq_true rfl, Nat.le_of_ble_eq_true rfl⟩ ⟨Nat.zero_le _, Nat.zero_le _⟩ (fun H locs hW => ?_)
        refine lv_aload_n hx hb dX7_best_20 rfl (lv_at hl 0 rfl) ?_
        refine lv_iload_n hx hb dX7_best_21 rfl (lv_at hl 1 rfl) ?_
        refine lv_iload_n hx hb dX7_best_22 rfl (lv_at hl 2 rfl) ?_
        refine lv_iload_n hx hb dX7_best_23 rfl (lv_at hl 3 rfl) ?_
        obtain ⟨r5, q4, hf⟩ := bd_inv hf
        refine ss_callVi (As := [.int a1, .int a2, .int x3]) hx hb hml hown hK hW kb_X7_errorOf kM_RX7_85 rfl (by decide) (c_fx (by decide)) (mX7_errorOf l (a1 := a1) (a2 := a2) (a3 := x3) q4) rfl dX7_best_24 rfl hl.1 (Nat.le_of_ble_eq_true rfl) ⟨Nat.le_of_ble_eq_true rfl, Nat.le_of_ble_eq_true rfl⟩ ⟨Nat.zero_le _, Nat.zero_le _⟩ (fun H locs hW => ?_)
        refine lv_icmp_gt (tgt := 35) hx hb dX7_best_27 (by decide) (fun c6 => ?_) (fun c6 => ?_)
        · have hf := br_p c6 hf
          refine lv_iload_n hx hb dX7_best_35 rfl (lv_at hl 3 rfl) ?_
          refine lv_istore_n (lv' := [(3, .int x3), (0, .ref (eA E 9)), (1, .int a1), (2, .int a2), (4, .int x4)]) hx hb dX7_best_36 rfl hl (by decide) rfl (fun ls hl => ?_)
          obtain ⟨x4_7, ex4_7⟩ : ∃ y : Int32, y = (x4 + (-1)) := ⟨_, rfl⟩
          have hf := nm_use ex4_7 hf
          refine lv_iinc (v := x4_7) (lv' := [(4, .int x4_7), (3, .int x3), (0, .ref (eA E 9)), (1, .int a1), (2, .int a2)]) hx hb dX7_best_37 hl (k := 4) rfl (by rw [ex4_7]; rfl) (by decide) rfl (fun ls hl => ?_)
          refine lv_goto (tgt := 7) hx hb dX7_best_40 (by decide) ?_
          exact ih7 x3 x4_7 μ _ _ _ hW (lv_sub hl [2, 3, 4, 1, 0] rfl) hf
        · have hf := br_n c6 hf
          refine lv_iload hx hb dX7_best_30 (lv_at hl 4 rfl) ?_
          refine lv_goto (tgt := 36) hx hb dX7_best_32 (by decide) ?_
          refine lv_istore_n (lv' := [(3, .int x4), (0, .ref (eA E 9)), (1, .int a1), (2, .int a2), (4, .int x4)]) hx hb dX7_best_36 rfl hl (by decide) rfl (fun ls hl => ?_)
          obtain ⟨x4_8, ex4_8⟩ : ∃ y : Int32, y = (x4 + (-1)) := ⟨_, rfl⟩
          have hf := nm_use ex4_8 hf
          refine lv_iinc (v := x4_8) (lv' := [(4, .int x4_8), (3, .int x4), (0, .ref (eA E 9)), (1, .int a1), (2, .int a2)]) hx hb dX7_best_37 hl (k := 4) rfl (by rw [ex4_8]; rfl) (by decide) rfl (fun ls hl => ?_)
          refine lv_goto (tgt := 7) hx hb dX7_best_40 (by decide) ?_
          exact ih7 x4 x4_8 μ _ _ _ hW (lv_sub hl [2, 3, 4, 1, 0] rfl) hf
  refine lv_bipush (v := 48) hx hb dX7_best_0 (by decide) ?_
  refine lv_istore_n (lv' := [(3, .int 48), (0, .ref (eA E 9)), (1, .int a1), (2, .int a2)]) hx hb dX7_best_2 rfl hl (by decide) rfl (fun ls hl => ?_)
  refine lv_bipush (v := 47) hx hb dX7_best_3 (by decide) ?_
  refine lv_istore (lv' := [(4, .int 47), (3, .int 48), (0, .ref (eA E 9)), (1, .int a1), (2, .int a2)]) hx hb dX7_best_5 hl (by decide) rfl (fun ls hl => ?_)
  exact h7 80 48 47 μ _ _ _ hW (lv_sub hl [2, 3, 4, 1, 0] rfl) hf
def fX7_bestStep_b15 (a1 : Int32) (a2 : Int32) (k0 : Int32) (μ : Sg) : Option (Int32 × Sg) := bd2 (fX7_holds k0 μ) fun r2 u3 => if r2 = 0 then (some (0, u3)) else (bd (fX7_best a1 a2 u3) fun r6 => some (r6, u3))
def fX7_bestStep (a1 : Int32) (a2 : Int32) (μ : Sg) : Option (Int32 × Sg) := bd (fX7_areSamples a1 a2 μ) fun r8 => if r8 = 0 then (fX7_bestStep_b15 a1 a2 1 μ) else (fX7_bestStep_b15 a1 a2 0 μ)
set_option maxHeartbeats 4000000 in
set_option maxRecDepth 100000 in
theorem mX7_bestStep (l : Launch) {E : En} {σ μ : Sg} {dg : Int64} {a1 : Int32} {a2 : Int32}  {r : Int32} {μ' : Sg} (hf : fX7_bestStep a1 a2 μ = some (r, μ')) : Met l yX7_bestStep [.code yX7_bestStep cX7_bestStep 3 (some .int)] (Rm 4 97) (va_Pc [.ref (eA E 9), .int a1, .int a2] (Wd E σ μ dg)) (Qi E σ μ' dg r) 0 0 (eP E) := by
  refine ss_of (by decide) (Nat.le_of_ble_eq_true rfl) (fun p e s m below meth c hx hb hr hlk hml hown hK hW ls hl => ?_)
  have hown : s.vm.findClass RX7 = some m.cls := hown
  have hl : lv_has ls 3 [(0, .ref (eA E 9)), (1, .int a1), (2, .int a2)] := hl
  unfold fX7_bestStep at hf
  have h15 : ∀ (k0 : Int32) (μ : Sg) (H : Heap) (locs : List Loc) (ls : Array Slot), Wk E σ μ dg s H locs → lv_has ls 3 [(0, .ref (eA E 9)), (1, .int a1), (2, .int a2)] → fX7_bestStep_b15 a1 a2 k0 μ = some (r, μ') → W p l e (Rm 4 97) s m [.ref (eA E 9), .int a1, .int a2].toArray below meth c H locs 0 0 (MQ below (Qi E σ μ' dg r) [.ref (eA E 9), .int a1, .int a2].toArray s 0 0 (eP E)) (F0 m 15 ls [.int k0, .ref (eA E 9)]) := by
    intro k0 μ  H locs ls hW hl hf
    unfold fX7_bestStep_b15 at hf
    obtain ⟨r2, u3, q1, hf⟩ := bd2_inv hf
    refine ss_callVi (As := [.int k0]) hx hb hml hown hK hW kb_X7_holds kM_RX7_97 rfl (by decide) (c_fx (by decide)) (mX7_holds l (a1 := k0) q1) rfl dX7_bestStep_15 rfl hl.1 (Nat.le_of_ble_eq_true rfl) ⟨Nat.le_of_ble_eq_true rfl, Nat.le_of_ble_eq_true rfl⟩ ⟨Nat.zero_le _, Nat.zero_le _⟩ (fun H locs hW => ?_)
    refine lv_if_eq (tgt := 30) hx hb dX7_bestStep_18 (by decide) (fun c4 => ?_) (fun c4 => ?_)
    · have hf := br_p c4 hf
      refine lv_iconst (v := 0) hx hb dX7_bestStep_30 (by decide) ?_
      cases hf
      exact ss_iret hx hb hr hlk hW rfl dX7_bestStep_31
    · have hf := br_n c4 hf
      refine lv_aload_n hx hb dX7_bestStep_21 rfl (lv_at hl 0 rfl) ?_
      refine lv_iload_n hx hb dX7_bestStep_22 rfl (lv_at hl 1 rfl) ?_
      refine lv_iload_n hx hb dX7_bestStep_23 rfl (lv_at hl 2 rfl) ?_
      obtain ⟨r6, q5, hf⟩ := bd_inv hf
      refine ss_callVi (As := [.int a1, .int a2]) hx hb hml hown hK hW kb_X7_best kM_RX7_110 rfl (by decide) (c_fx (by decide)) (mX7_best l (a1 := a1) (a2 := a2) q5) rfl dX7_bestStep_24 rfl hl.1 (Nat.le_of_ble_eq_true rfl) ⟨Nat.le_of_ble_eq_true rfl, Nat.le_of_ble_eq_true rfl⟩ ⟨Nat.zero_le _, Nat.zero_le _⟩ (fun H locs hW => ?_)
      refine lv_goto (tgt := 31) hx hb dX7_bestStep_27 (by decide) ?_
      cases hf
      exact ss_iret hx hb hr hlk hW rfl dX7_bestStep_31
  refine lv_aload_n hx hb dX7_bestStep_0 rfl (lv_at hl 0 rfl) ?_
  refine lv_aload_n hx hb dX7_bestStep_1 rfl (lv_at hl 0 rfl) ?_
  refine lv_iload_n hx hb dX7_bestStep_2 rfl (lv_at hl 1 rfl) ?_
  refine lv_iload_n hx hb dX7_bestStep_3 rfl (lv_at hl 2 rfl) ?_
  obtain ⟨r8, q7, hf⟩ := bd_inv hf
  refine ss_callVi (As := [.int a1, .int a2]) hx hb hml hown hK hW kb_X7_areSamples kM_RX7_191 rfl (by decide) (c_fx (by decide)) (mX7_areSamples l (a1 := a1) (a2 := a2) q7) rfl dX7_bestStep_4 rfl hl.1 (Nat.le_of_ble_eq_true rfl) ⟨Nat.le_of_ble_eq_true rfl, Nat.le_of_ble_eq_true rfl⟩ ⟨Nat.zero_le _, Nat.zero_le _⟩ (fun H locs hW => ?_)
  refine lv_if_eq (tgt := 14) hx hb dX7_bestStep_7 (by decide) (fun c9 => ?_) (fun c9 => ?_)
  · have hf := br_p c9 hf
    refine lv_iconst (v := 1) hx hb dX7_bestStep_14 (by decide) ?_
    exact h15 1 μ _ _ _ hW (lv_sub hl [0, 1, 2] rfl) hf
  · have hf := br_n c9 hf
    refine lv_iconst (v := 0) hx hb dX7_bestStep_10 (by decide) ?_
    refine lv_goto (tgt := 15) hx hb dX7_bestStep_11 (by decide) ?_
    exact h15 0 μ _ _ _ hW (lv_sub hl [0, 1, 2] rfl) hf
def fX7_bitsOf_L37  (n : Nat) (x2 : Int64) (x4 : UInt64) : Option Int64 := match n with
  | 0 => none
  | n + 1 => if (Op.cmpValue (FP.dcmp x4 4611686018427387904) .l) < 0 then (gd ((FP.dsub x4 FP.dconst1) &&& 0x7fffffffffffffff ≤ 0x7ff0000000000000) <| gd ((FP.dmul (FP.dsub x4 FP.dconst1) 4841369599423283200) &&& 0x7fffffffffffffff ≤ 0x7ff0000000000000) <| some ((x2 * 4503599627370496) + (FP.d2l (FP.dmul (FP.dsub x4 FP.dconst1) 4841369599423283200)))) else (gd ((FP.dmul x4 4602678819172646912) &&& 0x7fffffffffffffff ≤ 0x7ff0000000000000) <| nm (FP.dmul x4 4602678819172646912) fun x4_5 => nm (x2 + 1) fun x2_6 => (fun x2 x4 => fX7_bitsOf_L37 n x2 x4) x2_6 x4_5)
def fX7_bitsOf_L15  (n : Nat) (x2 : Int64) (x4 : UInt64) : Option Int64 := match n with
  | 0 => none
  | n + 1 => if 0 ≤ (Op.cmpValue (FP.dcmp x4 FP.dconst1) .g) then (fX7_bitsOf_L37 80 x2 x4) else (gd ((FP.dmul x4 4611686018427387904) &&& 0x7fffffffffffffff ≤ 0x7ff0000000000000) <| nm (FP.dmul x4 4611686018427387904) fun x4_9 => nm (x2 - 1) fun x2_10 => (fun x2 x4 => fX7_bitsOf_L15 n x2 x4) x2_10 x4_9)
def fX7_bitsOf (a0 : UInt64) : Option Int64 := if (Op.cmpValue (FP.dcmp a0 FP.dconst0) .l) = 0 then (some 0) else (fX7_bitsOf_L15 80 1023 a0)
set_option maxHeartbeats 4000000 in
set_option maxRecDepth 100000 in
theorem mX7_bitsOf (l : Launch) {E : En} {σ μ : Sg} {dg : Int64} {a0 : UInt64}  {r : Int64} (hf : fX7_bitsOf a0 = some r) : Met l yX7_bitsOf [.code yX7_bitsOf cX7_bitsOf 6 (some .long)] (Rm 0 0) (va_Pc [.double a0] (Wd E σ μ dg)) (Ql E σ μ dg r) 0 0 (eP E) := by
  refine ss_of (by decide) (Nat.le_of_ble_eq_true rfl) (fun p e s m below meth c hx hb hr hlk hml hown hK hW ls hl => ?_)
  have hown : s.vm.findClass RX7 = some m.cls := hown
  have hl : lv_has ls 6 [(0, .double a0)] := hl
  unfold fX7_bitsOf at hf
  have h37 : ∀ (n37 : Nat) (x2 : Int64) (x4 : UInt64) (H : Heap) (locs : List Loc) (ls : Array Slot), Wk E σ μ dg s H locs → lv_has ls 6 [(2, .long x2), (4, .double x4)] → fX7_bitsOf_L37 n37 x2 x4 = some r → W p l e (Rm 0 0) s m [.double a0].toArray below meth c H locs 0 0 (MQ below (Ql E σ μ dg r) [.double a0].toArray s 0 0 (eP E)) (F0 m 37 ls []) := by
    intro n37
    induction n37 with
    | zero =>
      intro x2 x4  H locs ls hW hl hf
      exact absurd hf (by simp [fX7_bitsOf_L37])
    | succ n37 ih37 =>
      intro x2 x4  H locs ls hW hl hf
      rw [fX7_bitsOf_L37] at hf
      refine lv_dload hx hb dX7_bitsOf_37 (lv_at hl 1 rfl) ?_
      refine lv_ldc2d (own := RX7) hx hb hown (hK.2.1.at kC_RX7_208 _) dX7_bitsOf_39 ?_
      refine lv_dcmp hx hb dX7_bitsOf_42 ?_
      refine lv_if_lt (tgt := 61) hx hb dX7_bitsOf_43 (by decide) (fun c1 => ?_) (fun c1 => ?_)
      · have hf := br_p c1 hf
        refine lv_lload_n hx hb dX7_bitsOf_61 rfl (lv_at hl 0 rfl) ?_
        refine lv_ldc2 (own := RX7) hx hb hown (hK.2.1.at kC_RX7_212 _) dX7_bitsOf_62 ?_
        refine lv_lmul hx hb dX7_bitsOf_65 ?_
        refine lv_dload hx hb dX7_bitsOf_66 (lv_at hl 1 rfl) ?_
        refine lv_dconst1 hx hb dX7_bitsOf_68 ?_
        obtain ⟨hn2, hf⟩ := gd_inv hf
        refine lv_dsub hx hb dX7_bitsOf_69 hn2 ?_
        refine lv_ldc2d (own := RX7) hx hb hown (hK.2.1.at kC_RX7_214 _) dX7_bitsOf_70 ?_
        obtain ⟨hn3, hf⟩ := gd_inv hf
        refine lv_dmul hx hb dX7_bitsOf_73 hn3 ?_
        refine lv_d2l hx hb dX7_bitsOf_74 ?_
        refine lv_ladd hx hb dX7_bitsOf_75 ?_
        exact ss_lret hx hb hr hlk hW (Option.some.inj hf) dX7_bitsOf_76
      · have hf := br_n c1 hf
        refine lv_dload hx hb dX7_bitsOf_46 (lv_at hl 1 rfl) ?_
        refine lv_ldc2d (own := RX7) hx hb hown (hK.2.1.at kC_RX7_210 _) dX7_bitsOf_48 ?_
        obtain ⟨hn4, hf⟩ := gd_inv hf
        refine lv_dmul hx hb dX7_bitsOf_51 hn4 ?_
        refine lv_topd (fun x4_5 ex4_5 => ?_)
        have hf := nm_use ex4_5 hf
        refine lv_dstore (lv' := [(4, .double x4_5), (2, .long x2)]) hx hb dX7_bitsOf_52 hl (by decide) rfl (fun ls hl => ?_)
        refine lv_lload_n hx hb dX7_bitsOf_54 rfl (lv_at hl 1 rfl) ?_
        refine lv_lconst (v := 1) hx hb dX7_bitsOf_55 (by decide) ?_
        refine lv_ladd hx hb dX7_bitsOf_56 ?_
        refine lv_topl (fun x2_6 ex2_6 => ?_)
        have hf := nm_use ex2_6 hf
        refine lv_lstore_n (lv' := [(2, .long x2_6), (4, .double x4_5)]) hx hb dX7_bitsOf_57 rfl hl (by decide) rfl (fun ls hl => ?_)
        refine lv_goto (tgt := 37) hx hb dX7_bitsOf_58 (by decide) ?_
        exact ih37 x2_6 x4_5 _ _ _ hW (lv_sub hl [0, 1] rfl) hf
  have h15 : ∀ (n15 : Nat) (x2 : Int64) (x4 : UInt64) (H : Heap) (locs : List Loc) (ls : Array Slot), Wk E σ μ dg s H locs → lv_has ls 6 [(2, .long x2), (4, .double x4)] → fX7_bitsOf_L15 n15 x2 x4 = some r → W p l e (Rm 0 0) s m [.double a0].toArray below meth c H locs 0 0 (MQ below (Ql E σ μ dg r) [.double a0].toArray s 0 0 (eP E)) (F0 m 15 ls []) := by
    intro n15
    induction n15 with
    | zero =>
      intro x2 x4  H locs ls hW hl hf
      exact absurd hf (by simp [fX7_bitsOf_L15])
    | succ n15 ih15 =>
      intro x2 x4  H locs ls hW hl hf
      rw [fX7_bitsOf_L15] at hf
      refine lv_dload hx hb dX7_bitsOf_15 (lv_at hl 1 rfl) ?_
      refine lv_dconst1 hx hb dX7_bitsOf_17 ?_
      refine lv_dcmp hx hb dX7_bitsOf_18 ?_
      refine lv_if_ge (tgt := 37) hx hb dX7_bitsOf_19 (by decide) (fun c7 => ?_) (fun c7 => ?_)
      · have hf := br_p c7 hf
        exact h37 80 x2 x4 _ _ _ hW (lv_sub hl [0, 1] rfl) hf
      · have hf := br_n c7 hf
        refine lv_dload hx hb dX7_bitsOf_22 (lv_at hl 1 rfl) ?_
        refine lv_ldc2d (own := RX7) hx hb hown (hK.2.1.at kC_RX7_208 _) dX7_bitsOf_24 ?_
        obtain ⟨hn8, hf⟩ := gd_inv hf
        refine lv_dmul hx hb dX7_bitsOf_27 hn8 ?_
        refine lv_topd (fun x4_9 ex4_9 => ?_)
        have hf := nm_use ex4_9 hf
        refine lv_dstore (lv' := [(4, .double x4_9), (2, .long x2)]) hx hb dX7_bitsOf_28 hl (by decide) rfl (fun ls hl => ?_)
        refine lv_lload_n hx hb dX7_bitsOf_30 rfl (lv_at hl 1 rfl) ?_
        refine lv_lconst (v := 1) hx hb dX7_bitsOf_31 (by decide) ?_
        refine lv_lsub hx hb dX7_bitsOf_32 ?_
        refine lv_topl (fun x2_10 ex2_10 => ?_)
        have hf := nm_use ex2_10 hf
        refine lv_lstore_n (lv' := [(2, .long x2_10), (4, .double x4_9)]) hx hb dX7_bitsOf_33 rfl hl (by decide) rfl (fun ls hl => ?_)
        refine lv_goto (tgt := 15) hx hb dX7_bitsOf_34 (by decide) ?_
        exact ih15 x2_10 x4_9 _ _ _ hW (lv_sub hl [0, 1] rfl) hf
  refine lv_dload_n hx hb dX7_bitsOf_0 rfl (lv_at hl 0 rfl) ?_
  refine lv_dconst0 hx hb dX7_bitsOf_1 ?_
  refine lv_dcmp hx hb dX7_bitsOf_2 ?_
  refine lv_if_ne (tgt := 8) hx hb dX7_bitsOf_3 (by decide) (fun c11 => ?_) (fun c11 => ?_)
  · have hf := br_n c11 hf
    refine lv_ldc2 (own := RX7) hx hb hown (hK.2.1.at kC_RX7_206 _) dX7_bitsOf_8 ?_
    refine lv_lstore_n (lv' := [(2, .long 1023), (0, .double a0)]) hx hb dX7_bitsOf_11 rfl hl (by decide) rfl (fun ls hl => ?_)
    refine lv_dload_n hx hb dX7_bitsOf_12 rfl (lv_at hl 1 rfl) ?_
    refine lv_dstore (lv' := [(4, .double a0), (2, .long 1023), (0, .double a0)]) hx hb dX7_bitsOf_13 hl (by decide) rfl (fun ls hl => ?_)
    exact h15 80 1023 a0 _ _ _ hW (lv_sub hl [1, 0] rfl) hf
  · have hf := br_p c11 hf
    refine lv_lconst (v := 0) hx hb dX7_bitsOf_6 (by decide) ?_
    exact ss_lret hx hb hr hlk hW (Option.some.inj hf) dX7_bitsOf_7
def fX7_isCoded (μ : Sg) : Option Int32 := if (μ 0 1) = 1 then (some 1) else (some 0)
set_option maxHeartbeats 4000000 in
set_option maxRecDepth 100000 in
theorem mX7_isCoded (l : Launch) {E : En} {σ μ : Sg} {dg : Int64}   {r : Int32} (hf : fX7_isCoded μ = some r) : Met l yX7_isCoded [.code yX7_isCoded cX7_isCoded 1 (some .boolean)] (Rm 0 0) (va_Pc [.ref (eA E 9)] (Wd E σ μ dg)) (Qi E σ μ dg r) 0 0 (eP E) := by
  refine ss_of (by decide) (Nat.le_of_ble_eq_true rfl) (fun p e s m below meth c hx hb hr hlk hml hown hK hW ls hl => ?_)
  have hown : s.vm.findClass RX7 = some m.cls := hown
  have hl : lv_has ls 1 [(0, .ref (eA E 9))] := hl
  unfold fX7_isCoded at hf
  refine lv_aload_n hx hb dX7_isCoded_0 rfl (lv_at hl 0 rfl) ?_
  refine g_M_s hx hb hown hK hW kF_RX7_7 dX7_isCoded_1 ?_
  refine lv_iconst (v := 1) hx hb dX7_isCoded_4 (by decide) ?_
  refine l_M0 (k0 := 1) hx hb hK hW (by decide) (show ¬ ((1 : Int32) < 0 ∨ 295 ≤ (1 : Int32).toNatClampNeg) by decide) dX7_isCoded_5 ?_
  refine lv_iconst (v := 1) hx hb dX7_isCoded_6 (by decide) ?_
  refine lv_icmp_ne (tgt := 14) hx hb dX7_isCoded_7 (by decide) (fun c1 => ?_) (fun c1 => ?_)
  · have hf := br_n c1 hf
    refine lv_iconst (v := 0) hx hb dX7_isCoded_14 (by decide) ?_
    exact ss_zret hx hb hr hlk hW (Option.some.inj hf) rfl dX7_isCoded_15
  · have hf := br_p c1 hf
    refine lv_iconst (v := 1) hx hb dX7_isCoded_10 (by decide) ?_
    refine lv_goto (tgt := 15) hx hb dX7_isCoded_11 (by decide) ?_
    exact ss_zret hx hb hr hlk hW (Option.some.inj hf) rfl dX7_isCoded_15
def fX7_blocks (μ : Sg) : Option Int32 := bd (fX7_isCoded μ) fun r2 => if r2 = 0 then (some 0) else (gd (¬ (μ 0 2) = 0) <| some ((((μ 0 0) + (μ 0 2)) - 1) / (μ 0 2)))
set_option maxHeartbeats 4000000 in
set_option maxRecDepth 100000 in
theorem mX7_blocks (l : Launch) {E : En} {σ μ : Sg} {dg : Int64}   {r : Int32} (hf : fX7_blocks μ = some r) : Met l yX7_blocks [.code yX7_blocks cX7_blocks 1 (some .int)] (Rm 1 20) (va_Pc [.ref (eA E 9)] (Wd E σ μ dg)) (Qi E σ μ dg r) 0 0 (eP E) := by
  refine ss_of (by decide) (Nat.le_of_ble_eq_true rfl) (fun p e s m below meth c hx hb hr hlk hml hown hK hW ls hl => ?_)
  have hown : s.vm.findClass RX7 = some m.cls := hown
  have hl : lv_has ls 1 [(0, .ref (eA E 9))] := hl
  unfold fX7_blocks at hf
  refine lv_aload_n hx hb dX7_blocks_0 rfl (lv_at hl 0 rfl) ?_
  obtain ⟨r2, q1, hf⟩ := bd_inv hf
  refine ss_callVi (As := []) hx hb hml hown hK hW kb_X7_isCoded kM_RX7_55 rfl (by decide) (c_fx (by decide)) (mX7_isCoded l  q1) rfl dX7_blocks_1 rfl hl.1 (Nat.le_of_ble_eq_true rfl) ⟨Nat.le_of_ble_eq_true rfl, Nat.le_of_ble_eq_true rfl⟩ ⟨Nat.zero_le _, Nat.zero_le _⟩ (fun H locs hW => ?_)
  refine lv_if_eq (tgt := 32) hx hb dX7_blocks_4 (by decide) (fun c3 => ?_) (fun c3 => ?_)
  · have hf := br_p c3 hf
    refine lv_iconst (v := 0) hx hb dX7_blocks_32 (by decide) ?_
    exact ss_iret hx hb hr hlk hW (Option.some.inj hf) dX7_blocks_33
  · have hf := br_n c3 hf
    refine lv_aload_n hx hb dX7_blocks_7 rfl (lv_at hl 0 rfl) ?_
    refine g_M_s hx hb hown hK hW kF_RX7_7 dX7_blocks_8 ?_
    refine lv_iconst (v := 0) hx hb dX7_blocks_11 (by decide) ?_
    refine l_M0 (k0 := 0) hx hb hK hW (by decide) (show ¬ ((0 : Int32) < 0 ∨ 295 ≤ (0 : Int32).toNatClampNeg) by decide) dX7_blocks_12 ?_
    refine lv_aload_n hx hb dX7_blocks_13 rfl (lv_at hl 0 rfl) ?_
    refine g_M_s hx hb hown hK hW kF_RX7_7 dX7_blocks_14 ?_
    refine lv_iconst (v := 2) hx hb dX7_blocks_17 (by decide) ?_
    refine l_M0 (k0 := 2) hx hb hK hW (by decide) (show ¬ ((2 : Int32) < 0 ∨ 295 ≤ (2 : Int32).toNatClampNeg) by decide) dX7_blocks_18 ?_
    refine lv_iadd hx hb dX7_blocks_19 ?_
    refine lv_iconst (v := 1) hx hb dX7_blocks_20 (by decide) ?_
    refine lv_isub hx hb dX7_blocks_21 ?_
    refine lv_aload_n hx hb dX7_blocks_22 rfl (lv_at hl 0 rfl) ?_
    refine g_M_s hx hb hown hK hW kF_RX7_7 dX7_blocks_23 ?_
    refine lv_iconst (v := 2) hx hb dX7_blocks_26 (by decide) ?_
    refine l_M0 (k0 := 2) hx hb hK hW (by decide) (show ¬ ((2 : Int32) < 0 ∨ 295 ≤ (2 : Int32).toNatClampNeg) by decide) dX7_blocks_27 ?_
    obtain ⟨hz4, hf⟩ := gd_inv hf
    refine lv_idiv hx hb dX7_blocks_28 hz4 ?_
    refine lv_goto (tgt := 33) hx hb dX7_blocks_29 (by decide) ?_
    exact ss_iret hx hb hr hlk hW (Option.some.inj hf) dX7_blocks_33
def fX7_isBlock (a1 : Int32) (μ : Sg) : Option Int32 := bd (fX7_blocks μ) fun r2 => bd (fX7_in a1 0 (r2 - 1)) fun r4 => gd (r4 = 0 ∨ r4 = 1) <| some r4
set_option maxHeartbeats 4000000 in
set_option maxRecDepth 100000 in
theorem mX7_isBlock (l : Launch) {E : En} {σ μ : Sg} {dg : Int64} {a1 : Int32}  {r : Int32} (hf : fX7_isBlock a1 μ = some r) : Met l yX7_isBlock [.code yX7_isBlock cX7_isBlock 2 (some .boolean)] (Rm 2 40) (va_Pc [.ref (eA E 9), .int a1] (Wd E σ μ dg)) (Qi E σ μ dg r) 0 0 (eP E) := by
  refine ss_of (by decide) (Nat.le_of_ble_eq_true rfl) (fun p e s m below meth c hx hb hr hlk hml hown hK hW ls hl => ?_)
  have hown : s.vm.findClass RX7 = some m.cls := hown
  have hl : lv_has ls 2 [(0, .ref (eA E 9)), (1, .int a1)] := hl
  unfold fX7_isBlock at hf
  refine lv_iload_n hx hb dX7_isBlock_0 rfl (lv_at hl 1 rfl) ?_
  refine lv_iconst (v := 0) hx hb dX7_isBlock_1 (by decide) ?_
  refine lv_aload_n hx hb dX7_isBlock_2 rfl (lv_at hl 0 rfl) ?_
  obtain ⟨r2, q1, hf⟩ := bd_inv hf
  refine ss_callVi (As := []) hx hb hml hown hK hW kb_X7_blocks kM_RX7_59 rfl (by decide) (c_fx (by decide)) (mX7_blocks l  q1) rfl dX7_isBlock_3 rfl hl.1 (Nat.le_of_ble_eq_true rfl) ⟨Nat.le_of_ble_eq_true rfl, Nat.le_of_ble_eq_true rfl⟩ ⟨Nat.zero_le _, Nat.zero_le _⟩ (fun H locs hW => ?_)
  refine lv_iconst (v := 1) hx hb dX7_isBlock_6 (by decide) ?_
  refine lv_isub hx hb dX7_isBlock_7 ?_
  obtain ⟨r4, q3, hf⟩ := bd_inv hf
  refine ss_callSi (As := [.int a1, .int 0, .int (r2 - 1)]) hx hb hml hown hK hW kb_X7_in kM_RX7_51 (mX7_in l (a0 := a1) (a1 := 0) (a2 := (r2 - 1)) q3) rfl dX7_isBlock_8 rfl hl.1 (Nat.le_of_ble_eq_true rfl) ⟨Nat.le_of_ble_eq_true rfl, Nat.le_of_ble_eq_true rfl⟩ ⟨Nat.zero_le _, Nat.zero_le _⟩ (fun H locs hW => ?_)
  obtain ⟨hz5, hf⟩ := gd_inv hf
  exact ss_zret hx hb hr hlk hW (Option.some.inj hf) (zb_n hz5) dX7_isBlock_11
def fX7_filled (a1 : Int32) (μ : Sg) : Option Int32 := nm (μ 0 2) fun x2_1 => gd (¬ x2_1 = 0) <| nm (a1 - (a1 - a1 / x2_1 * x2_1)) fun x3_3 => if x3_3 = 0 then (some 0) else (if (μ 0 4) = 1 then (some 0) else (if (μ 0 4) = 0 then (gd (¬ ((x3_3 - 1) < 0 ∨ 64 ≤ ((x3_3 - 1)).toNatClampNeg)) <| some (μ 6 ((x3_3 - 1)).toNatClampNeg)) else (gd (¬ ((a1 - x2_1) < 0 ∨ 64 ≤ ((a1 - x2_1)).toNatClampNeg)) <| some (μ 6 ((a1 - x2_1)).toNatClampNeg))))
set_option maxHeartbeats 4000000 in
set_option maxRecDepth 100000 in
theorem mX7_filled (l : Launch) {E : En} {σ μ : Sg} {dg : Int64} {a1 : Int32}  {r : Int32} (hf : fX7_filled a1 μ = some r) : Met l yX7_filled [.code yX7_filled cX7_filled 4 (some .int)] (Rm 0 0) (va_Pc [.ref (eA E 9), .int a1] (Wd E σ μ dg)) (Qi E σ μ dg r) 0 0 (eP E) := by
  refine ss_of (by decide) (Nat.le_of_ble_eq_true rfl) (fun p e s m below meth c hx hb hr hlk hml hown hK hW ls hl => ?_)
  have hown : s.vm.findClass RX7 = some m.cls := hown
  have hl : lv_has ls 4 [(0, .ref (eA E 9)), (1, .int a1)] := hl
  unfold fX7_filled at hf
  refine lv_aload_n hx hb dX7_filled_0 rfl (lv_at hl 0 rfl) ?_
  refine g_M_s hx hb hown hK hW kF_RX7_7 dX7_filled_1 ?_
  refine lv_iconst (v := 2) hx hb dX7_filled_4 (by decide) ?_
  refine l_M0 (k0 := 2) hx hb hK hW (by decide) (show ¬ ((2 : Int32) < 0 ∨ 295 ≤ (2 : Int32).toNatClampNeg) by decide) dX7_filled_5 ?_
  refine lv_topi (fun x2_1 ex2_1 => ?_)
  have hf := nm_use ex2_1 hf
  refine lv_istore_n (lv' := [(2, .int x2_1), (0, .ref (eA E 9)), (1, .int a1)]) hx hb dX7_filled_6 rfl hl (by decide) rfl (fun ls hl => ?_)
  refine lv_iload_n hx hb dX7_filled_7 rfl (lv_at hl 2 rfl) ?_
  refine lv_iload_n hx hb dX7_filled_8 rfl (lv_at hl 2 rfl) ?_
  refine lv_iload_n hx hb dX7_filled_9 rfl (lv_at hl 0 rfl) ?_
  obtain ⟨hz2, hf⟩ := gd_inv hf
  refine lv_irem hx hb dX7_filled_10 hz2 ?_
  refine lv_isub hx hb dX7_filled_11 ?_
  refine lv_topi (fun x3_3 ex3_3 => ?_)
  have hf := nm_use ex3_3 hf
  refine lv_istore_n (lv' := [(3, .int x3_3), (2, .int x2_1), (0, .ref (eA E 9)), (1, .int a1)]) hx hb dX7_filled_12 rfl hl (by decide) rfl (fun ls hl => ?_)
  refine lv_iload_n hx hb dX7_filled_13 rfl (lv_at hl 0 rfl) ?_
  refine lv_if_eq (tgt := 27) hx hb dX7_filled_14 (by decide) (fun c4 => ?_) (fun c4 => ?_)
  · have hf := br_p c4 hf
    refine lv_iconst (v := 0) hx hb dX7_filled_27 (by decide) ?_
    exact ss_iret hx hb hr hlk hW (Option.some.inj hf) dX7_filled_28
  · have hf := br_n c4 hf
    refine lv_aload_n hx hb dX7_filled_17 rfl (lv_at hl 2 rfl) ?_
    refine g_M_s hx hb hown hK hW kF_RX7_7 dX7_filled_18 ?_
    refine lv_iconst (v := 4) hx hb dX7_filled_21 (by decide) ?_
    refine l_M0 (k0 := 4) hx hb hK hW (by decide) (show ¬ ((4 : Int32) < 0 ∨ 295 ≤ (4 : Int32).toNatClampNeg) by decide) dX7_filled_22 ?_
    refine lv_iconst (v := 1) hx hb dX7_filled_23 (by decide) ?_
    refine lv_icmp_ne (tgt := 29) hx hb dX7_filled_24 (by decide) (fun c5 => ?_) (fun c5 => ?_)
    · have hf := br_n c5 hf
      refine lv_aload_n hx hb dX7_filled_29 rfl (lv_at hl 2 rfl) ?_
      refine g_M_s hx hb hown hK hW kF_RX7_7 dX7_filled_30 ?_
      refine lv_iconst (v := 4) hx hb dX7_filled_33 (by decide) ?_
      refine l_M0 (k0 := 4) hx hb hK hW (by decide) (show ¬ ((4 : Int32) < 0 ∨ 295 ≤ (4 : Int32).toNatClampNeg) by decide) dX7_filled_34 ?_
      refine lv_if_ne (tgt := 49) hx hb dX7_filled_35 (by decide) (fun c6 => ?_) (fun c6 => ?_)
      · have hf := br_n c6 hf
        refine lv_aload_n hx hb dX7_filled_49 rfl (lv_at hl 2 rfl) ?_
        refine g_M_made hx hb hown hK hW kF_RX7_29 dX7_filled_50 ?_
        refine lv_iload_n hx hb dX7_filled_53 rfl (lv_at hl 3 rfl) ?_
        refine lv_iload_n hx hb dX7_filled_54 rfl (lv_at hl 1 rfl) ?_
        refine lv_isub hx hb dX7_filled_55 ?_
        obtain ⟨hk7, hf⟩ := gd_inv hf
        refine l_M6 hx hb hK hW rfl hk7 dX7_filled_56 ?_
        exact ss_iret hx hb hr hlk hW (Option.some.inj hf) dX7_filled_57
      · have hf := br_p c6 hf
        refine lv_aload_n hx hb dX7_filled_38 rfl (lv_at hl 2 rfl) ?_
        refine g_M_made hx hb hown hK hW kF_RX7_29 dX7_filled_39 ?_
        refine lv_iload_n hx hb dX7_filled_42 rfl (lv_at hl 0 rfl) ?_
        refine lv_iconst (v := 1) hx hb dX7_filled_43 (by decide) ?_
        refine lv_isub hx hb dX7_filled_44 ?_
        obtain ⟨hk8, hf⟩ := gd_inv hf
        refine l_M6 hx hb hK hW rfl hk8 dX7_filled_45 ?_
        refine lv_goto (tgt := 57) hx hb dX7_filled_46 (by decide) ?_
        exact ss_iret hx hb hr hlk hW (Option.some.inj hf) dX7_filled_57
    · have hf := br_p c5 hf
      refine lv_iconst (v := 0) hx hb dX7_filled_27 (by decide) ?_
      exact ss_iret hx hb hr hlk hW (Option.some.inj hf) dX7_filled_28
def fX7_decodes_b141 (k6 : Int32 → Int32 → Int32 → Sg → Option Sg) (x1 : Int32) (x2 : Int32) (x3 : Int32) (x4 : Int32) (k0 : Int32) (k1 : Int32) (μ : Sg) : Option Sg := gd (¬ (k1 < 0 ∨ 64 ≤ (k1).toNatClampNeg)) <| nm (up2 μ 6 ((k1).toNatClampNeg) k0) fun u2 => gd (¬ (x3 < 0 ∨ 64 ≤ (x3).toNatClampNeg)) <| nm (up2 u2 7 ((x3).toNatClampNeg) x2) fun u4 => gd (¬ (x4 < 0 ∨ 32 ≤ (x4).toNatClampNeg)) <| nm (up2 u4 8 ((x4).toNatClampNeg) x2) fun u6 => nm (x3 + 1) fun x3_7 => k6 x1 x2 x3_7 u6
def fX7_decodes_b111 (k6 : Int32 → Int32 → Int32 → Sg → Option Sg) (x1 : Int32) (x3 : Int32) (x4 : Int32) (k0 : Int32) (μ : Sg) : Option Sg := gd (¬ ((263 + x4) < 0 ∨ 295 ≤ ((263 + x4)).toNatClampNeg)) <| if (μ 0 ((263 + x4)).toNatClampNeg) = 1 then (bd (fX7_filled x3 μ) fun r11 => fX7_decodes_b141 k6 x1 k0 x3 x4 r11 x3 μ) else (fX7_decodes_b141 k6 x1 k0 x3 x4 x1 x3 μ)
def fX7_decodes_b78 (k6 : Int32 → Int32 → Int32 → Sg → Option Sg) (x2 : Int32) (x3 : Int32) (x4 : Int32) (x5 : Int32) (k0 : Int32) (μ : Sg) : Option Sg := if x5 = 0 then (gd (¬ ((71 + x3) < 0 ∨ 295 ≤ ((71 + x3)).toNatClampNeg)) <| bd (fX7_nextNumber x2 (μ 0 ((71 + x3)).toNatClampNeg)) fun r15 => fX7_decodes_b111 k6 k0 x3 x4 r15 μ) else (gd (¬ ((231 + x4) < 0 ∨ 295 ≤ ((231 + x4)).toNatClampNeg)) <| fX7_decodes_b111 k6 k0 x3 x4 (μ 0 ((231 + x4)).toNatClampNeg) μ)
def fX7_decodes_b42 (k6 : Int32 → Int32 → Int32 → Sg → Option Sg) (x1 : Int32) (x2 : Int32) (x3 : Int32) (x4 : Int32) (k0 : Int32) (μ : Sg) : Option Sg := if k0 = 0 then (gd (¬ ((71 + x3) < 0 ∨ 295 ≤ ((71 + x3)).toNatClampNeg)) <| bd (fX7_nextGuess x1 x2 (μ 0 ((71 + x3)).toNatClampNeg) μ) fun r20 => fX7_decodes_b78 k6 x2 x3 x4 k0 r20 μ) else (gd (¬ ((199 + x4) < 0 ∨ 295 ≤ ((199 + x4)).toNatClampNeg)) <| fX7_decodes_b78 k6 x2 x3 x4 k0 (μ 0 ((199 + x4)).toNatClampNeg) μ)
def fX7_decodes_L6  (n : Nat) (x1 : Int32) (x2 : Int32) (x3 : Int32) (μ : Sg) : Option Sg := match n with
  | 0 => none
  | n + 1 => if (μ 0 0) ≤ x3 then (some μ) else (gd (¬ (μ 0 2) = 0) <| nm (x3 / (μ 0 2)) fun x4_24 => gd (¬ (μ 0 2) = 0) <| if (x3 - x3 / (μ 0 2) * (μ 0 2)) = 0 then (fX7_decodes_b42 (fun x1 x2 x3 μ => fX7_decodes_L6 n x1 x2 x3 μ) x1 x2 x3 x4_24 1 μ) else (fX7_decodes_b42 (fun x1 x2 x3 μ => fX7_decodes_L6 n x1 x2 x3 μ) x1 x2 x3 x4_24 0 μ))
def fX7_decodes (μ : Sg) : Option Sg := fX7_decodes_L6 80 0 0 0 μ
set_option maxHeartbeats 4000000 in
set_option maxRecDepth 100000 in
theorem mX7_decodes (l : Launch) {E : En} {σ μ : Sg} {dg : Int64}   {μ' : Sg} (hf : fX7_decodes μ = some μ') : Met l yX7_decodes [.code yX7_decodes cX7_decodes 6 none] (Rm 2 45) (va_Pc [.ref (eA E 9)] (Wd E σ μ dg)) (Qv E σ μ' dg) 0 0 (eP E) := by
  refine ss_of (by decide) (Nat.le_of_ble_eq_true rfl) (fun p e s m below meth c hx hb hr hlk hml hown hK hW ls hl => ?_)
  have hown : s.vm.findClass RX7 = some m.cls := hown
  have hl : lv_has ls 6 [(0, .ref (eA E 9))] := hl
  unfold fX7_decodes at hf
  have h6 : ∀ (n6 : Nat) (x1 : Int32) (x2 : Int32) (x3 : Int32) (μ : Sg) (H : Heap) (locs : List Loc) (ls : Array Slot), Wk E σ μ dg s H locs → lv_has ls 6 [(0, .ref (eA E 9)), (1, .int x1), (2, .int x2), (3, .int x3)] → fX7_decodes_L6 n6 x1 x2 x3 μ = some μ' → W p l e (Rm 2 45) s m [.ref (eA E 9)].toArray below meth c H locs 0 0 (MQ below (Qv E σ μ' dg) [.ref (eA E 9)].toArray s 0 0 (eP E)) (F0 m 6 ls []) := by
    intro n6
    induction n6 with
    | zero =>
      intro x1 x2 x3 μ  H locs ls hW hl hf
      exact absurd hf (by simp [fX7_decodes_L6])
    | succ n6 ih6 =>
      have h141 : ∀ (x1 : Int32) (x2 : Int32) (x3 : Int32) (x4 : Int32) (k0 : Int32) (k1 : Int32) (μ : Sg) (H : Heap) (locs : List Loc) (ls : Array Slot), Wk E σ μ dg s H locs → lv_has ls 6 [(0, .ref (eA E 9)), (1, .int x1), (2, .int x2), (3, .int x3), (4, .int x4)] → fX7_decodes_b141 (fun x1 x2 x3 μ => fX7_decodes_L6 n6 x1 x2 x3 μ) x1 x2 x3 x4 k0 k1 μ = some μ' → W p l e (Rm 2 45) s m [.ref (eA E 9)].toArray below meth c H locs 0 0 (MQ below (Qv E σ μ' dg) [.ref (eA E 9)].toArray s 0 0 (eP E)) (F0 m 141 ls [.int k0, .int k1, .ref (eA E 98)]) := by
        intro x1 x2 x3 x4 k0 k1 μ  H locs ls hW hl hf
        unfold fX7_decodes_b141 at hf
        obtain ⟨hk1, hf⟩ := gd_inv hf
        refine s_M6 hx hb hK hW rfl hk1 dX7_decodes_141 (fun H locs hW => ?_)
        obtain ⟨u2, eu2⟩ : ∃ y : Sg, y = (up2 μ 6 ((k1).toNatClampNeg) k0) := ⟨_, rfl⟩
        have hf := nm_use eu2 hf
        rw [← eu2] at hW
        refine lv_aload_n hx hb dX7_decodes_142 rfl (lv_at hl 0 rfl) ?_
        refine g_M_behind hx hb hown hK hW kF_RX7_32 dX7_decodes_143 ?_
        refine lv_iload_n hx hb dX7_decodes_146 rfl (lv_at hl 3 rfl) ?_
        refine lv_iload_n hx hb dX7_decodes_147 rfl (lv_at hl 2 rfl) ?_
        obtain ⟨hk3, hf⟩ := gd_inv hf
        refine s_M7 hx hb hK hW rfl hk3 dX7_decodes_148 (fun H locs hW => ?_)
        obtain ⟨u4, eu4⟩ : ∃ y : Sg, y = (up2 u2 7 ((x3).toNatClampNeg) x2) := ⟨_, rfl⟩
        have hf := nm_use eu4 hf
        rw [← eu4] at hW
        refine lv_aload_n hx hb dX7_decodes_149 rfl (lv_at hl 0 rfl) ?_
        refine g_M_leads hx hb hown hK hW kF_RX7_35 dX7_decodes_150 ?_
        refine lv_iload hx hb dX7_decodes_153 (lv_at hl 4 rfl) ?_
        refine lv_iload_n hx hb dX7_decodes_155 rfl (lv_at hl 2 rfl) ?_
        obtain ⟨hk5, hf⟩ := gd_inv hf
        refine s_M8 hx hb hK hW rfl hk5 dX7_decodes_156 (fun H locs hW => ?_)
        obtain ⟨u6, eu6⟩ : ∃ y : Sg, y = (up2 u4 8 ((x4).toNatClampNeg) x2) := ⟨_, rfl⟩
        have hf := nm_use eu6 hf
        rw [← eu6] at hW
        obtain ⟨x3_7, ex3_7⟩ : ∃ y : Int32, y = (x3 + 1) := ⟨_, rfl⟩
        have hf := nm_use ex3_7 hf
        refine lv_iinc (v := x3_7) (lv' := [(3, .int x3_7), (0, .ref (eA E 9)), (1, .int x1), (2, .int x2), (4, .int x4)]) hx hb dX7_decodes_157 hl (k := 3) rfl (by rw [ex3_7]; rfl) (by decide) rfl (fun ls hl => ?_)
        refine lv_goto (tgt := 6) hx hb dX7_decodes_160 (by decide) ?_
        exact ih6 x1 x2 x3_7 u6 _ _ _ hW (lv_sub hl [1, 2, 3, 0] rfl) hf
      have h111 : ∀ (x1 : Int32) (x3 : Int32) (x4 : Int32) (k0 : Int32) (μ : Sg) (H : Heap) (locs : List Loc) (ls : Array Slot), Wk E σ μ dg s H locs → lv_has ls 6 [(0, .ref (eA E 9)), (1, .int x1), (3, .int x3), (4, .int x4)] → fX7_decodes_b111 (fun x1 x2 x3 μ => fX7_decodes_L6 n6 x1 x2 x3 μ) x1 x3 x4 k0 μ = some μ' → W p l e (Rm 2 45) s m [.ref (eA E 9)].toArray below meth c H locs 0 0 (MQ below (Qv E σ μ' dg) [.ref (eA E 9)].toArray s 0 0 (eP E)) (F0 m 111 ls [.int k0]) := by
        intro x1 x3 x4 k0 μ  H locs ls hW hl hf
        unfold fX7_decodes_b111 at hf
        refine lv_istore_n (lv' := [(2, .int k0), (0, .ref (eA E 9)), (1, .int x1), (3, .int x3), (4, .int x4)]) hx hb dX7_decodes_111 rfl hl (by decide) rfl (fun ls hl => ?_)
        refine lv_aload_n hx hb dX7_decodes_112 rfl (lv_at hl 1 rfl) ?_
        refine g_M_made hx hb hown hK hW kF_RX7_29 dX7_decodes_113 ?_
        refine lv_iload_n hx hb dX7_decodes_116 rfl (lv_at hl 3 rfl) ?_
        refine lv_aload_n hx hb dX7_decodes_117 rfl (lv_at hl 1 rfl) ?_
        refine g_M_s hx hb hown hK hW kF_RX7_7 dX7_decodes_118 ?_
        refine lv_sipush (v := 263) hx hb dX7_decodes_121 (by decide) ?_
        refine lv_iload hx hb dX7_decodes_124 (lv_at hl 4 rfl) ?_
        refine lv_iadd hx hb dX7_decodes_126 ?_
        obtain ⟨hk8, hf⟩ := gd_inv hf
        refine l_M0 hx hb hK hW rfl hk8 dX7_decodes_127 ?_
        refine lv_iconst (v := 1) hx hb dX7_decodes_128 (by decide) ?_
        refine lv_icmp_ne (tgt := 140) hx hb dX7_decodes_129 (by decide) (fun c9 => ?_) (fun c9 => ?_)
        · have hf := br_n c9 hf
          refine lv_iload_n hx hb dX7_decodes_140 rfl (lv_at hl 2 rfl) ?_
          exact h141 x1 k0 x3 x4 x1 x3 μ _ _ _ hW (lv_sub hl [1, 2, 0, 3, 4] rfl) hf
        · have hf := br_p c9 hf
          refine lv_aload_n hx hb dX7_decodes_132 rfl (lv_at hl 1 rfl) ?_
          refine lv_iload_n hx hb dX7_decodes_133 rfl (lv_at hl 3 rfl) ?_
          obtain ⟨r11, q10, hf⟩ := bd_inv hf
          refine ss_callVi (As := [.int x3]) hx hb hml hown hK hW kb_X7_filled kM_RX7_91 rfl (by decide) (c_fx (by decide)) (mX7_filled l (a1 := x3) q10) rfl dX7_decodes_134 rfl hl.1 (Nat.le_of_ble_eq_true rfl) ⟨Nat.le_of_ble_eq_true rfl, Nat.le_of_ble_eq_true rfl⟩ ⟨Nat.zero_le _, Nat.zero_le _⟩ (fun H locs hW => ?_)
          refine lv_goto (tgt := 141) hx hb dX7_decodes_137 (by decide) ?_
          exact h141 x1 k0 x3 x4 r11 x3 μ _ _ _ hW (lv_sub hl [1, 2, 0, 3, 4] rfl) hf
      have h78 : ∀ (x2 : Int32) (x3 : Int32) (x4 : Int32) (x5 : Int32) (k0 : Int32) (μ : Sg) (H : Heap) (locs : List Loc) (ls : Array Slot), Wk E σ μ dg s H locs → lv_has ls 6 [(0, .ref (eA E 9)), (2, .int x2), (3, .int x3), (4, .int x4), (5, .int x5)] → fX7_decodes_b78 (fun x1 x2 x3 μ => fX7_decodes_L6 n6 x1 x2 x3 μ) x2 x3 x4 x5 k0 μ = some μ' → W p l e (Rm 2 45) s m [.ref (eA E 9)].toArray below meth c H locs 0 0 (MQ below (Qv E σ μ' dg) [.ref (eA E 9)].toArray s 0 0 (eP E)) (F0 m 78 ls [.int k0]) := by
        intro x2 x3 x4 x5 k0 μ  H locs ls hW hl hf
        unfold fX7_decodes_b78 at hf
        refine lv_istore_n (lv' := [(1, .int k0), (0, .ref (eA E 9)), (2, .int x2), (3, .int x3), (4, .int x4), (5, .int x5)]) hx hb dX7_decodes_78 rfl hl (by decide) rfl (fun ls hl => ?_)
        refine lv_iload hx hb dX7_decodes_79 (lv_at hl 5 rfl) ?_
        refine lv_if_eq (tgt := 98) hx hb dX7_decodes_81 (by decide) (fun c12 => ?_) (fun c12 => ?_)
        · have hf := br_p c12 hf
          refine lv_iload_n hx hb dX7_decodes_98 rfl (lv_at hl 2 rfl) ?_
          refine lv_aload_n hx hb dX7_decodes_99 rfl (lv_at hl 1 rfl) ?_
          refine g_M_s hx hb hown hK hW kF_RX7_7 dX7_decodes_100 ?_
          refine lv_bipush (v := 71) hx hb dX7_decodes_103 (by decide) ?_
          refine lv_iload_n hx hb dX7_decodes_105 rfl (lv_at hl 3 rfl) ?_
          refine lv_iadd hx hb dX7_decodes_106 ?_
          obtain ⟨hk13, hf⟩ := gd_inv hf
          refine l_M0 hx hb hK hW rfl hk13 dX7_decodes_107 ?_
          obtain ⟨r15, q14, hf⟩ := bd_inv hf
          refine ss_callSi (As := [.int x2, .int (μ 0 ((71 + x3)).toNatClampNeg)]) hx hb hml hown hK hW kb_X7_nextNumber kM_RX7_78 (mX7_nextNumber l (a0 := x2) (a1 := (μ 0 ((71 + x3)).toNatClampNeg)) q14) rfl dX7_decodes_108 rfl hl.1 (Nat.le_of_ble_eq_true rfl) ⟨Nat.le_of_ble_eq_true rfl, Nat.le_of_ble_eq_true rfl⟩ ⟨Nat.zero_le _, Nat.zero_le _⟩ (fun H locs hW => ?_)
          exact h111 k0 x3 x4 r15 μ _ _ _ hW (lv_sub hl [1, 0, 3, 4] rfl) hf
        · have hf := br_n c12 hf
          refine lv_aload_n hx hb dX7_decodes_84 rfl (lv_at hl 1 rfl) ?_
          refine g_M_s hx hb hown hK hW kF_RX7_7 dX7_decodes_85 ?_
          refine lv_sipush (v := 231) hx hb dX7_decodes_88 (by decide) ?_
          refine lv_iload hx hb dX7_decodes_91 (lv_at hl 4 rfl) ?_
          refine lv_iadd hx hb dX7_decodes_93 ?_
          obtain ⟨hk16, hf⟩ := gd_inv hf
          refine l_M0 hx hb hK hW rfl hk16 dX7_decodes_94 ?_
          refine lv_goto (tgt := 111) hx hb dX7_decodes_95 (by decide) ?_
          exact h111 k0 x3 x4 (μ 0 ((231 + x4)).toNatClampNeg) μ _ _ _ hW (lv_sub hl [1, 0, 3, 4] rfl) hf
      have h42 : ∀ (x1 : Int32) (x2 : Int32) (x3 : Int32) (x4 : Int32) (k0 : Int32) (μ : Sg) (H : Heap) (locs : List Loc) (ls : Array Slot), Wk E σ μ dg s H locs → lv_has ls 6 [(0, .ref (eA E 9)), (1, .int x1), (2, .int x2), (3, .int x3), (4, .int x4)] → fX7_decodes_b42 (fun x1 x2 x3 μ => fX7_decodes_L6 n6 x1 x2 x3 μ) x1 x2 x3 x4 k0 μ = some μ' → W p l e (Rm 2 45) s m [.ref (eA E 9)].toArray below meth c H locs 0 0 (MQ below (Qv E σ μ' dg) [.ref (eA E 9)].toArray s 0 0 (eP E)) (F0 m 42 ls [.int k0]) := by
        intro x1 x2 x3 x4 k0 μ  H locs ls hW hl hf
        unfold fX7_decodes_b42 at hf
        refine lv_istore (lv' := [(5, .int k0), (0, .ref (eA E 9)), (1, .int x1), (2, .int x2), (3, .int x3), (4, .int x4)]) hx hb dX7_decodes_42 hl (by decide) rfl (fun ls hl => ?_)
        refine lv_iload hx hb dX7_decodes_44 (lv_at hl 0 rfl) ?_
        refine lv_if_eq (tgt := 63) hx hb dX7_decodes_46 (by decide) (fun c17 => ?_) (fun c17 => ?_)
        · have hf := br_p c17 hf
          refine lv_aload_n hx hb dX7_decodes_63 rfl (lv_at hl 1 rfl) ?_
          refine lv_iload_n hx hb dX7_decodes_64 rfl (lv_at hl 2 rfl) ?_
          refine lv_iload_n hx hb dX7_decodes_65 rfl (lv_at hl 3 rfl) ?_
          refine lv_aload_n hx hb dX7_decodes_66 rfl (lv_at hl 1 rfl) ?_
          refine g_M_s hx hb hown hK hW kF_RX7_7 dX7_decodes_67 ?_
          refine lv_bipush (v := 71) hx hb dX7_decodes_70 (by decide) ?_
          refine lv_iload_n hx hb dX7_decodes_72 rfl (lv_at hl 4 rfl) ?_
          refine lv_iadd hx hb dX7_decodes_73 ?_
          obtain ⟨hk18, hf⟩ := gd_inv hf
          refine l_M0 hx hb hK hW rfl hk18 dX7_decodes_74 ?_
          obtain ⟨r20, q19, hf⟩ := bd_inv hf
          refine ss_callVi (As := [.int x1, .int x2, .int (μ 0 ((71 + x3)).toNatClampNeg)]) hx hb hml hown hK hW kb_X7_nextGuess kM_RX7_75 rfl (by decide) (c_fx (by decide)) (mX7_nextGuess l (a1 := x1) (a2 := x2) (a3 := (μ 0 ((71 + x3)).toNatClampNeg)) q19) rfl dX7_decodes_75 rfl hl.1 (Nat.le_of_ble_eq_true rfl) ⟨Nat.le_of_ble_eq_true rfl, Nat.le_of_ble_eq_true rfl⟩ ⟨Nat.zero_le _, Nat.zero_le _⟩ (fun H locs hW => ?_)
          exact h78 x2 x3 x4 k0 r20 μ _ _ _ hW (lv_sub hl [1, 3, 4, 5, 0] rfl) hf
        · have hf := br_n c17 hf
          refine lv_aload_n hx hb dX7_decodes_49 rfl (lv_at hl 1 rfl) ?_
          refine g_M_s hx hb hown hK hW kF_RX7_7 dX7_decodes_50 ?_
          refine lv_sipush (v := 199) hx hb dX7_decodes_53 (by decide) ?_
          refine lv_iload hx hb dX7_decodes_56 (lv_at hl 5 rfl) ?_
          refine lv_iadd hx hb dX7_decodes_58 ?_
          obtain ⟨hk21, hf⟩ := gd_inv hf
          refine l_M0 hx hb hK hW rfl hk21 dX7_decodes_59 ?_
          refine lv_goto (tgt := 78) hx hb dX7_decodes_60 (by decide) ?_
          exact h78 x2 x3 x4 k0 (μ 0 ((199 + x4)).toNatClampNeg) μ _ _ _ hW (lv_sub hl [1, 3, 4, 5, 0] rfl) hf
      intro x1 x2 x3 μ  H locs ls hW hl hf
      rw [fX7_decodes_L6] at hf
      refine lv_iload_n hx hb dX7_decodes_6 rfl (lv_at hl 3 rfl) ?_
      refine lv_aload_n hx hb dX7_decodes_7 rfl (lv_at hl 0 rfl) ?_
      refine g_M_s hx hb hown hK hW kF_RX7_7 dX7_decodes_8 ?_
      refine lv_iconst (v := 0) hx hb dX7_decodes_11 (by decide) ?_
      refine l_M0 (k0 := 0) hx hb hK hW (by decide) (show ¬ ((0 : Int32) < 0 ∨ 295 ≤ (0 : Int32).toNatClampNeg) by decide) dX7_decodes_12 ?_
      refine lv_icmp_ge (tgt := 163) hx hb dX7_decodes_13 (by decide) (fun c22 => ?_) (fun c22 => ?_)
      · have hf := br_p c22 hf
        cases hf
        exact ss_vret hx hb hr hlk hW dX7_decodes_163
      · have hf := br_n c22 hf
        refine lv_iload_n hx hb dX7_decodes_16 rfl (lv_at hl 3 rfl) ?_
        refine lv_aload_n hx hb dX7_decodes_17 rfl (lv_at hl 0 rfl) ?_
        refine g_M_s hx hb hown hK hW kF_RX7_7 dX7_decodes_18 ?_
        refine lv_iconst (v := 2) hx hb dX7_decodes_21 (by decide) ?_
        refine l_M0 (k0 := 2) hx hb hK hW (by decide) (show ¬ ((2 : Int32) < 0 ∨ 295 ≤ (2 : Int32).toNatClampNeg) by decide) dX7_decodes_22 ?_
        obtain ⟨hz23, hf⟩ := gd_inv hf
        refine lv_idiv hx hb dX7_decodes_23 hz23 ?_
        refine lv_topi (fun x4_24 ex4_24 => ?_)
        have hf := nm_use ex4_24 hf
        refine lv_istore (lv' := [(4, .int x4_24), (0, .ref (eA E 9)), (1, .int x1), (2, .int x2), (3, .int x3)]) hx hb dX7_decodes_24 hl (by decide) rfl (fun ls hl => ?_)
        refine lv_iload_n hx hb dX7_decodes_26 rfl (lv_at hl 4 rfl) ?_
        refine lv_aload_n hx hb dX7_decodes_27 rfl (lv_at hl 1 rfl) ?_
        refine g_M_s hx hb hown hK hW kF_RX7_7 dX7_decodes_28 ?_
        refine lv_iconst (v := 2) hx hb dX7_decodes_31 (by decide) ?_
        refine l_M0 (k0 := 2) hx hb hK hW (by decide) (show ¬ ((2 : Int32) < 0 ∨ 295 ≤ (2 : Int32).toNatClampNeg) by decide) dX7_decodes_32 ?_
        obtain ⟨hz25, hf⟩ := gd_inv hf
        refine lv_irem hx hb dX7_decodes_33 hz25 ?_
        refine lv_if_ne (tgt := 41) hx hb dX7_decodes_34 (by decide) (fun c26 => ?_) (fun c26 => ?_)
        · have hf := br_n c26 hf
          refine lv_iconst (v := 0) hx hb dX7_decodes_41 (by decide) ?_
          exact h42 x1 x2 x3 x4_24 0 μ _ _ _ hW (lv_sub hl [1, 2, 3, 4, 0] rfl) hf
        · have hf := br_p c26 hf
          refine lv_iconst (v := 1) hx hb dX7_decodes_37 (by decide) ?_
          refine lv_goto (tgt := 42) hx hb dX7_decodes_38 (by decide) ?_
          exact h42 x1 x2 x3 x4_24 1 μ _ _ _ hW (lv_sub hl [1, 2, 3, 4, 0] rfl) hf
  refine lv_iconst (v := 0) hx hb dX7_decodes_0 (by decide) ?_
  refine lv_istore_n (lv' := [(1, .int 0), (0, .ref (eA E 9))]) hx hb dX7_decodes_1 rfl hl (by decide) rfl (fun ls hl => ?_)
  refine lv_iconst (v := 0) hx hb dX7_decodes_2 (by decide) ?_
  refine lv_istore_n (lv' := [(2, .int 0), (1, .int 0), (0, .ref (eA E 9))]) hx hb dX7_decodes_3 rfl hl (by decide) rfl (fun ls hl => ?_)
  refine lv_iconst (v := 0) hx hb dX7_decodes_4 (by decide) ?_
  refine lv_istore_n (lv' := [(3, .int 0), (2, .int 0), (1, .int 0), (0, .ref (eA E 9))]) hx hb dX7_decodes_5 rfl hl (by decide) rfl (fun ls hl => ?_)
  exact h6 80 0 0 0 μ _ _ _ hW (lv_sub hl [3, 2, 1, 0] rfl) hf
def fX7_endOf (a1 : Int32) (μ : Sg) : Option Int32 := nm ((a1 + 1) * (μ 0 2)) fun x2_1 => if (μ 0 0) ≤ x2_1 then (some (μ 0 0)) else (some x2_1)
set_option maxHeartbeats 4000000 in
set_option maxRecDepth 100000 in
theorem mX7_endOf (l : Launch) {E : En} {σ μ : Sg} {dg : Int64} {a1 : Int32}  {r : Int32} (hf : fX7_endOf a1 μ = some r) : Met l yX7_endOf [.code yX7_endOf cX7_endOf 3 (some .int)] (Rm 0 0) (va_Pc [.ref (eA E 9), .int a1] (Wd E σ μ dg)) (Qi E σ μ dg r) 0 0 (eP E) := by
  refine ss_of (by decide) (Nat.le_of_ble_eq_true rfl) (fun p e s m below meth c hx hb hr hlk hml hown hK hW ls hl => ?_)
  have hown : s.vm.findClass RX7 = some m.cls := hown
  have hl : lv_has ls 3 [(0, .ref (eA E 9)), (1, .int a1)] := hl
  unfold fX7_endOf at hf
  refine lv_iload_n hx hb dX7_endOf_0 rfl (lv_at hl 1 rfl) ?_
  refine lv_iconst (v := 1) hx hb dX7_endOf_1 (by decide) ?_
  refine lv_iadd hx hb dX7_endOf_2 ?_
  refine lv_aload_n hx hb dX7_endOf_3 rfl (lv_at hl 0 rfl) ?_
  refine g_M_s hx hb hown hK hW kF_RX7_7 dX7_endOf_4 ?_
  refine lv_iconst (v := 2) hx hb dX7_endOf_7 (by decide) ?_
  refine l_M0 (k0 := 2) hx hb hK hW (by decide) (show ¬ ((2 : Int32) < 0 ∨ 295 ≤ (2 : Int32).toNatClampNeg) by decide) dX7_endOf_8 ?_
  refine lv_imul hx hb dX7_endOf_9 ?_
  refine lv_topi (fun x2_1 ex2_1 => ?_)
  have hf := nm_use ex2_1 hf
  refine lv_istore_n (lv' := [(2, .int x2_1), (0, .ref (eA E 9)), (1, .int a1)]) hx hb dX7_endOf_10 rfl hl (by decide) rfl (fun ls hl => ?_)
  refine lv_iload_n hx hb dX7_endOf_11 rfl (lv_at hl 0 rfl) ?_
  refine lv_aload_n hx hb dX7_endOf_12 rfl (lv_at hl 1 rfl) ?_
  refine g_M_s hx hb hown hK hW kF_RX7_7 dX7_endOf_13 ?_
  refine lv_iconst (v := 0) hx hb dX7_endOf_16 (by decide) ?_
  refine l_M0 (k0 := 0) hx hb hK hW (by decide) (show ¬ ((0 : Int32) < 0 ∨ 295 ≤ (0 : Int32).toNatClampNeg) by decide) dX7_endOf_17 ?_
  refine lv_icmp_ge (tgt := 25) hx hb dX7_endOf_18 (by decide) (fun c2 => ?_) (fun c2 => ?_)
  · have hf := br_p c2 hf
    refine lv_aload_n hx hb dX7_endOf_25 rfl (lv_at hl 1 rfl) ?_
    refine g_M_s hx hb hown hK hW kF_RX7_7 dX7_endOf_26 ?_
    refine lv_iconst (v := 0) hx hb dX7_endOf_29 (by decide) ?_
    refine l_M0 (k0 := 0) hx hb hK hW (by decide) (show ¬ ((0 : Int32) < 0 ∨ 295 ≤ (0 : Int32).toNatClampNeg) by decide) dX7_endOf_30 ?_
    exact ss_iret hx hb hr hlk hW (Option.some.inj hf) dX7_endOf_31
  · have hf := br_n c2 hf
    refine lv_iload_n hx hb dX7_endOf_21 rfl (lv_at hl 0 rfl) ?_
    refine lv_goto (tgt := 31) hx hb dX7_endOf_22 (by decide) ?_
    exact ss_iret hx hb hr hlk hW (Option.some.inj hf) dX7_endOf_31
def fX7_errorMade_L5 (a2 : Int32) (n : Nat) (x3 : Int32) (x4 : Int32) (μ : Sg) : Option Int32 := match n with
  | 0 => none
  | n + 1 => if a2 ≤ x4 then (some x3) else (gd (¬ ((7 + x4) < 0 ∨ 295 ≤ ((7 + x4)).toNatClampNeg)) <| gd (¬ (x4 < 0 ∨ 64 ≤ (x4).toNatClampNeg)) <| bd (fX7_square ((μ 0 ((7 + x4)).toNatClampNeg) - (μ 6 (x4).toNatClampNeg))) fun r5 => nm (x3 + r5) fun x3_6 => nm (x4 + 1) fun x4_7 => (fun x3 x4 μ => fX7_errorMade_L5 a2 n x3 x4 μ) x3_6 x4_7 μ)
def fX7_errorMade (a1 : Int32) (a2 : Int32) (μ : Sg) : Option Int32 := fX7_errorMade_L5 a2 80 0 a1 μ
set_option maxHeartbeats 4000000 in
set_option maxRecDepth 100000 in
theorem mX7_errorMade (l : Launch) {E : En} {σ μ : Sg} {dg : Int64} {a1 : Int32} {a2 : Int32}  {r : Int32} (hf : fX7_errorMade a1 a2 μ = some r) : Met l yX7_errorMade [.code yX7_errorMade cX7_errorMade 5 (some .int)] (Rm 1 20) (va_Pc [.ref (eA E 9), .int a1, .int a2] (Wd E σ μ dg)) (Qi E σ μ dg r) 0 0 (eP E) := by
  refine ss_of (by decide) (Nat.le_of_ble_eq_true rfl) (fun p e s m below meth c hx hb hr hlk hml hown hK hW ls hl => ?_)
  have hown : s.vm.findClass RX7 = some m.cls := hown
  have hl : lv_has ls 5 [(0, .ref (eA E 9)), (1, .int a1), (2, .int a2)] := hl
  unfold fX7_errorMade at hf
  have h5 : ∀ (n5 : Nat) (x3 : Int32) (x4 : Int32) (μ : Sg) (H : Heap) (locs : List Loc) (ls : Array Slot), Wk E σ μ dg s H locs → lv_has ls 5 [(0, .ref (eA E 9)), (2, .int a2), (3, .int x3), (4, .int x4)] → fX7_errorMade_L5 a2 n5 x3 x4 μ = some r → W p l e (Rm 1 20) s m [.ref (eA E 9), .int a1, .int a2].toArray below meth c H locs 0 0 (MQ below (Qi E σ μ dg r) [.ref (eA E 9), .int a1, .int a2].toArray s 0 0 (eP E)) (F0 m 5 ls []) := by
    intro n5
    induction n5 with
    | zero =>
      intro x3 x4 μ  H locs ls hW hl hf
      exact absurd hf (by simp [fX7_errorMade_L5])
    | succ n5 ih5 =>
      intro x3 x4 μ  H locs ls hW hl hf
      rw [fX7_errorMade_L5] at hf
      refine lv_iload hx hb dX7_errorMade_5 (lv_at hl 3 rfl) ?_
      refine lv_iload_n hx hb dX7_errorMade_7 rfl (lv_at hl 1 rfl) ?_
      refine lv_icmp_ge (tgt := 41) hx hb dX7_errorMade_8 (by decide) (fun c1 => ?_) (fun c1 => ?_)
      · have hf := br_p c1 hf
        refine lv_iload_n hx hb dX7_errorMade_41 rfl (lv_at hl 2 rfl) ?_
        exact ss_iret hx hb hr hlk hW (Option.some.inj hf) dX7_errorMade_42
      · have hf := br_n c1 hf
        refine lv_iload_n hx hb dX7_errorMade_11 rfl (lv_at hl 2 rfl) ?_
        refine lv_aload_n hx hb dX7_errorMade_12 rfl (lv_at hl 0 rfl) ?_
        refine g_M_s hx hb hown hK hW kF_RX7_7 dX7_errorMade_13 ?_
        refine lv_bipush (v := 7) hx hb dX7_errorMade_16 (by decide) ?_
        refine lv_iload hx hb dX7_errorMade_18 (lv_at hl 3 rfl) ?_
        refine lv_iadd hx hb dX7_errorMade_20 ?_
        obtain ⟨hk2, hf⟩ := gd_inv hf
        refine l_M0 hx hb hK hW rfl hk2 dX7_errorMade_21 ?_
        refine lv_aload_n hx hb dX7_errorMade_22 rfl (lv_at hl 0 rfl) ?_
        refine g_M_made hx hb hown hK hW kF_RX7_29 dX7_errorMade_23 ?_
        refine lv_iload hx hb dX7_errorMade_26 (lv_at hl 3 rfl) ?_
        obtain ⟨hk3, hf⟩ := gd_inv hf
        refine l_M6 hx hb hK hW rfl hk3 dX7_errorMade_28 ?_
        refine lv_isub hx hb dX7_errorMade_29 ?_
        obtain ⟨r5, q4, hf⟩ := bd_inv hf
        refine ss_callSi (As := [.int ((μ 0 ((7 + x4)).toNatClampNeg) - (μ 6 (x4).toNatClampNeg))]) hx hb hml hown hK hW kb_X7_square kM_RX7_82 (mX7_square l (a0 := ((μ 0 ((7 + x4)).toNatClampNeg) - (μ 6 (x4).toNatClampNeg))) q4) rfl dX7_errorMade_30 rfl hl.1 (Nat.le_of_ble_eq_true rfl) ⟨Nat.le_of_ble_eq_true rfl, Nat.le_of_ble_eq_true rfl⟩ ⟨Nat.zero_le _, Nat.zero_le _⟩ (fun H locs hW => ?_)
        refine lv_iadd hx hb dX7_errorMade_33 ?_
        refine lv_topi (fun x3_6 ex3_6 => ?_)
        have hf := nm_use ex3_6 hf
        refine lv_istore_n (lv' := [(3, .int x3_6), (0, .ref (eA E 9)), (2, .int a2), (4, .int x4)]) hx hb dX7_errorMade_34 rfl hl (by decide) rfl (fun ls hl => ?_)
        obtain ⟨x4_7, ex4_7⟩ : ∃ y : Int32, y = (x4 + 1) := ⟨_, rfl⟩
        have hf := nm_use ex4_7 hf
        refine lv_iinc (v := x4_7) (lv' := [(4, .int x4_7), (3, .int x3_6), (0, .ref (eA E 9)), (2, .int a2)]) hx hb dX7_errorMade_35 hl (k := 3) rfl (by rw [ex4_7]; rfl) (by decide) rfl (fun ls hl => ?_)
        refine lv_goto (tgt := 5) hx hb dX7_errorMade_38 (by decide) ?_
        exact ih5 x3_6 x4_7 μ _ _ _ hW (lv_sub hl [2, 3, 1, 0] rfl) hf
  refine lv_iconst (v := 0) hx hb dX7_errorMade_0 (by decide) ?_
  refine lv_istore_n (lv' := [(3, .int 0), (0, .ref (eA E 9)), (1, .int a1), (2, .int a2)]) hx hb dX7_errorMade_1 rfl hl (by decide) rfl (fun ls hl => ?_)
  refine lv_iload_n hx hb dX7_errorMade_2 rfl (lv_at hl 2 rfl) ?_
  refine lv_istore (lv' := [(4, .int a1), (3, .int 0), (0, .ref (eA E 9)), (1, .int a1), (2, .int a2)]) hx hb dX7_errorMade_3 hl (by decide) rfl (fun ls hl => ?_)
  exact h5 80 0 a1 μ _ _ _ hW (lv_sub hl [2, 4, 1, 0] rfl) hf
def fX7_toldOfBlock (a1 : Int32) (a2 : Int32) (μ : Sg) : Option (Int32 × Sg) := nm (a1 * (μ 0 2)) fun x3_1 => bd (fX7_decodes μ) fun u3 => if a2 = 0 then (bd (fX7_endOf a1 u3) fun r6 => some ((r6 - x3_1), u3)) else (if a2 = 1 then (gd (¬ ((199 + a1) < 0 ∨ 295 ≤ ((199 + a1)).toNatClampNeg)) <| some (((u3 0 ((199 + a1)).toNatClampNeg) + 10000), u3)) else (if a2 = 2 then (gd (¬ ((231 + a1) < 0 ∨ 295 ≤ ((231 + a1)).toNatClampNeg)) <| some ((u3 0 ((231 + a1)).toNatClampNeg), u3)) else (if a2 = 3 then (gd (¬ ((263 + a1) < 0 ∨ 295 ≤ ((263 + a1)).toNatClampNeg)) <| some ((u3 0 ((263 + a1)).toNatClampNeg), u3)) else (if a2 = 4 then (bd (fX7_endOf a1 u3) fun r15 => bd (fX7_errorMade x3_1 r15 u3) fun r17 => some (r17, u3)) else (gd (¬ (a1 < 0 ∨ 32 ≤ (a1).toNatClampNeg)) <| some ((u3 8 (a1).toNatClampNeg), u3))))))
set_option maxHeartbeats 4000000 in
set_option maxRecDepth 100000 in
theorem mX7_toldOfBlock (l : Launch) {E : En} {σ μ : Sg} {dg : Int64} {a1 : Int32} {a2 : Int32}  {r : Int32} {μ' : Sg} (hf : fX7_toldOfBlock a1 a2 μ = some (r, μ')) : Met l yX7_toldOfBlock [.code yX7_toldOfBlock cX7_toldOfBlock 4 (some .int)] (Rm 3 70) (va_Pc [.ref (eA E 9), .int a1, .int a2] (Wd E σ μ dg)) (Qi E σ μ' dg r) 0 0 (eP E) := by
  refine ss_of (by decide) (Nat.le_of_ble_eq_true rfl) (fun p e s m below meth c hx hb hr hlk hml hown hK hW ls hl => ?_)
  have hown : s.vm.findClass RX7 = some m.cls := hown
  have hl : lv_has ls 4 [(0, .ref (eA E 9)), (1, .int a1), (2, .int a2)] := hl
  unfold fX7_toldOfBlock at hf
  refine lv_iload_n hx hb dX7_toldOfBlock_0 rfl (lv_at hl 1 rfl) ?_
  refine lv_aload_n hx hb dX7_toldOfBlock_1 rfl (lv_at hl 0 rfl) ?_
  refine g_M_s hx hb hown hK hW kF_RX7_7 dX7_toldOfBlock_2 ?_
  refine lv_iconst (v := 2) hx hb dX7_toldOfBlock_5 (by decide) ?_
  refine l_M0 (k0 := 2) hx hb hK hW (by decide) (show ¬ ((2 : Int32) < 0 ∨ 295 ≤ (2 : Int32).toNatClampNeg) by decide) dX7_toldOfBlock_6 ?_
  refine lv_imul hx hb dX7_toldOfBlock_7 ?_
  refine lv_topi (fun x3_1 ex3_1 => ?_)
  have hf := nm_use ex3_1 hf
  refine lv_istore_n (lv' := [(3, .int x3_1), (0, .ref (eA E 9)), (1, .int a1), (2, .int a2)]) hx hb dX7_toldOfBlock_8 rfl hl (by decide) rfl (fun ls hl => ?_)
  refine lv_aload_n hx hb dX7_toldOfBlock_9 rfl (lv_at hl 1 rfl) ?_
  obtain ⟨u3, q2, hf⟩ := bd_inv hf
  refine ss_callVv (As := []) hx hb hml hown hK hW kb_X7_decodes kM_RX7_94 rfl (by decide) (c_fx (by decide)) (mX7_decodes l  q2) rfl dX7_toldOfBlock_10 rfl hl.1 (Nat.le_of_ble_eq_true rfl) ⟨Nat.le_of_ble_eq_true rfl, Nat.le_of_ble_eq_true rfl⟩ ⟨Nat.zero_le _, Nat.zero_le _⟩ (fun H locs hW => ?_)
  refine lv_iload_n hx hb dX7_toldOfBlock_13 rfl (lv_at hl 3 rfl) ?_
  by_cases c4 : a2 = 0
  · have hf := br_p c4 hf
    refine lv_tableIn (tgt := 48) hx hb dX7_toldOfBlock_14 (by rw [c4]; decide) (by rw [c4]; decide) (by rw [c4]; rfl) (by decide) ?_
    refine lv_aload_n hx hb dX7_toldOfBlock_48 rfl (lv_at hl 1 rfl) ?_
    refine lv_iload_n hx hb dX7_toldOfBlock_49 rfl (lv_at hl 2 rfl) ?_
    obtain ⟨r6, q5, hf⟩ := bd_inv hf
    refine ss_callVi (As := [.int a1]) hx hb hml hown hK hW kb_X7_endOf kM_RX7_88 rfl (by decide) (c_fx (by decide)) (mX7_endOf l (a1 := a1) q5) rfl dX7_toldOfBlock_50 rfl hl.1 (Nat.le_of_ble_eq_true rfl) ⟨Nat.le_of_ble_eq_true rfl, Nat.le_of_ble_eq_true rfl⟩ ⟨Nat.zero_le _, Nat.zero_le _⟩ (fun H locs hW => ?_)
    refine lv_iload_n hx hb dX7_toldOfBlock_53 rfl (lv_at hl 0 rfl) ?_
    refine lv_isub hx hb dX7_toldOfBlock_54 ?_
    cases hf
    exact ss_iret hx hb hr hlk hW rfl dX7_toldOfBlock_55
  have hf := br_n c4 hf
  by_cases c7 : a2 = 1
  · have hf := br_p c7 hf
    refine lv_tableIn (tgt := 56) hx hb dX7_toldOfBlock_14 (by rw [c7]; decide) (by rw [c7]; decide) (by rw [c7]; rfl) (by decide) ?_
    refine lv_aload_n hx hb dX7_toldOfBlock_56 rfl (lv_at hl 1 rfl) ?_
    refine g_M_s hx hb hown hK hW kF_RX7_7 dX7_toldOfBlock_57 ?_
    refine lv_sipush (v := 199) hx hb dX7_toldOfBlock_60 (by decide) ?_
    refine lv_iload_n hx hb dX7_toldOfBlock_63 rfl (lv_at hl 2 rfl) ?_
    refine lv_iadd hx hb dX7_toldOfBlock_64 ?_
    obtain ⟨hk8, hf⟩ := gd_inv hf
    refine l_M0 hx hb hK hW rfl hk8 dX7_toldOfBlock_65 ?_
    refine lv_sipush (v := 10000) hx hb dX7_toldOfBlock_66 (by decide) ?_
    refine lv_iadd hx hb dX7_toldOfBlock_69 ?_
    cases hf
    exact ss_iret hx hb hr hlk hW rfl dX7_toldOfBlock_70
  have hf := br_n c7 hf
  by_cases c9 : a2 = 2
  · have hf := br_p c9 hf
    refine lv_tableIn (tgt := 71) hx hb dX7_toldOfBlock_14 (by rw [c9]; decide) (by rw [c9]; decide) (by rw [c9]; rfl) (by decide) ?_
    refine lv_aload_n hx hb dX7_toldOfBlock_71 rfl (lv_at hl 1 rfl) ?_
    refine g_M_s hx hb hown hK hW kF_RX7_7 dX7_toldOfBlock_72 ?_
    refine lv_sipush (v := 231) hx hb dX7_toldOfBlock_75 (by decide) ?_
    refine lv_iload_n hx hb dX7_toldOfBlock_78 rfl (lv_at hl 2 rfl) ?_
    refine lv_iadd hx hb dX7_toldOfBlock_79 ?_
    obtain ⟨hk10, hf⟩ := gd_inv hf
    refine l_M0 hx hb hK hW rfl hk10 dX7_toldOfBlock_80 ?_
    cases hf
    exact ss_iret hx hb hr hlk hW rfl dX7_toldOfBlock_81
  have hf := br_n c9 hf
  by_cases c11 : a2 = 3
  · have hf := br_p c11 hf
    refine lv_tableIn (tgt := 82) hx hb dX7_toldOfBlock_14 (by rw [c11]; decide) (by rw [c11]; decide) (by rw [c11]; rfl) (by decide) ?_
    refine lv_aload_n hx hb dX7_toldOfBlock_82 rfl (lv_at hl 1 rfl) ?_
    refine g_M_s hx hb hown hK hW kF_RX7_7 dX7_toldOfBlock_83 ?_
    refine lv_sipush (v := 263) hx hb dX7_toldOfBlock_86 (by decide) ?_
    refine lv_iload_n hx hb dX7_toldOfBlock_89 rfl (lv_at hl 2 rfl) ?_
    refine lv_iadd hx hb dX7_toldOfBlock_90 ?_
    obtain ⟨hk12, hf⟩ := gd_inv hf
    refine l_M0 hx hb hK hW rfl hk12 dX7_toldOfBlock_91 ?_
    cases hf
    exact ss_iret hx hb hr hlk hW rfl dX7_toldOfBlock_92
  have hf := br_n c11 hf
  by_cases c13 : a2 = 4
  · have hf := br_p c13 hf
    refine lv_tableIn (tgt := 93) hx hb dX7_toldOfBlock_14 (by rw [c13]; decide) (by rw [c13]; decide) (by rw [c13]; rfl) (by decide) ?_
    refine lv_aload_n hx hb dX7_toldOfBlock_93 rfl (lv_at hl 1 rfl) ?_
    refine lv_iload_n hx hb dX7_toldOfBlock_94 rfl (lv_at hl 0 rfl) ?_
    refine lv_aload_n hx hb dX7_toldOfBlock_95 rfl (lv_at hl 1 rfl) ?_
    refine lv_iload_n hx hb dX7_toldOfBlock_96 rfl (lv_at hl 2 rfl) ?_
    obtain ⟨r15, q14, hf⟩ := bd_inv hf
    refine ss_callVi (As := [.int a1]) hx hb hml hown hK hW kb_X7_endOf kM_RX7_88 rfl (by decide) (c_fx (by decide)) (mX7_endOf l (a1 := a1) q14) rfl dX7_toldOfBlock_97 rfl hl.1 (Nat.le_of_ble_eq_true rfl) ⟨Nat.le_of_ble_eq_true rfl, Nat.le_of_ble_eq_true rfl⟩ ⟨Nat.zero_le _, Nat.zero_le _⟩ (fun H locs hW => ?_)
    obtain ⟨r17, q16, hf⟩ := bd_inv hf
    refine ss_callVi (As := [.int x3_1, .int r15]) hx hb hml hown hK hW kb_X7_errorMade kM_RX7_173 rfl (by decide) (c_fx (by decide)) (mX7_errorMade l (a1 := x3_1) (a2 := r15) q16) rfl dX7_toldOfBlock_100 rfl hl.1 (Nat.le_of_ble_eq_true rfl) ⟨Nat.le_of_ble_eq_true rfl, Nat.le_of_ble_eq_true rfl⟩ ⟨Nat.zero_le _, Nat.zero_le _⟩ (fun H locs hW => ?_)
    cases hf
    exact ss_iret hx hb hr hlk hW rfl dX7_toldOfBlock_103
  have hf := br_n c13 hf
  have zc4 := sw_ne (n := 0) c4 (by decide)
  have zc7 := sw_ne (n := 1) c7 (by decide)
  have zc9 := sw_ne (n := 2) c9 (by decide)
  have zc11 := sw_ne (n := 3) c11 (by decide)
  have zc13 := sw_ne (n := 4) c13 (by decide)
  refine lv_tableOut (tgt := 104) hx hb dX7_toldOfBlock_14 (by omega) (by decide) ?_
  refine lv_aload_n hx hb dX7_toldOfBlock_104 rfl (lv_at hl 1 rfl) ?_
  refine g_M_leads hx hb hown hK hW kF_RX7_35 dX7_toldOfBlock_105 ?_
  refine lv_iload_n hx hb dX7_toldOfBlock_108 rfl (lv_at hl 2 rfl) ?_
  obtain ⟨hk18, hf⟩ := gd_inv hf
  refine l_M8 hx hb hK hW rfl hk18 dX7_toldOfBlock_109 ?_
  cases hf
  exact ss_iret hx hb hr hlk hW rfl dX7_toldOfBlock_110
def fX7_blockOf_b27 (a1 : Int32) (a2 : Int32) (k0 : Int32) (μ : Sg) : Option (Int32 × Sg) := bd2 (fX7_holds k0 μ) fun r2 u3 => if r2 = 0 then (some (0, u3)) else (bd2 (fX7_toldOfBlock a1 a2 u3) fun r6 u7 => some (r6, u7))
def fX7_blockOf (a1 : Int32) (a2 : Int32) (μ : Sg) : Option (Int32 × Sg) := bd (fX7_isBlock a1 μ) fun r9 => if r9 = 0 then (fX7_blockOf_b27 a1 a2 1 μ) else (bd (fX7_in a2 0 5) fun r12 => if r12 = 0 then (fX7_blockOf_b27 a1 a2 2 μ) else (fX7_blockOf_b27 a1 a2 0 μ))
set_option maxHeartbeats 4000000 in
set_option maxRecDepth 100000 in
theorem mX7_blockOf (l : Launch) {E : En} {σ μ : Sg} {dg : Int64} {a1 : Int32} {a2 : Int32}  {r : Int32} {μ' : Sg} (hf : fX7_blockOf a1 a2 μ = some (r, μ')) : Met l yX7_blockOf [.code yX7_blockOf cX7_blockOf 3 (some .int)] (Rm 4 93) (va_Pc [.ref (eA E 9), .int a1, .int a2] (Wd E σ μ dg)) (Qi E σ μ' dg r) 0 0 (eP E) := by
  refine ss_of (by decide) (Nat.le_of_ble_eq_true rfl) (fun p e s m below meth c hx hb hr hlk hml hown hK hW ls hl => ?_)
  have hown : s.vm.findClass RX7 = some m.cls := hown
  have hl : lv_has ls 3 [(0, .ref (eA E 9)), (1, .int a1), (2, .int a2)] := hl
  unfold fX7_blockOf at hf
  have h27 : ∀ (k0 : Int32) (μ : Sg) (H : Heap) (locs : List Loc) (ls : Array Slot), Wk E σ μ dg s H locs → lv_has ls 3 [(0, .ref (eA E 9)), (1, .int a1), (2, .int a2)] → fX7_blockOf_b27 a1 a2 k0 μ = some (r, μ') → W p l e (Rm 4 93) s m [.ref (eA E 9), .int a1, .int a2].toArray below meth c H locs 0 0 (MQ below (Qi E σ μ' dg r) [.ref (eA E 9), .int a1, .int a2].toArray s 0 0 (eP E)) (F0 m 27 ls [.int k0, .ref (eA E 9)]) := by
    intro k0 μ  H locs ls hW hl hf
    unfold fX7_blockOf_b27 at hf
    obtain ⟨r2, u3, q1, hf⟩ := bd2_inv hf
    refine ss_callVi (As := [.int k0]) hx hb hml hown hK hW kb_X7_holds kM_RX7_97 rfl (by decide) (c_fx (by decide)) (mX7_holds l (a1 := k0) q1) rfl dX7_blockOf_27 rfl hl.1 (Nat.le_of_ble_eq_true rfl) ⟨Nat.le_of_ble_eq_true rfl, Nat.le_of_ble_eq_true rfl⟩ ⟨Nat.zero_le _, Nat.zero_le _⟩ (fun H locs hW => ?_)
    refine lv_if_eq (tgt := 42) hx hb dX7_blockOf_30 (by decide) (fun c4 => ?_) (fun c4 => ?_)
    · have hf := br_p c4 hf
      refine lv_iconst (v := 0) hx hb dX7_blockOf_42 (by decide) ?_
      cases hf
      exact ss_iret hx hb hr hlk hW rfl dX7_blockOf_43
    · have hf := br_n c4 hf
      refine lv_aload_n hx hb dX7_blockOf_33 rfl (lv_at hl 0 rfl) ?_
      refine lv_iload_n hx hb dX7_blockOf_34 rfl (lv_at hl 1 rfl) ?_
      refine lv_iload_n hx hb dX7_blockOf_35 rfl (lv_at hl 2 rfl) ?_
      obtain ⟨r6, u7, q5, hf⟩ := bd2_inv hf
      refine ss_callVi (As := [.int a1, .int a2]) hx hb hml hown hK hW kb_X7_toldOfBlock kM_RX7_176 rfl (by decide) (c_fx (by decide)) (mX7_toldOfBlock l (a1 := a1) (a2 := a2) q5) rfl dX7_blockOf_36 rfl hl.1 (Nat.le_of_ble_eq_true rfl) ⟨Nat.le_of_ble_eq_true rfl, Nat.le_of_ble_eq_true rfl⟩ ⟨Nat.zero_le _, Nat.zero_le _⟩ (fun H locs hW => ?_)
      refine lv_goto (tgt := 43) hx hb dX7_blockOf_39 (by decide) ?_
      cases hf
      exact ss_iret hx hb hr hlk hW rfl dX7_blockOf_43
  refine lv_aload_n hx hb dX7_blockOf_0 rfl (lv_at hl 0 rfl) ?_
  refine lv_aload_n hx hb dX7_blockOf_1 rfl (lv_at hl 0 rfl) ?_
  refine lv_iload_n hx hb dX7_blockOf_2 rfl (lv_at hl 1 rfl) ?_
  obtain ⟨r9, q8, hf⟩ := bd_inv hf
  refine ss_callVi (As := [.int a1]) hx hb hml hown hK hW kb_X7_isBlock kM_RX7_116 rfl (by decide) (c_fx (by decide)) (mX7_isBlock l (a1 := a1) q8) rfl dX7_blockOf_3 rfl hl.1 (Nat.le_of_ble_eq_true rfl) ⟨Nat.le_of_ble_eq_true rfl, Nat.le_of_ble_eq_true rfl⟩ ⟨Nat.zero_le _, Nat.zero_le _⟩ (fun H locs hW => ?_)
  refine lv_if_ne (tgt := 13) hx hb dX7_blockOf_6 (by decide) (fun c10 => ?_) (fun c10 => ?_)
  · have hf := br_n c10 hf
    refine lv_iload_n hx hb dX7_blockOf_13 rfl (lv_at hl 2 rfl) ?_
    refine lv_iconst (v := 0) hx hb dX7_blockOf_14 (by decide) ?_
    refine lv_iconst (v := 5) hx hb dX7_blockOf_15 (by decide) ?_
    obtain ⟨r12, q11, hf⟩ := bd_inv hf
    refine ss_callSi (As := [.int a2, .int 0, .int 5]) hx hb hml hown hK hW kb_X7_in kM_RX7_51 (mX7_in l (a0 := a2) (a1 := 0) (a2 := 5) q11) rfl dX7_blockOf_16 rfl hl.1 (Nat.le_of_ble_eq_true rfl) ⟨Nat.le_of_ble_eq_true rfl, Nat.le_of_ble_eq_true rfl⟩ ⟨Nat.zero_le _, Nat.zero_le _⟩ (fun H locs hW => ?_)
    refine lv_if_ne (tgt := 26) hx hb dX7_blockOf_19 (by decide) (fun c13 => ?_) (fun c13 => ?_)
    · have hf := br_n c13 hf
      refine lv_iconst (v := 0) hx hb dX7_blockOf_26 (by decide) ?_
      exact h27 0 μ _ _ _ hW (lv_sub hl [0, 1, 2] rfl) hf
    · have hf := br_p c13 hf
      refine lv_iconst (v := 2) hx hb dX7_blockOf_22 (by decide) ?_
      refine lv_goto (tgt := 27) hx hb dX7_blockOf_23 (by decide) ?_
      exact h27 2 μ _ _ _ hW (lv_sub hl [0, 1, 2] rfl) hf
  · have hf := br_p c10 hf
    refine lv_iconst (v := 1) hx hb dX7_blockOf_9 (by decide) ?_
    refine lv_goto (tgt := 27) hx hb dX7_blockOf_10 (by decide) ?_
    exact h27 1 μ _ _ _ hW (lv_sub hl [0, 1, 2] rfl) hf
def fX7_clearBuffer (μ : Sg) : Option (Int32 × Sg) := nm (up2 μ 20 0 0) fun u1 => nm (u1 20 7) fun x1_2 => nm (up2 u1 20 7 0) fun u3 => some (x1_2, u3)
set_option maxHeartbeats 4000000 in
set_option maxRecDepth 100000 in
theorem mX7_clearBuffer (l : Launch) {E : En} {σ μ : Sg} {dg : Int64}   {r : Int32} {μ' : Sg} (hf : fX7_clearBuffer μ = some (r, μ')) : Met l yX7_clearBuffer [.code yX7_clearBuffer cX7_clearBuffer 2 (some .int)] (Rm 0 0) (va_Pc [.ref (eA E 9)] (Wd E σ μ dg)) (Qi E σ μ' dg r) 0 0 (eP E) := by
  refine ss_of (by decide) (Nat.le_of_ble_eq_true rfl) (fun p e s m below meth c hx hb hr hlk hml hown hK hW ls hl => ?_)
  have hown : s.vm.findClass RX7 = some m.cls := hown
  have hl : lv_has ls 2 [(0, .ref (eA E 9))] := hl
  unfold fX7_clearBuffer at hf
  refine lv_aload_n hx hb dX7_clearBuffer_0 rfl (lv_at hl 0 rfl) ?_
  refine lv_iconst (v := 0) hx hb dX7_clearBuffer_1 (by decide) ?_
  refine p_M_thrown hx hb hown hK hW kF_RX7_44 dX7_clearBuffer_2 (fun H locs hW => ?_)
  obtain ⟨u1, eu1⟩ : ∃ y : Sg, y = (up2 μ 20 0 0) := ⟨_, rfl⟩
  have hf := nm_use eu1 hf
  rw [← eu1] at hW
  refine lv_aload_n hx hb dX7_clearBuffer_5 rfl (lv_at hl 0 rfl) ?_
  refine g_M_length hx hb hown hK hW kF_RX7_125 dX7_clearBuffer_6 ?_
  refine lv_topi (fun x1_2 ex1_2 => ?_)
  have hf := nm_use ex1_2 hf
  refine lv_istore_n (lv' := [(1, .int x1_2), (0, .ref (eA E 9))]) hx hb dX7_clearBuffer_9 rfl hl (by decide) rfl (fun ls hl => ?_)
  refine lv_aload_n hx hb dX7_clearBuffer_10 rfl (lv_at hl 1 rfl) ?_
  refine lv_iconst (v := 0) hx hb dX7_clearBuffer_11 (by decide) ?_
  refine p_M_length hx hb hown hK hW kF_RX7_125 dX7_clearBuffer_12 (fun H locs hW => ?_)
  obtain ⟨u3, eu3⟩ : ∃ y : Sg, y = (up2 u1 20 7 0) := ⟨_, rfl⟩
  have hf := nm_use eu3 hf
  rw [← eu3] at hW
  refine lv_iload_n hx hb dX7_clearBuffer_15 rfl (lv_at hl 0 rfl) ?_
  cases hf
  exact ss_iret hx hb hr hlk hW rfl dX7_clearBuffer_16
def fX7_codes_L84 (a1 : Int32) (n : Nat) (x4 : Int32) (x5 : Int32) (x6 : Int32) (μ : Sg) : Option (Int32 × Sg) := match n with
  | 0 => none
  | n + 1 => bd (fX7_endOf a1 μ) fun r2 => if r2 ≤ x6 then (some (x5, μ)) else (gd (¬ ((7 + x6) < 0 ∨ 295 ≤ ((7 + x6)).toNatClampNeg)) <| bd (fX7_codeFor x4 x5 (μ 0 ((7 + x6)).toNatClampNeg) μ) fun r6 => bd (fX7_nextGuess x4 x5 r6 μ) fun r8 => bd (fX7_nextNumber x5 r6) fun r10 => gd (¬ ((71 + x6) < 0 ∨ 295 ≤ ((71 + x6)).toNatClampNeg)) <| nm (up2 μ 0 (((71 + x6)).toNatClampNeg) r6) fun u12 => gd (¬ ((135 + x6) < 0 ∨ 295 ≤ ((135 + x6)).toNatClampNeg)) <| nm (up2 u12 0 (((135 + x6)).toNatClampNeg) r8) fun u14 => nm (x6 + 1) fun x6_15 => (fun x4 x5 x6 μ => fX7_codes_L84 a1 n x4 x5 x6 μ) r8 r10 x6_15 u14)
def fX7_codes (a1 : Int32) (a2 : Int32) (μ : Sg) : Option (Int32 × Sg) := nm (a1 * (μ 0 2)) fun x3_16 => gd (¬ ((7 + x3_16) < 0 ∨ 295 ≤ ((7 + x3_16)).toNatClampNeg)) <| nm (μ 0 ((7 + x3_16)).toNatClampNeg) fun x4_18 => gd (¬ ((199 + a1) < 0 ∨ 295 ≤ ((199 + a1)).toNatClampNeg)) <| nm (up2 μ 0 (((199 + a1)).toNatClampNeg) x4_18) fun u20 => gd (¬ ((231 + a1) < 0 ∨ 295 ≤ ((231 + a1)).toNatClampNeg)) <| nm (up2 u20 0 (((231 + a1)).toNatClampNeg) a2) fun u22 => gd (¬ ((263 + a1) < 0 ∨ 295 ≤ ((263 + a1)).toNatClampNeg)) <| nm (up2 u22 0 (((263 + a1)).toNatClampNeg) 0) fun u24 => gd (¬ ((71 + x3_16) < 0 ∨ 295 ≤ ((71 + x3_16)).toNatClampNeg)) <| nm (up2 u24 0 (((71 + x3_16)).toNatClampNeg) (-1)) fun u26 => gd (¬ ((135 + x3_16) < 0 ∨ 295 ≤ ((135 + x3_16)).toNatClampNeg)) <| nm (up2 u26 0 (((135 + x3_16)).toNatClampNeg) x4_18) fun u28 => nm (x3_16 + 1) fun x6_29 => fX7_codes_L84 a1 80 x4_18 a2 x6_29 u28
set_option maxHeartbeats 4000000 in
set_option maxRecDepth 100000 in
theorem mX7_codes (l : Launch) {E : En} {σ μ : Sg} {dg : Int64} {a1 : Int32} {a2 : Int32}  {r : Int32} {μ' : Sg} (hf : fX7_codes a1 a2 μ = some (r, μ')) : Met l yX7_codes [.code yX7_codes cX7_codes 8 (some .int)] (Rm 2 45) (va_Pc [.ref (eA E 9), .int a1, .int a2] (Wd E σ μ dg)) (Qi E σ μ' dg r) 0 0 (eP E) := by
  refine ss_of (by decide) (Nat.le_of_ble_eq_true rfl) (fun p e s m below meth c hx hb hr hlk hml hown hK hW ls hl => ?_)
  have hown : s.vm.findClass RX7 = some m.cls := hown
  have hl : lv_has ls 8 [(0, .ref (eA E 9)), (1, .int a1), (2, .int a2)] := hl
  unfold fX7_codes at hf
  have h84 : ∀ (n84 : Nat) (x4 : Int32) (x5 : Int32) (x6 : Int32) (μ : Sg) (H : Heap) (locs : List Loc) (ls : Array Slot), Wk E σ μ dg s H locs → lv_has ls 8 [(0, .ref (eA E 9)), (1, .int a1), (4, .int x4), (5, .int x5), (6, .int x6)] → fX7_codes_L84 a1 n84 x4 x5 x6 μ = some (r, μ') → W p l e (Rm 2 45) s m [.ref (eA E 9), .int a1, .int a2].toArray below meth c H locs 0 0 (MQ below (Qi E σ μ' dg r) [.ref (eA E 9), .int a1, .int a2].toArray s 0 0 (eP E)) (F0 m 84 ls []) := by
    intro n84
    induction n84 with
    | zero =>
      intro x4 x5 x6 μ  H locs ls hW hl hf
      exact absurd hf (by simp [fX7_codes_L84])
    | succ n84 ih84 =>
      intro x4 x5 x6 μ  H locs ls hW hl hf
      rw [fX7_codes_L84] at hf
      refine lv_iload hx hb dX7_codes_84 (lv_at hl 4 rfl) ?_
      refine lv_aload_n hx hb dX7_codes_86 rfl (lv_at hl 0 rfl) ?_
      refine lv_iload_n hx hb dX7_codes_87 rfl (lv_at hl 1 rfl) ?_
      obtain ⟨r2, q1, hf⟩ := bd_inv hf
      refine ss_callVi (As := [.int a1]) hx hb hml hown hK hW kb_X7_endOf kM_RX7_88 rfl (by decide) (c_fx (by decide)) (mX7_endOf l (a1 := a1) q1) rfl dX7_codes_88 rfl hl.1 (Nat.le_of_ble_eq_true rfl) ⟨Nat.le_of_ble_eq_true rfl, Nat.le_of_ble_eq_true rfl⟩ ⟨Nat.zero_le _, Nat.zero_le _⟩ (fun H locs hW => ?_)
      refine lv_icmp_ge (tgt := 166) hx hb dX7_codes_91 (by decide) (fun c3 => ?_) (fun c3 => ?_)
      · have hf := br_p c3 hf
        refine lv_iload hx hb dX7_codes_166 (lv_at hl 3 rfl) ?_
        cases hf
        exact ss_iret hx hb hr hlk hW rfl dX7_codes_168
      · have hf := br_n c3 hf
        refine lv_aload_n hx hb dX7_codes_94 rfl (lv_at hl 0 rfl) ?_
        refine lv_iload hx hb dX7_codes_95 (lv_at hl 2 rfl) ?_
        refine lv_iload hx hb dX7_codes_97 (lv_at hl 3 rfl) ?_
        refine lv_aload_n hx hb dX7_codes_99 rfl (lv_at hl 0 rfl) ?_
        refine g_M_s hx hb hown hK hW kF_RX7_7 dX7_codes_100 ?_
        refine lv_bipush (v := 7) hx hb dX7_codes_103 (by decide) ?_
        refine lv_iload hx hb dX7_codes_105 (lv_at hl 4 rfl) ?_
        refine lv_iadd hx hb dX7_codes_107 ?_
        obtain ⟨hk4, hf⟩ := gd_inv hf
        refine l_M0 hx hb hK hW rfl hk4 dX7_codes_108 ?_
        obtain ⟨r6, q5, hf⟩ := bd_inv hf
        refine ss_callVi (As := [.int x4, .int x5, .int (μ 0 ((7 + x6)).toNatClampNeg)]) hx hb hml hown hK hW kb_X7_codeFor kM_RX7_71 rfl (by decide) (c_fx (by decide)) (mX7_codeFor l (a1 := x4) (a2 := x5) (a3 := (μ 0 ((7 + x6)).toNatClampNeg)) q5) rfl dX7_codes_109 rfl hl.1 (Nat.le_of_ble_eq_true rfl) ⟨Nat.le_of_ble_eq_true rfl, Nat.le_of_ble_eq_true rfl⟩ ⟨Nat.zero_le _, Nat.zero_le _⟩ (fun H locs hW => ?_)
        refine lv_istore (lv' := [(7, .int r6), (0, .ref (eA E 9)), (1, .int a1), (4, .int x4), (5, .int x5), (6, .int x6)]) hx hb dX7_codes_112 hl (by decide) rfl (fun ls hl => ?_)
        refine lv_aload_n hx hb dX7_codes_114 rfl (lv_at hl 1 rfl) ?_
        refine lv_iload hx hb dX7_codes_115 (lv_at hl 3 rfl) ?_
        refine lv_iload hx hb dX7_codes_117 (lv_at hl 4 rfl) ?_
        refine lv_iload hx hb dX7_codes_119 (lv_at hl 0 rfl) ?_
        obtain ⟨r8, q7, hf⟩ := bd_inv hf
        refine ss_callVi (As := [.int x4, .int x5, .int r6]) hx hb hml hown hK hW kb_X7_nextGuess kM_RX7_75 rfl (by decide) (c_fx (by decide)) (mX7_nextGuess l (a1 := x4) (a2 := x5) (a3 := r6) q7) rfl dX7_codes_121 rfl hl.1 (Nat.le_of_ble_eq_true rfl) ⟨Nat.le_of_ble_eq_true rfl, Nat.le_of_ble_eq_true rfl⟩ ⟨Nat.zero_le _, Nat.zero_le _⟩ (fun H locs hW => ?_)
        refine lv_istore (lv' := [(4, .int r8), (7, .int r6), (0, .ref (eA E 9)), (1, .int a1), (5, .int x5), (6, .int x6)]) hx hb dX7_codes_124 hl (by decide) rfl (fun ls hl => ?_)
        refine lv_iload hx hb dX7_codes_126 (lv_at hl 4 rfl) ?_
        refine lv_iload hx hb dX7_codes_128 (lv_at hl 1 rfl) ?_
        obtain ⟨r10, q9, hf⟩ := bd_inv hf
        refine ss_callSi (As := [.int x5, .int r6]) hx hb hml hown hK hW kb_X7_nextNumber kM_RX7_78 (mX7_nextNumber l (a0 := x5) (a1 := r6) q9) rfl dX7_codes_130 rfl hl.1 (Nat.le_of_ble_eq_true rfl) ⟨Nat.le_of_ble_eq_true rfl, Nat.le_of_ble_eq_true rfl⟩ ⟨Nat.zero_le _, Nat.zero_le _⟩ (fun H locs hW => ?_)
        refine lv_istore (lv' := [(5, .int r10), (4, .int r8), (7, .int r6), (0, .ref (eA E 9)), (1, .int a1), (6, .int x6)]) hx hb dX7_codes_133 hl (by decide) rfl (fun ls hl => ?_)
        refine lv_aload_n hx hb dX7_codes_135 rfl (lv_at hl 3 rfl) ?_
        refine g_M_s hx hb hown hK hW kF_RX7_7 dX7_codes_136 ?_
        refine lv_bipush (v := 71) hx hb dX7_codes_139 (by decide) ?_
        refine lv_iload hx hb dX7_codes_141 (lv_at hl 5 rfl) ?_
        refine lv_iadd hx hb dX7_codes_143 ?_
        refine lv_iload hx hb dX7_codes_144 (lv_at hl 2 rfl) ?_
        obtain ⟨hk11, hf⟩ := gd_inv hf
        refine s_M0 hx hb hK hW rfl hk11 dX7_codes_146 (fun H locs hW => ?_)
        obtain ⟨u12, eu12⟩ : ∃ y : Sg, y = (up2 μ 0 (((71 + x6)).toNatClampNeg) r6) := ⟨_, rfl⟩
        have hf := nm_use eu12 hf
        rw [← eu12] at hW
        refine lv_aload_n hx hb dX7_codes_147 rfl (lv_at hl 3 rfl) ?_
        refine g_M_s hx hb hown hK hW kF_RX7_7 dX7_codes_148 ?_
        refine lv_sipush (v := 135) hx hb dX7_codes_151 (by decide) ?_
        refine lv_iload hx hb dX7_codes_154 (lv_at hl 5 rfl) ?_
        refine lv_iadd hx hb dX7_codes_156 ?_
        refine lv_iload hx hb dX7_codes_157 (lv_at hl 1 rfl) ?_
        obtain ⟨hk13, hf⟩ := gd_inv hf
        refine s_M0 hx hb hK hW rfl hk13 dX7_codes_159 (fun H locs hW => ?_)
        obtain ⟨u14, eu14⟩ : ∃ y : Sg, y = (up2 u12 0 (((135 + x6)).toNatClampNeg) r8) := ⟨_, rfl⟩
        have hf := nm_use eu14 hf
        rw [← eu14] at hW
        obtain ⟨x6_15, ex6_15⟩ : ∃ y : Int32, y = (x6 + 1) := ⟨_, rfl⟩
        have hf := nm_use ex6_15 hf
        refine lv_iinc (v := x6_15) (lv' := [(6, .int x6_15), (5, .int r10), (4, .int r8), (7, .int r6), (0, .ref (eA E 9)), (1, .int a1)]) hx hb dX7_codes_160 hl (k := 5) rfl (by rw [ex6_15]; rfl) (by decide) rfl (fun ls hl => ?_)
        refine lv_goto (tgt := 84) hx hb dX7_codes_163 (by decide) ?_
        exact ih84 r8 r10 x6_15 u14 _ _ _ hW (lv_sub hl [4, 5, 2, 1, 0] rfl) hf
  refine lv_iload_n hx hb dX7_codes_0 rfl (lv_at hl 1 rfl) ?_
  refine lv_aload_n hx hb dX7_codes_1 rfl (lv_at hl 0 rfl) ?_
  refine g_M_s hx hb hown hK hW kF_RX7_7 dX7_codes_2 ?_
  refine lv_iconst (v := 2) hx hb dX7_codes_5 (by decide) ?_
  refine l_M0 (k0 := 2) hx hb hK hW (by decide) (show ¬ ((2 : Int32) < 0 ∨ 295 ≤ (2 : Int32).toNatClampNeg) by decide) dX7_codes_6 ?_
  refine lv_imul hx hb dX7_codes_7 ?_
  refine lv_topi (fun x3_16 ex3_16 => ?_)
  have hf := nm_use ex3_16 hf
  refine lv_istore_n (lv' := [(3, .int x3_16), (0, .ref (eA E 9)), (1, .int a1), (2, .int a2)]) hx hb dX7_codes_8 rfl hl (by decide) rfl (fun ls hl => ?_)
  refine lv_aload_n hx hb dX7_codes_9 rfl (lv_at hl 1 rfl) ?_
  refine g_M_s hx hb hown hK hW kF_RX7_7 dX7_codes_10 ?_
  refine lv_bipush (v := 7) hx hb dX7_codes_13 (by decide) ?_
  refine lv_iload_n hx hb dX7_codes_15 rfl (lv_at hl 0 rfl) ?_
  refine lv_iadd hx hb dX7_codes_16 ?_
  obtain ⟨hk17, hf⟩ := gd_inv hf
  refine l_M0 hx hb hK hW rfl hk17 dX7_codes_17 ?_
  refine lv_topi (fun x4_18 ex4_18 => ?_)
  have hf := nm_use ex4_18 hf
  refine lv_istore (lv' := [(4, .int x4_18), (3, .int x3_16), (0, .ref (eA E 9)), (1, .int a1), (2, .int a2)]) hx hb dX7_codes_18 hl (by decide) rfl (fun ls hl => ?_)
  refine lv_iload_n hx hb dX7_codes_20 rfl (lv_at hl 4 rfl) ?_
  refine lv_istore (lv' := [(5, .int a2), (4, .int x4_18), (3, .int x3_16), (0, .ref (eA E 9)), (1, .int a1), (2, .int a2)]) hx hb dX7_codes_21 hl (by decide) rfl (fun ls hl => ?_)
  refine lv_aload_n hx hb dX7_codes_23 rfl (lv_at hl 3 rfl) ?_
  refine g_M_s hx hb hown hK hW kF_RX7_7 dX7_codes_24 ?_
  refine lv_sipush (v := 199) hx hb dX7_codes_27 (by decide) ?_
  refine lv_iload_n hx hb dX7_codes_30 rfl (lv_at hl 4 rfl) ?_
  refine lv_iadd hx hb dX7_codes_31 ?_
  refine lv_iload hx hb dX7_codes_32 (lv_at hl 1 rfl) ?_
  obtain ⟨hk19, hf⟩ := gd_inv hf
  refine s_M0 hx hb hK hW rfl hk19 dX7_codes_34 (fun H locs hW => ?_)
  obtain ⟨u20, eu20⟩ : ∃ y : Sg, y = (up2 μ 0 (((199 + a1)).toNatClampNeg) x4_18) := ⟨_, rfl⟩
  have hf := nm_use eu20 hf
  rw [← eu20] at hW
  refine lv_aload_n hx hb dX7_codes_35 rfl (lv_at hl 3 rfl) ?_
  refine g_M_s hx hb hown hK hW kF_RX7_7 dX7_codes_36 ?_
  refine lv_sipush (v := 231) hx hb dX7_codes_39 (by decide) ?_
  refine lv_iload_n hx hb dX7_codes_42 rfl (lv_at hl 4 rfl) ?_
  refine lv_iadd hx hb dX7_codes_43 ?_
  refine lv_iload_n hx hb dX7_codes_44 rfl (lv_at hl 5 rfl) ?_
  obtain ⟨hk21, hf⟩ := gd_inv hf
  refine s_M0 hx hb hK hW rfl hk21 dX7_codes_45 (fun H locs hW => ?_)
  obtain ⟨u22, eu22⟩ : ∃ y : Sg, y = (up2 u20 0 (((231 + a1)).toNatClampNeg) a2) := ⟨_, rfl⟩
  have hf := nm_use eu22 hf
  rw [← eu22] at hW
  refine lv_aload_n hx hb dX7_codes_46 rfl (lv_at hl 3 rfl) ?_
  refine g_M_s hx hb hown hK hW kF_RX7_7 dX7_codes_47 ?_
  refine lv_sipush (v := 263) hx hb dX7_codes_50 (by decide) ?_
  refine lv_iload_n hx hb dX7_codes_53 rfl (lv_at hl 4 rfl) ?_
  refine lv_iadd hx hb dX7_codes_54 ?_
  refine lv_iconst (v := 0) hx hb dX7_codes_55 (by decide) ?_
  obtain ⟨hk23, hf⟩ := gd_inv hf
  refine s_M0 hx hb hK hW rfl hk23 dX7_codes_56 (fun H locs hW => ?_)
  obtain ⟨u24, eu24⟩ : ∃ y : Sg, y = (up2 u22 0 (((263 + a1)).toNatClampNeg) 0) := ⟨_, rfl⟩
  have hf := nm_use eu24 hf
  rw [← eu24] at hW
  refine lv_aload_n hx hb dX7_codes_57 rfl (lv_at hl 3 rfl) ?_
  refine g_M_s hx hb hown hK hW kF_RX7_7 dX7_codes_58 ?_
  refine lv_bipush (v := 71) hx hb dX7_codes_61 (by decide) ?_
  refine lv_iload_n hx hb dX7_codes_63 rfl (lv_at hl 2 rfl) ?_
  refine lv_iadd hx hb dX7_codes_64 ?_
  refine lv_iconst (v := (-1)) hx hb dX7_codes_65 (by decide) ?_
  obtain ⟨hk25, hf⟩ := gd_inv hf
  refine s_M0 hx hb hK hW rfl hk25 dX7_codes_66 (fun H locs hW => ?_)
  obtain ⟨u26, eu26⟩ : ∃ y : Sg, y = (up2 u24 0 (((71 + x3_16)).toNatClampNeg) (-1)) := ⟨_, rfl⟩
  have hf := nm_use eu26 hf
  rw [← eu26] at hW
  refine lv_aload_n hx hb dX7_codes_67 rfl (lv_at hl 3 rfl) ?_
  refine g_M_s hx hb hown hK hW kF_RX7_7 dX7_codes_68 ?_
  refine lv_sipush (v := 135) hx hb dX7_codes_71 (by decide) ?_
  refine lv_iload_n hx hb dX7_codes_74 rfl (lv_at hl 2 rfl) ?_
  refine lv_iadd hx hb dX7_codes_75 ?_
  refine lv_iload hx hb dX7_codes_76 (lv_at hl 1 rfl) ?_
  obtain ⟨hk27, hf⟩ := gd_inv hf
  refine s_M0 hx hb hK hW rfl hk27 dX7_codes_78 (fun H locs hW => ?_)
  obtain ⟨u28, eu28⟩ : ∃ y : Sg, y = (up2 u26 0 (((135 + x3_16)).toNatClampNeg) x4_18) := ⟨_, rfl⟩
  have hf := nm_use eu28 hf
  rw [← eu28] at hW
  refine lv_iload_n hx hb dX7_codes_79 rfl (lv_at hl 2 rfl) ?_
  refine lv_iconst (v := 1) hx hb dX7_codes_80 (by decide) ?_
  refine lv_iadd hx hb dX7_codes_81 ?_
  refine lv_topi (fun x6_29 ex6_29 => ?_)
  have hf := nm_use ex6_29 hf
  refine lv_istore (lv' := [(6, .int x6_29), (5, .int a2), (4, .int x4_18), (3, .int x3_16), (0, .ref (eA E 9)), (1, .int a1), (2, .int a2)]) hx hb dX7_codes_82 hl (by decide) rfl (fun ls hl => ?_)
  exact h84 80 x4_18 a2 x6_29 u28 _ _ _ hW (lv_sub hl [4, 5, 2, 1, 0] rfl) hf
def fX7_code_L30  (n : Nat) (x1 : Int32) (x2 : Int32) (μ : Sg) : Option (Int32 × Sg) := match n with
  | 0 => none
  | n + 1 => bd (fX7_blocks μ) fun r2 => if r2 ≤ x2 then (bd (fX7_blocks μ) fun r5 => some (r5, μ)) else (nm (x2 * (μ 0 2)) fun x3_6 => if (μ 0 3) = 1 then (bd (fX7_endOf x2 μ) fun r13 => bd (fX7_best x3_6 (r13 - x3_6) μ) fun r15 => bd2 (fX7_codes x2 r15 μ) fun r17 u18 => nm (x2 + 1) fun x2_19 => (fun x1 x2 μ => fX7_code_L30 n x1 x2 μ) r17 x2_19 u18) else (bd2 (fX7_codes x2 x1 μ) fun r9 u10 => nm (x2 + 1) fun x2_11 => (fun x1 x2 μ => fX7_code_L30 n x1 x2 μ) r9 x2_11 u10))
def fX7_code (μ : Sg) : Option (Int32 × Sg) := nm (up2 μ 20 0 0) fun u20 => bd (fX7_save u20) fun u22 => nm (up2 u22 0 1 1) fun u23 => nm (up2 u23 0 5 ((u23 0 5) + 1)) fun u24 => fX7_code_L30 80 0 0 u24
set_option maxHeartbeats 4000000 in
set_option maxRecDepth 100000 in
theorem mX7_code (l : Launch) {E : En} {σ μ : Sg} {dg : Int64}   {r : Int32} {μ' : Sg} (hf : fX7_code μ = some (r, μ')) : Met l yX7_code [.code yX7_code cX7_code 4 (some .int)] (Rm 4 97) (va_Pc [.ref (eA E 9)] (Wd E σ μ dg)) (Qi E σ μ' dg r) 0 0 (eP E) := by
  refine ss_of (by decide) (Nat.le_of_ble_eq_true rfl) (fun p e s m below meth c hx hb hr hlk hml hown hK hW ls hl => ?_)
  have hown : s.vm.findClass RX7 = some m.cls := hown
  have hl : lv_has ls 4 [(0, .ref (eA E 9))] := hl
  unfold fX7_code at hf
  have h30 : ∀ (n30 : Nat) (x1 : Int32) (x2 : Int32) (μ : Sg) (H : Heap) (locs : List Loc) (ls : Array Slot), Wk E σ μ dg s H locs → lv_has ls 4 [(0, .ref (eA E 9)), (1, .int x1), (2, .int x2)] → fX7_code_L30 n30 x1 x2 μ = some (r, μ') → W p l e (Rm 4 97) s m [.ref (eA E 9)].toArray below meth c H locs 0 0 (MQ below (Qi E σ μ' dg r) [.ref (eA E 9)].toArray s 0 0 (eP E)) (F0 m 30 ls []) := by
    intro n30
    induction n30 with
    | zero =>
      intro x1 x2 μ  H locs ls hW hl hf
      exact absurd hf (by simp [fX7_code_L30])
    | succ n30 ih30 =>
      intro x1 x2 μ  H locs ls hW hl hf
      rw [fX7_code_L30] at hf
      refine lv_iload_n hx hb dX7_code_30 rfl (lv_at hl 2 rfl) ?_
      refine lv_aload_n hx hb dX7_code_31 rfl (lv_at hl 0 rfl) ?_
      obtain ⟨r2, q1, hf⟩ := bd_inv hf
      refine ss_callVi (As := []) hx hb hml hown hK hW kb_X7_blocks kM_RX7_59 rfl (by decide) (c_fx (by decide)) (mX7_blocks l  q1) rfl dX7_code_32 rfl hl.1 (Nat.le_of_ble_eq_true rfl) ⟨Nat.le_of_ble_eq_true rfl, Nat.le_of_ble_eq_true rfl⟩ ⟨Nat.zero_le _, Nat.zero_le _⟩ (fun H locs hW => ?_)
      refine lv_icmp_ge (tgt := 85) hx hb dX7_code_35 (by decide) (fun c3 => ?_) (fun c3 => ?_)
      · have hf := br_p c3 hf
        refine lv_aload_n hx hb dX7_code_85 rfl (lv_at hl 0 rfl) ?_
        obtain ⟨r5, q4, hf⟩ := bd_inv hf
        refine ss_callVi (As := []) hx hb hml hown hK hW kb_X7_blocks kM_RX7_59 rfl (by decide) (c_fx (by decide)) (mX7_blocks l  q4) rfl dX7_code_86 rfl hl.1 (Nat.le_of_ble_eq_true rfl) ⟨Nat.le_of_ble_eq_true rfl, Nat.le_of_ble_eq_true rfl⟩ ⟨Nat.zero_le _, Nat.zero_le _⟩ (fun H locs hW => ?_)
        cases hf
        exact ss_iret hx hb hr hlk hW rfl dX7_code_89
      · have hf := br_n c3 hf
        refine lv_iload_n hx hb dX7_code_38 rfl (lv_at hl 2 rfl) ?_
        refine lv_aload_n hx hb dX7_code_39 rfl (lv_at hl 0 rfl) ?_
        refine g_M_s hx hb hown hK hW kF_RX7_7 dX7_code_40 ?_
        refine lv_iconst (v := 2) hx hb dX7_code_43 (by decide) ?_
        refine l_M0 (k0 := 2) hx hb hK hW (by decide) (show ¬ ((2 : Int32) < 0 ∨ 295 ≤ (2 : Int32).toNatClampNeg) by decide) dX7_code_44 ?_
        refine lv_imul hx hb dX7_code_45 ?_
        refine lv_topi (fun x3_6 ex3_6 => ?_)
        have hf := nm_use ex3_6 hf
        refine lv_istore_n (lv' := [(3, .int x3_6), (0, .ref (eA E 9)), (1, .int x1), (2, .int x2)]) hx hb dX7_code_46 rfl hl (by decide) rfl (fun ls hl => ?_)
        refine lv_aload_n hx hb dX7_code_47 rfl (lv_at hl 1 rfl) ?_
        refine lv_iload_n hx hb dX7_code_48 rfl (lv_at hl 3 rfl) ?_
        refine lv_aload_n hx hb dX7_code_49 rfl (lv_at hl 1 rfl) ?_
        refine g_M_s hx hb hown hK hW kF_RX7_7 dX7_code_50 ?_
        refine lv_iconst (v := 3) hx hb dX7_code_53 (by decide) ?_
        refine l_M0 (k0 := 3) hx hb hK hW (by decide) (show ¬ ((3 : Int32) < 0 ∨ 295 ≤ (3 : Int32).toNatClampNeg) by decide) dX7_code_54 ?_
        refine lv_iconst (v := 1) hx hb dX7_code_55 (by decide) ?_
        refine lv_icmp_ne (tgt := 74) hx hb dX7_code_56 (by decide) (fun c7 => ?_) (fun c7 => ?_)
        · have hf := br_n c7 hf
          refine lv_iload_n hx hb dX7_code_74 rfl (lv_at hl 2 rfl) ?_
          obtain ⟨r9, u10, q8, hf⟩ := bd2_inv hf
          refine ss_callVi (As := [.int x2, .int x1]) hx hb hml hown hK hW kb_X7_codes kM_RX7_113 rfl (by decide) (c_fx (by decide)) (mX7_codes l (a1 := x2) (a2 := x1) q8) rfl dX7_code_75 rfl hl.1 (Nat.le_of_ble_eq_true rfl) ⟨Nat.le_of_ble_eq_true rfl, Nat.le_of_ble_eq_true rfl⟩ ⟨Nat.zero_le _, Nat.zero_le _⟩ (fun H locs hW => ?_)
          refine lv_istore_n (lv' := [(1, .int r9), (3, .int x3_6), (0, .ref (eA E 9)), (2, .int x2)]) hx hb dX7_code_78 rfl hl (by decide) rfl (fun ls hl => ?_)
          obtain ⟨x2_11, ex2_11⟩ : ∃ y : Int32, y = (x2 + 1) := ⟨_, rfl⟩
          have hf := nm_use ex2_11 hf
          refine lv_iinc (v := x2_11) (lv' := [(2, .int x2_11), (1, .int r9), (3, .int x3_6), (0, .ref (eA E 9))]) hx hb dX7_code_79 hl (k := 3) rfl (by rw [ex2_11]; rfl) (by decide) rfl (fun ls hl => ?_)
          refine lv_goto (tgt := 30) hx hb dX7_code_82 (by decide) ?_
          exact ih30 r9 x2_11 u10 _ _ _ hW (lv_sub hl [3, 1, 0] rfl) hf
        · have hf := br_p c7 hf
          refine lv_aload_n hx hb dX7_code_59 rfl (lv_at hl 1 rfl) ?_
          refine lv_iload_n hx hb dX7_code_60 rfl (lv_at hl 0 rfl) ?_
          refine lv_aload_n hx hb dX7_code_61 rfl (lv_at hl 1 rfl) ?_
          refine lv_iload_n hx hb dX7_code_62 rfl (lv_at hl 3 rfl) ?_
          obtain ⟨r13, q12, hf⟩ := bd_inv hf
          refine ss_callVi (As := [.int x2]) hx hb hml hown hK hW kb_X7_endOf kM_RX7_88 rfl (by decide) (c_fx (by decide)) (mX7_endOf l (a1 := x2) q12) rfl dX7_code_63 rfl hl.1 (Nat.le_of_ble_eq_true rfl) ⟨Nat.le_of_ble_eq_true rfl, Nat.le_of_ble_eq_true rfl⟩ ⟨Nat.zero_le _, Nat.zero_le _⟩ (fun H locs hW => ?_)
          refine lv_iload_n hx hb dX7_code_66 rfl (lv_at hl 0 rfl) ?_
          refine lv_isub hx hb dX7_code_67 ?_
          obtain ⟨r15, q14, hf⟩ := bd_inv hf
          refine ss_callVi (As := [.int x3_6, .int (r13 - x3_6)]) hx hb hml hown hK hW kb_X7_best kM_RX7_110 rfl (by decide) (c_fx (by decide)) (mX7_best l (a1 := x3_6) (a2 := (r13 - x3_6)) q14) rfl dX7_code_68 rfl hl.1 (Nat.le_of_ble_eq_true rfl) ⟨Nat.le_of_ble_eq_true rfl, Nat.le_of_ble_eq_true rfl⟩ ⟨Nat.zero_le _, Nat.zero_le _⟩ (fun H locs hW => ?_)
          refine lv_goto (tgt := 75) hx hb dX7_code_71 (by decide) ?_
          obtain ⟨r17, u18, q16, hf⟩ := bd2_inv hf
          refine ss_callVi (As := [.int x2, .int r15]) hx hb hml hown hK hW kb_X7_codes kM_RX7_113 rfl (by decide) (c_fx (by decide)) (mX7_codes l (a1 := x2) (a2 := r15) q16) rfl dX7_code_75 rfl hl.1 (Nat.le_of_ble_eq_true rfl) ⟨Nat.le_of_ble_eq_true rfl, Nat.le_of_ble_eq_true rfl⟩ ⟨Nat.zero_le _, Nat.zero_le _⟩ (fun H locs hW => ?_)
          refine lv_istore_n (lv' := [(1, .int r17), (3, .int x3_6), (0, .ref (eA E 9)), (2, .int x2)]) hx hb dX7_code_78 rfl hl (by decide) rfl (fun ls hl => ?_)
          obtain ⟨x2_19, ex2_19⟩ : ∃ y : Int32, y = (x2 + 1) := ⟨_, rfl⟩
          have hf := nm_use ex2_19 hf
          refine lv_iinc (v := x2_19) (lv' := [(2, .int x2_19), (1, .int r17), (3, .int x3_6), (0, .ref (eA E 9))]) hx hb dX7_code_79 hl (k := 3) rfl (by rw [ex2_19]; rfl) (by decide) rfl (fun ls hl => ?_)
          refine lv_goto (tgt := 30) hx hb dX7_code_82 (by decide) ?_
          exact ih30 r17 x2_19 u18 _ _ _ hW (lv_sub hl [3, 1, 0] rfl) hf
  refine lv_aload_n hx hb dX7_code_0 rfl (lv_at hl 0 rfl) ?_
  refine lv_iconst (v := 0) hx hb dX7_code_1 (by decide) ?_
  refine p_M_thrown hx hb hown hK hW kF_RX7_44 dX7_code_2 (fun H locs hW => ?_)
  obtain ⟨u20, eu20⟩ : ∃ y : Sg, y = (up2 μ 20 0 0) := ⟨_, rfl⟩
  have hf := nm_use eu20 hf
  rw [← eu20] at hW
  refine lv_aload_n hx hb dX7_code_5 rfl (lv_at hl 0 rfl) ?_
  obtain ⟨u22, q21, hf⟩ := bd_inv hf
  refine ss_callVv (As := []) hx hb hml hown hK hW kb_X7_save kM_RX7_100 rfl (by decide) (c_fx (by decide)) (mX7_save l  q21) rfl dX7_code_6 rfl hl.1 (Nat.le_of_ble_eq_true rfl) ⟨Nat.le_of_ble_eq_true rfl, Nat.le_of_ble_eq_true rfl⟩ ⟨Nat.zero_le _, Nat.zero_le _⟩ (fun H locs hW => ?_)
  refine lv_aload_n hx hb dX7_code_9 rfl (lv_at hl 0 rfl) ?_
  refine g_M_s hx hb hown hK hW kF_RX7_7 dX7_code_10 ?_
  refine lv_iconst (v := 1) hx hb dX7_code_13 (by decide) ?_
  refine lv_iconst (v := 1) hx hb dX7_code_14 (by decide) ?_
  refine s_M0 (k0 := 1) hx hb hK hW (by decide) (show ¬ ((1 : Int32) < 0 ∨ 295 ≤ (1 : Int32).toNatClampNeg) by decide) dX7_code_15 (fun H locs hW => ?_)
  obtain ⟨u23, eu23⟩ : ∃ y : Sg, y = (up2 u22 0 1 1) := ⟨_, rfl⟩
  have hf := nm_use eu23 hf
  rw [← eu23] at hW
  refine lv_aload_n hx hb dX7_code_16 rfl (lv_at hl 0 rfl) ?_
  refine g_M_s hx hb hown hK hW kF_RX7_7 dX7_code_17 ?_
  refine lv_iconst (v := 5) hx hb dX7_code_20 (by decide) ?_
  refine lv_dup2_11 hx hb dX7_code_21 rfl rfl ?_
  refine l_M0 (k0 := 5) hx hb hK hW (by decide) (show ¬ ((5 : Int32) < 0 ∨ 295 ≤ (5 : Int32).toNatClampNeg) by decide) dX7_code_22 ?_
  refine lv_iconst (v := 1) hx hb dX7_code_23 (by decide) ?_
  refine lv_iadd hx hb dX7_code_24 ?_
  refine s_M0 (k0 := 5) hx hb hK hW (by decide) (show ¬ ((5 : Int32) < 0 ∨ 295 ≤ (5 : Int32).toNatClampNeg) by decide) dX7_code_25 (fun H locs hW => ?_)
  obtain ⟨u24, eu24⟩ : ∃ y : Sg, y = (up2 u23 0 5 ((u23 0 5) + 1)) := ⟨_, rfl⟩
  have hf := nm_use eu24 hf
  rw [← eu24] at hW
  refine lv_iconst (v := 0) hx hb dX7_code_26 (by decide) ?_
  refine lv_istore_n (lv' := [(1, .int 0), (0, .ref (eA E 9))]) hx hb dX7_code_27 rfl hl (by decide) rfl (fun ls hl => ?_)
  refine lv_iconst (v := 0) hx hb dX7_code_28 (by decide) ?_
  refine lv_istore_n (lv' := [(2, .int 0), (1, .int 0), (0, .ref (eA E 9))]) hx hb dX7_code_29 rfl hl (by decide) rfl (fun ls hl => ?_)
  exact h30 80 0 0 u24 _ _ _ hW (lv_sub hl [2, 1, 0] rfl) hf
def fX7_lost_L4  (n : Nat) (x1 : Int32) (x2 : Int32) (μ : Sg) : Option Int32 := match n with
  | 0 => none
  | n + 1 => bd (fX7_blocks μ) fun r2 => if r2 ≤ x2 then (some x1) else (gd (¬ ((263 + x2) < 0 ∨ 295 ≤ ((263 + x2)).toNatClampNeg)) <| nm (x1 + (μ 0 ((263 + x2)).toNatClampNeg)) fun x1_5 => nm (x2 + 1) fun x2_6 => (fun x1 x2 μ => fX7_lost_L4 n x1 x2 μ) x1_5 x2_6 μ)
def fX7_lost (μ : Sg) : Option Int32 := fX7_lost_L4 80 0 0 μ
set_option maxHeartbeats 4000000 in
set_option maxRecDepth 100000 in
theorem mX7_lost (l : Launch) {E : En} {σ μ : Sg} {dg : Int64}   {r : Int32} (hf : fX7_lost μ = some r) : Met l yX7_lost [.code yX7_lost cX7_lost 3 (some .int)] (Rm 2 40) (va_Pc [.ref (eA E 9)] (Wd E σ μ dg)) (Qi E σ μ dg r) 0 0 (eP E) := by
  refine ss_of (by decide) (Nat.le_of_ble_eq_true rfl) (fun p e s m below meth c hx hb hr hlk hml hown hK hW ls hl => ?_)
  have hown : s.vm.findClass RX7 = some m.cls := hown
  have hl : lv_has ls 3 [(0, .ref (eA E 9))] := hl
  unfold fX7_lost at hf
  have h4 : ∀ (n4 : Nat) (x1 : Int32) (x2 : Int32) (μ : Sg) (H : Heap) (locs : List Loc) (ls : Array Slot), Wk E σ μ dg s H locs → lv_has ls 3 [(0, .ref (eA E 9)), (1, .int x1), (2, .int x2)] → fX7_lost_L4 n4 x1 x2 μ = some r → W p l e (Rm 2 40) s m [.ref (eA E 9)].toArray below meth c H locs 0 0 (MQ below (Qi E σ μ dg r) [.ref (eA E 9)].toArray s 0 0 (eP E)) (F0 m 4 ls []) := by
    intro n4
    induction n4 with
    | zero =>
      intro x1 x2 μ  H locs ls hW hl hf
      exact absurd hf (by simp [fX7_lost_L4])
    | succ n4 ih4 =>
      intro x1 x2 μ  H locs ls hW hl hf
      rw [fX7_lost_L4] at hf
      refine lv_iload_n hx hb dX7_lost_4 rfl (lv_at hl 2 rfl) ?_
      refine lv_aload_n hx hb dX7_lost_5 rfl (lv_at hl 0 rfl) ?_
      obtain ⟨r2, q1, hf⟩ := bd_inv hf
      refine ss_callVi (As := []) hx hb hml hown hK hW kb_X7_blocks kM_RX7_59 rfl (by decide) (c_fx (by decide)) (mX7_blocks l  q1) rfl dX7_lost_6 rfl hl.1 (Nat.le_of_ble_eq_true rfl) ⟨Nat.le_of_ble_eq_true rfl, Nat.le_of_ble_eq_true rfl⟩ ⟨Nat.zero_le _, Nat.zero_le _⟩ (fun H locs hW => ?_)
      refine lv_icmp_ge (tgt := 31) hx hb dX7_lost_9 (by decide) (fun c3 => ?_) (fun c3 => ?_)
      · have hf := br_p c3 hf
        refine lv_iload_n hx hb dX7_lost_31 rfl (lv_at hl 1 rfl) ?_
        exact ss_iret hx hb hr hlk hW (Option.some.inj hf) dX7_lost_32
      · have hf := br_n c3 hf
        refine lv_iload_n hx hb dX7_lost_12 rfl (lv_at hl 1 rfl) ?_
        refine lv_aload_n hx hb dX7_lost_13 rfl (lv_at hl 0 rfl) ?_
        refine g_M_s hx hb hown hK hW kF_RX7_7 dX7_lost_14 ?_
        refine lv_sipush (v := 263) hx hb dX7_lost_17 (by decide) ?_
        refine lv_iload_n hx hb dX7_lost_20 rfl (lv_at hl 2 rfl) ?_
        refine lv_iadd hx hb dX7_lost_21 ?_
        obtain ⟨hk4, hf⟩ := gd_inv hf
        refine l_M0 hx hb hK hW rfl hk4 dX7_lost_22 ?_
        refine lv_iadd hx hb dX7_lost_23 ?_
        refine lv_topi (fun x1_5 ex1_5 => ?_)
        have hf := nm_use ex1_5 hf
        refine lv_istore_n (lv' := [(1, .int x1_5), (0, .ref (eA E 9)), (2, .int x2)]) hx hb dX7_lost_24 rfl hl (by decide) rfl (fun ls hl => ?_)
        obtain ⟨x2_6, ex2_6⟩ : ∃ y : Int32, y = (x2 + 1) := ⟨_, rfl⟩
        have hf := nm_use ex2_6 hf
        refine lv_iinc (v := x2_6) (lv' := [(2, .int x2_6), (1, .int x1_5), (0, .ref (eA E 9))]) hx hb dX7_lost_25 hl (k := 2) rfl (by rw [ex2_6]; rfl) (by decide) rfl (fun ls hl => ?_)
        refine lv_goto (tgt := 4) hx hb dX7_lost_28 (by decide) ?_
        exact ih4 x1_5 x2_6 μ _ _ _ hW (lv_sub hl [2, 1, 0] rfl) hf
  refine lv_iconst (v := 0) hx hb dX7_lost_0 (by decide) ?_
  refine lv_istore_n (lv' := [(1, .int 0), (0, .ref (eA E 9))]) hx hb dX7_lost_1 rfl hl (by decide) rfl (fun ls hl => ?_)
  refine lv_iconst (v := 0) hx hb dX7_lost_2 (by decide) ?_
  refine lv_istore_n (lv' := [(2, .int 0), (1, .int 0), (0, .ref (eA E 9))]) hx hb dX7_lost_3 rfl hl (by decide) rfl (fun ls hl => ?_)
  exact h4 80 0 0 μ _ _ _ hW (lv_sub hl [2, 1, 0] rfl) hf
def fX7_errorOfAll (μ : Sg) : Option (Int32 × Sg) := bd (fX7_decodes μ) fun u2 => bd (fX7_errorMade 0 (u2 0 0) u2) fun r4 => some (r4, u2)
set_option maxHeartbeats 4000000 in
set_option maxRecDepth 100000 in
theorem mX7_errorOfAll (l : Launch) {E : En} {σ μ : Sg} {dg : Int64}   {r : Int32} {μ' : Sg} (hf : fX7_errorOfAll μ = some (r, μ')) : Met l yX7_errorOfAll [.code yX7_errorOfAll cX7_errorOfAll 1 (some .int)] (Rm 3 70) (va_Pc [.ref (eA E 9)] (Wd E σ μ dg)) (Qi E σ μ' dg r) 0 0 (eP E) := by
  refine ss_of (by decide) (Nat.le_of_ble_eq_true rfl) (fun p e s m below meth c hx hb hr hlk hml hown hK hW ls hl => ?_)
  have hown : s.vm.findClass RX7 = some m.cls := hown
  have hl : lv_has ls 1 [(0, .ref (eA E 9))] := hl
  unfold fX7_errorOfAll at hf
  refine lv_aload_n hx hb dX7_errorOfAll_0 rfl (lv_at hl 0 rfl) ?_
  obtain ⟨u2, q1, hf⟩ := bd_inv hf
  refine ss_callVv (As := []) hx hb hml hown hK hW kb_X7_decodes kM_RX7_94 rfl (by decide) (c_fx (by decide)) (mX7_decodes l  q1) rfl dX7_errorOfAll_1 rfl hl.1 (Nat.le_of_ble_eq_true rfl) ⟨Nat.le_of_ble_eq_true rfl, Nat.le_of_ble_eq_true rfl⟩ ⟨Nat.zero_le _, Nat.zero_le _⟩ (fun H locs hW => ?_)
  refine lv_aload_n hx hb dX7_errorOfAll_4 rfl (lv_at hl 0 rfl) ?_
  refine lv_iconst (v := 0) hx hb dX7_errorOfAll_5 (by decide) ?_
  refine lv_aload_n hx hb dX7_errorOfAll_6 rfl (lv_at hl 0 rfl) ?_
  refine g_M_s hx hb hown hK hW kF_RX7_7 dX7_errorOfAll_7 ?_
  refine lv_iconst (v := 0) hx hb dX7_errorOfAll_10 (by decide) ?_
  refine l_M0 (k0 := 0) hx hb hK hW (by decide) (show ¬ ((0 : Int32) < 0 ∨ 295 ≤ (0 : Int32).toNatClampNeg) by decide) dX7_errorOfAll_11 ?_
  obtain ⟨r4, q3, hf⟩ := bd_inv hf
  refine ss_callVi (As := [.int 0, .int (u2 0 0)]) hx hb hml hown hK hW kb_X7_errorMade kM_RX7_173 rfl (by decide) (c_fx (by decide)) (mX7_errorMade l (a1 := 0) (a2 := (u2 0 0)) q3) rfl dX7_errorOfAll_12 rfl hl.1 (Nat.le_of_ble_eq_true rfl) ⟨Nat.le_of_ble_eq_true rfl, Nat.le_of_ble_eq_true rfl⟩ ⟨Nat.zero_le _, Nat.zero_le _⟩ (fun H locs hW => ?_)
  cases hf
  exact ss_iret hx hb hr hlk hW rfl dX7_errorOfAll_15
def fX7_greatest_b67 (k4 : Int32 → Int32 → Sg → Option Int32) (x1 : Int32) (x2 : Int32) (k0 : Int32) (μ : Sg) : Option Int32 := if k0 ≤ x1 then (nm (x2 + 1) fun x2_2 => k4 x1 x2_2 μ) else (nm (x2 + 1) fun x2_3 => k4 k0 x2_3 μ)
def fX7_greatest_L4  (n : Nat) (x1 : Int32) (x2 : Int32) (μ : Sg) : Option Int32 := match n with
  | 0 => none
  | n + 1 => if (μ 0 0) ≤ x2 then (some x1) else (gd (¬ ((7 + x2) < 0 ∨ 295 ≤ ((7 + x2)).toNatClampNeg)) <| gd (¬ (x2 < 0 ∨ 64 ≤ (x2).toNatClampNeg)) <| if (μ 6 (x2).toNatClampNeg) ≤ (μ 0 ((7 + x2)).toNatClampNeg) then (gd (¬ ((7 + x2) < 0 ∨ 295 ≤ ((7 + x2)).toNatClampNeg)) <| gd (¬ (x2 < 0 ∨ 64 ≤ (x2).toNatClampNeg)) <| fX7_greatest_b67 (fun x1 x2 μ => fX7_greatest_L4 n x1 x2 μ) x1 x2 ((μ 0 ((7 + x2)).toNatClampNeg) - (μ 6 (x2).toNatClampNeg)) μ) else (gd (¬ (x2 < 0 ∨ 64 ≤ (x2).toNatClampNeg)) <| gd (¬ ((7 + x2) < 0 ∨ 295 ≤ ((7 + x2)).toNatClampNeg)) <| fX7_greatest_b67 (fun x1 x2 μ => fX7_greatest_L4 n x1 x2 μ) x1 x2 ((μ 6 (x2).toNatClampNeg) - (μ 0 ((7 + x2)).toNatClampNeg)) μ))
def fX7_greatest (μ : Sg) : Option Int32 := fX7_greatest_L4 80 0 0 μ
set_option maxHeartbeats 4000000 in
set_option maxRecDepth 100000 in
theorem mX7_greatest (l : Launch) {E : En} {σ μ : Sg} {dg : Int64}   {r : Int32} (hf : fX7_greatest μ = some r) : Met l yX7_greatest [.code yX7_greatest cX7_greatest 4 (some .int)] (Rm 0 0) (va_Pc [.ref (eA E 9)] (Wd E σ μ dg)) (Qi E σ μ dg r) 0 0 (eP E) := by
  refine ss_of (by decide) (Nat.le_of_ble_eq_true rfl) (fun p e s m below meth c hx hb hr hlk hml hown hK hW ls hl => ?_)
  have hown : s.vm.findClass RX7 = some m.cls := hown
  have hl : lv_has ls 4 [(0, .ref (eA E 9))] := hl
  unfold fX7_greatest at hf
  have h4 : ∀ (n4 : Nat) (x1 : Int32) (x2 : Int32) (μ : Sg) (H : Heap) (locs : List Loc) (ls : Array Slot), Wk E σ μ dg s H locs → lv_has ls 4 [(0, .ref (eA E 9)), (1, .int x1), (2, .int x2)] → fX7_greatest_L4 n4 x1 x2 μ = some r → W p l e (Rm 0 0) s m [.ref (eA E 9)].toArray below meth c H locs 0 0 (MQ below (Qi E σ μ dg r) [.ref (eA E 9)].toArray s 0 0 (eP E)) (F0 m 4 ls []) := by
    intro n4
    induction n4 with
    | zero =>
      intro x1 x2 μ  H locs ls hW hl hf
      exact absurd hf (by simp [fX7_greatest_L4])
    | succ n4 ih4 =>
      have h67 : ∀ (x1 : Int32) (x2 : Int32) (k0 : Int32) (μ : Sg) (H : Heap) (locs : List Loc) (ls : Array Slot), Wk E σ μ dg s H locs → lv_has ls 4 [(0, .ref (eA E 9)), (1, .int x1), (2, .int x2)] → fX7_greatest_b67 (fun x1 x2 μ => fX7_greatest_L4 n4 x1 x2 μ) x1 x2 k0 μ = some r → W p l e (Rm 0 0) s m [.ref (eA E 9)].toArray below meth c H locs 0 0 (MQ below (Qi E σ μ dg r) [.ref (eA E 9)].toArray s 0 0 (eP E)) (F0 m 67 ls [.int k0]) := by
        intro x1 x2 k0 μ  H locs ls hW hl hf
        unfold fX7_greatest_b67 at hf
        refine lv_istore_n (lv' := [(3, .int k0), (0, .ref (eA E 9)), (1, .int x1), (2, .int x2)]) hx hb dX7_greatest_67 rfl hl (by decide) rfl (fun ls hl => ?_)
        refine lv_iload_n hx hb dX7_greatest_68 rfl (lv_at hl 0 rfl) ?_
        refine lv_iload_n hx hb dX7_greatest_69 rfl (lv_at hl 2 rfl) ?_
        refine lv_icmp_le (tgt := 77) hx hb dX7_greatest_70 (by decide) (fun c1 => ?_) (fun c1 => ?_)
        · have hf := br_p c1 hf
          refine lv_iload_n hx hb dX7_greatest_77 rfl (lv_at hl 2 rfl) ?_
          refine lv_istore_n (lv' := [(1, .int x1), (3, .int k0), (0, .ref (eA E 9)), (2, .int x2)]) hx hb dX7_greatest_78 rfl hl (by decide) rfl (fun ls hl => ?_)
          obtain ⟨x2_2, ex2_2⟩ : ∃ y : Int32, y = (x2 + 1) := ⟨_, rfl⟩
          have hf := nm_use ex2_2 hf
          refine lv_iinc (v := x2_2) (lv' := [(2, .int x2_2), (1, .int x1), (3, .int k0), (0, .ref (eA E 9))]) hx hb dX7_greatest_79 hl (k := 3) rfl (by rw [ex2_2]; rfl) (by decide) rfl (fun ls hl => ?_)
          refine lv_goto (tgt := 4) hx hb dX7_greatest_82 (by decide) ?_
          exact ih4 x1 x2_2 μ _ _ _ hW (lv_sub hl [3, 1, 0] rfl) hf
        · have hf := br_n c1 hf
          refine lv_iload_n hx hb dX7_greatest_73 rfl (lv_at hl 0 rfl) ?_
          refine lv_goto (tgt := 78) hx hb dX7_greatest_74 (by decide) ?_
          refine lv_istore_n (lv' := [(1, .int k0), (3, .int k0), (0, .ref (eA E 9)), (2, .int x2)]) hx hb dX7_greatest_78 rfl hl (by decide) rfl (fun ls hl => ?_)
          obtain ⟨x2_3, ex2_3⟩ : ∃ y : Int32, y = (x2 + 1) := ⟨_, rfl⟩
          have hf := nm_use ex2_3 hf
          refine lv_iinc (v := x2_3) (lv' := [(2, .int x2_3), (1, .int k0), (3, .int k0), (0, .ref (eA E 9))]) hx hb dX7_greatest_79 hl (k := 3) rfl (by rw [ex2_3]; rfl) (by decide) rfl (fun ls hl => ?_)
          refine lv_goto (tgt := 4) hx hb dX7_greatest_82 (by decide) ?_
          exact ih4 k0 x2_3 μ _ _ _ hW (lv_sub hl [3, 1, 0] rfl) hf
      intro x1 x2 μ  H locs ls hW hl hf
      rw [fX7_greatest_L4] at hf
      refine lv_iload_n hx hb dX7_greatest_4 rfl (lv_at hl 2 rfl) ?_
      refine lv_aload_n hx hb dX7_greatest_5 rfl (lv_at hl 0 rfl) ?_
      refine g_M_s hx hb hown hK hW kF_RX7_7 dX7_greatest_6 ?_
      refine lv_iconst (v := 0) hx hb dX7_greatest_9 (by decide) ?_
      refine l_M0 (k0 := 0) hx hb hK hW (by decide) (show ¬ ((0 : Int32) < 0 ∨ 295 ≤ (0 : Int32).toNatClampNeg) by decide) dX7_greatest_10 ?_
      refine lv_icmp_ge (tgt := 85) hx hb dX7_greatest_11 (by decide) (fun c4 => ?_) (fun c4 => ?_)
      · have hf := br_p c4 hf
        refine lv_iload_n hx hb dX7_greatest_85 rfl (lv_at hl 1 rfl) ?_
        exact ss_iret hx hb hr hlk hW (Option.some.inj hf) dX7_greatest_86
      · have hf := br_n c4 hf
        refine lv_aload_n hx hb dX7_greatest_14 rfl (lv_at hl 0 rfl) ?_
        refine g_M_s hx hb hown hK hW kF_RX7_7 dX7_greatest_15 ?_
        refine lv_bipush (v := 7) hx hb dX7_greatest_18 (by decide) ?_
        refine lv_iload_n hx hb dX7_greatest_20 rfl (lv_at hl 2 rfl) ?_
        refine lv_iadd hx hb dX7_greatest_21 ?_
        obtain ⟨hk5, hf⟩ := gd_inv hf
        refine l_M0 hx hb hK hW rfl hk5 dX7_greatest_22 ?_
        refine lv_aload_n hx hb dX7_greatest_23 rfl (lv_at hl 0 rfl) ?_
        refine g_M_made hx hb hown hK hW kF_RX7_29 dX7_greatest_24 ?_
        refine lv_iload_n hx hb dX7_greatest_27 rfl (lv_at hl 2 rfl) ?_
        obtain ⟨hk6, hf⟩ := gd_inv hf
        refine l_M6 hx hb hK hW rfl hk6 dX7_greatest_28 ?_
        refine lv_icmp_ge (tgt := 51) hx hb dX7_greatest_29 (by decide) (fun c7 => ?_) (fun c7 => ?_)
        · have hf := br_p c7 hf
          refine lv_aload_n hx hb dX7_greatest_51 rfl (lv_at hl 0 rfl) ?_
          refine g_M_s hx hb hown hK hW kF_RX7_7 dX7_greatest_52 ?_
          refine lv_bipush (v := 7) hx hb dX7_greatest_55 (by decide) ?_
          refine lv_iload_n hx hb dX7_greatest_57 rfl (lv_at hl 2 rfl) ?_
          refine lv_iadd hx hb dX7_greatest_58 ?_
          obtain ⟨hk8, hf⟩ := gd_inv hf
          refine l_M0 hx hb hK hW rfl hk8 dX7_greatest_59 ?_
          refine lv_aload_n hx hb dX7_greatest_60 rfl (lv_at hl 0 rfl) ?_
          refine g_M_made hx hb hown hK hW kF_RX7_29 dX7_greatest_61 ?_
          refine lv_iload_n hx hb dX7_greatest_64 rfl (lv_at hl 2 rfl) ?_
          obtain ⟨hk9, hf⟩ := gd_inv hf
          refine l_M6 hx hb hK hW rfl hk9 dX7_greatest_65 ?_
          refine lv_isub hx hb dX7_greatest_66 ?_
          exact h67 x1 x2 ((μ 0 ((7 + x2)).toNatClampNeg) - (μ 6 (x2).toNatClampNeg)) μ _ _ _ hW (lv_sub hl [0, 1, 2] rfl) hf
        · have hf := br_n c7 hf
          refine lv_aload_n hx hb dX7_greatest_32 rfl (lv_at hl 0 rfl) ?_
          refine g_M_made hx hb hown hK hW kF_RX7_29 dX7_greatest_33 ?_
          refine lv_iload_n hx hb dX7_greatest_36 rfl (lv_at hl 2 rfl) ?_
          obtain ⟨hk10, hf⟩ := gd_inv hf
          refine l_M6 hx hb hK hW rfl hk10 dX7_greatest_37 ?_
          refine lv_aload_n hx hb dX7_greatest_38 rfl (lv_at hl 0 rfl) ?_
          refine g_M_s hx hb hown hK hW kF_RX7_7 dX7_greatest_39 ?_
          refine lv_bipush (v := 7) hx hb dX7_greatest_42 (by decide) ?_
          refine lv_iload_n hx hb dX7_greatest_44 rfl (lv_at hl 2 rfl) ?_
          refine lv_iadd hx hb dX7_greatest_45 ?_
          obtain ⟨hk11, hf⟩ := gd_inv hf
          refine l_M0 hx hb hK hW rfl hk11 dX7_greatest_46 ?_
          refine lv_isub hx hb dX7_greatest_47 ?_
          refine lv_goto (tgt := 67) hx hb dX7_greatest_48 (by decide) ?_
          exact h67 x1 x2 ((μ 6 (x2).toNatClampNeg) - (μ 0 ((7 + x2)).toNatClampNeg)) μ _ _ _ hW (lv_sub hl [0, 1, 2] rfl) hf
  refine lv_iconst (v := 0) hx hb dX7_greatest_0 (by decide) ?_
  refine lv_istore_n (lv' := [(1, .int 0), (0, .ref (eA E 9))]) hx hb dX7_greatest_1 rfl hl (by decide) rfl (fun ls hl => ?_)
  refine lv_iconst (v := 0) hx hb dX7_greatest_2 (by decide) ?_
  refine lv_istore_n (lv' := [(2, .int 0), (1, .int 0), (0, .ref (eA E 9))]) hx hb dX7_greatest_3 rfl hl (by decide) rfl (fun ls hl => ?_)
  exact h4 80 0 0 μ _ _ _ hW (lv_sub hl [2, 1, 0] rfl) hf
def fX7_counted_b19 (a1 : Int32) (μ : Sg) : Option (Int32 × Sg) := if a1 = 0 then (some ((μ 0 0), μ)) else (if a1 = 1 then (some ((μ 0 1), μ)) else (if a1 = 2 then (bd (fX7_blocks μ) fun r5 => some (r5, μ)) else (if a1 = 3 then (bd (fX7_lost μ) fun r8 => some (r8, μ)) else (if a1 = 4 then (bd2 (fX7_errorOfAll μ) fun r11 u12 => some (r11, u12)) else (if a1 = 5 then (bd2 (fX7_errorOfAll μ) fun r15 u16 => some (r15, u16)) else (if a1 = 6 then (bd (fX7_decodes μ) fun u19 => bd (fX7_greatest u19) fun r21 => some (r21, u19)) else (if a1 = 7 then (bd (fX7_decodes μ) fun u24 => bd (fX7_alike u24) fun r26 => some (r26, u24)) else (if a1 = 8 then (bd (fX7_blocks μ) fun r29 => bd (fX7_blocks μ) fun r31 => some (((18 * r29) + (4 * ((μ 0 0) - r31))), μ)) else (if a1 = 9 then (some ((μ 0 5), μ)) else (if a1 = 10 then (some ((μ 0 6), μ)) else (some ((μ 20 3), μ))))))))))))
def fX7_counted (a1 : Int32) (μ : Sg) : Option (Int32 × Sg) := bd (fX7_in a1 4 8) fun r35 => if r35 = 0 then (fX7_counted_b19 a1 μ) else (bd (fX7_isCoded μ) fun r38 => if r38 = 0 then (some (0, μ)) else (fX7_counted_b19 a1 μ))
set_option maxHeartbeats 4000000 in
set_option maxRecDepth 100000 in
theorem mX7_counted (l : Launch) {E : En} {σ μ : Sg} {dg : Int64} {a1 : Int32}  {r : Int32} {μ' : Sg} (hf : fX7_counted a1 μ = some (r, μ')) : Met l yX7_counted [.code yX7_counted cX7_counted 2 (some .int)] (Rm 4 90) (va_Pc [.ref (eA E 9), .int a1] (Wd E σ μ dg)) (Qi E σ μ' dg r) 0 0 (eP E) := by
  refine ss_of (by decide) (Nat.le_of_ble_eq_true rfl) (fun p e s m below meth c hx hb hr hlk hml hown hK hW ls hl => ?_)
  have hown : s.vm.findClass RX7 = some m.cls := hown
  have hl : lv_has ls 2 [(0, .ref (eA E 9)), (1, .int a1)] := hl
  unfold fX7_counted at hf
  have h19 : ∀ (μ : Sg) (H : Heap) (locs : List Loc) (ls : Array Slot), Wk E σ μ dg s H locs → lv_has ls 2 [(0, .ref (eA E 9)), (1, .int a1)] → fX7_counted_b19 a1 μ = some (r, μ') → W p l e (Rm 4 90) s m [.ref (eA E 9), .int a1].toArray below meth c H locs 0 0 (MQ below (Qi E σ μ' dg r) [.ref (eA E 9), .int a1].toArray s 0 0 (eP E)) (F0 m 19 ls []) := by
    intro μ  H locs ls hW hl hf
    unfold fX7_counted_b19 at hf
    refine lv_iload_n hx hb dX7_counted_19 rfl (lv_at hl 1 rfl) ?_
    by_cases c1 : a1 = 0
    · have hf := br_p c1 hf
      refine lv_tableIn (tgt := 80) hx hb dX7_counted_20 (by rw [c1]; decide) (by rw [c1]; decide) (by rw [c1]; rfl) (by decide) ?_
      refine lv_aload_n hx hb dX7_counted_80 rfl (lv_at hl 0 rfl) ?_
      refine g_M_s hx hb hown hK hW kF_RX7_7 dX7_counted_81 ?_
      refine lv_iconst (v := 0) hx hb dX7_counted_84 (by decide) ?_
      refine l_M0 (k0 := 0) hx hb hK hW (by decide) (show ¬ ((0 : Int32) < 0 ∨ 295 ≤ (0 : Int32).toNatClampNeg) by decide) dX7_counted_85 ?_
      cases hf
      exact ss_iret hx hb hr hlk hW rfl dX7_counted_86
    have hf := br_n c1 hf
    by_cases c2 : a1 = 1
    · have hf := br_p c2 hf
      refine lv_tableIn (tgt := 87) hx hb dX7_counted_20 (by rw [c2]; decide) (by rw [c2]; decide) (by rw [c2]; rfl) (by decide) ?_
      refine lv_aload_n hx hb dX7_counted_87 rfl (lv_at hl 0 rfl) ?_
      refine g_M_s hx hb hown hK hW kF_RX7_7 dX7_counted_88 ?_
      refine lv_iconst (v := 1) hx hb dX7_counted_91 (by decide) ?_
      refine l_M0 (k0 := 1) hx hb hK hW (by decide) (show ¬ ((1 : Int32) < 0 ∨ 295 ≤ (1 : Int32).toNatClampNeg) by decide) dX7_counted_92 ?_
      cases hf
      exact ss_iret hx hb hr hlk hW rfl dX7_counted_93
    have hf := br_n c2 hf
    by_cases c3 : a1 = 2
    · have hf := br_p c3 hf
      refine lv_tableIn (tgt := 94) hx hb dX7_counted_20 (by rw [c3]; decide) (by rw [c3]; decide) (by rw [c3]; rfl) (by decide) ?_
      refine lv_aload_n hx hb dX7_counted_94 rfl (lv_at hl 0 rfl) ?_
      obtain ⟨r5, q4, hf⟩ := bd_inv hf
      refine ss_callVi (As := []) hx hb hml hown hK hW kb_X7_blocks kM_RX7_59 rfl (by decide) (c_fx (by decide)) (mX7_blocks l  q4) rfl dX7_counted_95 rfl hl.1 (Nat.le_of_ble_eq_true rfl) ⟨Nat.le_of_ble_eq_true rfl, Nat.le_of_ble_eq_true rfl⟩ ⟨Nat.zero_le _, Nat.zero_le _⟩ (fun H locs hW => ?_)
      cases hf
      exact ss_iret hx hb hr hlk hW rfl dX7_counted_98
    have hf := br_n c3 hf
    by_cases c6 : a1 = 3
    · have hf := br_p c6 hf
      refine lv_tableIn (tgt := 99) hx hb dX7_counted_20 (by rw [c6]; decide) (by rw [c6]; decide) (by rw [c6]; rfl) (by decide) ?_
      refine lv_aload_n hx hb dX7_counted_99 rfl (lv_at hl 0 rfl) ?_
      obtain ⟨r8, q7, hf⟩ := bd_inv hf
      refine ss_callVi (As := []) hx hb hml hown hK hW kb_X7_lost kM_RX7_119 rfl (by decide) (c_fx (by decide)) (mX7_lost l  q7) rfl dX7_counted_100 rfl hl.1 (Nat.le_of_ble_eq_true rfl) ⟨Nat.le_of_ble_eq_true rfl, Nat.le_of_ble_eq_true rfl⟩ ⟨Nat.zero_le _, Nat.zero_le _⟩ (fun H locs hW => ?_)
      cases hf
      exact ss_iret hx hb hr hlk hW rfl dX7_counted_103
    have hf := br_n c6 hf
    by_cases c9 : a1 = 4
    · have hf := br_p c9 hf
      refine lv_tableIn (tgt := 104) hx hb dX7_counted_20 (by rw [c9]; decide) (by rw [c9]; decide) (by rw [c9]; rfl) (by decide) ?_
      refine lv_aload_n hx hb dX7_counted_104 rfl (lv_at hl 0 rfl) ?_
      obtain ⟨r11, u12, q10, hf⟩ := bd2_inv hf
      refine ss_callVi (As := []) hx hb hml hown hK hW kb_X7_errorOfAll kM_RX7_179 rfl (by decide) (c_fx (by decide)) (mX7_errorOfAll l  q10) rfl dX7_counted_105 rfl hl.1 (Nat.le_of_ble_eq_true rfl) ⟨Nat.le_of_ble_eq_true rfl, Nat.le_of_ble_eq_true rfl⟩ ⟨Nat.zero_le _, Nat.zero_le _⟩ (fun H locs hW => ?_)
      cases hf
      exact ss_iret hx hb hr hlk hW rfl dX7_counted_108
    have hf := br_n c9 hf
    by_cases c13 : a1 = 5
    · have hf := br_p c13 hf
      refine lv_tableIn (tgt := 104) hx hb dX7_counted_20 (by rw [c13]; decide) (by rw [c13]; decide) (by rw [c13]; rfl) (by decide) ?_
      refine lv_aload_n hx hb dX7_counted_104 rfl (lv_at hl 0 rfl) ?_
      obtain ⟨r15, u16, q14, hf⟩ := bd2_inv hf
      refine ss_callVi (As := []) hx hb hml hown hK hW kb_X7_errorOfAll kM_RX7_179 rfl (by decide) (c_fx (by decide)) (mX7_errorOfAll l  q14) rfl dX7_counted_105 rfl hl.1 (Nat.le_of_ble_eq_true rfl) ⟨Nat.le_of_ble_eq_true rfl, Nat.le_of_ble_eq_true rfl⟩ ⟨Nat.zero_le _, Nat.zero_le _⟩ (fun H locs hW => ?_)
      cases hf
      exact ss_iret hx hb hr hlk hW rfl dX7_counted_108
    have hf := br_n c13 hf
    by_cases c17 : a1 = 6
    · have hf := br_p c17 hf
      refine lv_tableIn (tgt := 109) hx hb dX7_counted_20 (by rw [c17]; decide) (by rw [c17]; decide) (by rw [c17]; rfl) (by decide) ?_
      refine lv_aload_n hx hb dX7_counted_109 rfl (lv_at hl 0 rfl) ?_
      obtain ⟨u19, q18, hf⟩ := bd_inv hf
      refine ss_callVv (As := []) hx hb hml hown hK hW kb_X7_decodes kM_RX7_94 rfl (by decide) (c_fx (by decide)) (mX7_decodes l  q18) rfl dX7_counted_110 rfl hl.1 (Nat.le_of_ble_eq_true rfl) ⟨Nat.le_of_ble_eq_true rfl, Nat.le_of_ble_eq_true rfl⟩ ⟨Nat.zero_le _, Nat.zero_le _⟩ (fun H locs hW => ?_)
      refine lv_aload_n hx hb dX7_counted_113 rfl (lv_at hl 0 rfl) ?_
      obtain ⟨r21, q20, hf⟩ := bd_inv hf
      refine ss_callVi (As := []) hx hb hml hown hK hW kb_X7_greatest kM_RX7_182 rfl (by decide) (c_fx (by decide)) (mX7_greatest l  q20) rfl dX7_counted_114 rfl hl.1 (Nat.le_of_ble_eq_true rfl) ⟨Nat.le_of_ble_eq_true rfl, Nat.le_of_ble_eq_true rfl⟩ ⟨Nat.zero_le _, Nat.zero_le _⟩ (fun H locs hW => ?_)
      cases hf
      exact ss_iret hx hb hr hlk hW rfl dX7_counted_117
    have hf := br_n c17 hf
    by_cases c22 : a1 = 7
    · have hf := br_p c22 hf
      refine lv_tableIn (tgt := 118) hx hb dX7_counted_20 (by rw [c22]; decide) (by rw [c22]; decide) (by rw [c22]; rfl) (by decide) ?_
      refine lv_aload_n hx hb dX7_counted_118 rfl (lv_at hl 0 rfl) ?_
      obtain ⟨u24, q23, hf⟩ := bd_inv hf
      refine ss_callVv (As := []) hx hb hml hown hK hW kb_X7_decodes kM_RX7_94 rfl (by decide) (c_fx (by decide)) (mX7_decodes l  q23) rfl dX7_counted_119 rfl hl.1 (Nat.le_of_ble_eq_true rfl) ⟨Nat.le_of_ble_eq_true rfl, Nat.le_of_ble_eq_true rfl⟩ ⟨Nat.zero_le _, Nat.zero_le _⟩ (fun H locs hW => ?_)
      refine lv_aload_n hx hb dX7_counted_122 rfl (lv_at hl 0 rfl) ?_
      obtain ⟨r26, q25, hf⟩ := bd_inv hf
      refine ss_callVi (As := []) hx hb hml hown hK hW kb_X7_alike kM_RX7_185 rfl (by decide) (c_fx (by decide)) (mX7_alike l  q25) rfl dX7_counted_123 rfl hl.1 (Nat.le_of_ble_eq_true rfl) ⟨Nat.le_of_ble_eq_true rfl, Nat.le_of_ble_eq_true rfl⟩ ⟨Nat.zero_le _, Nat.zero_le _⟩ (fun H locs hW => ?_)
      cases hf
      exact ss_iret hx hb hr hlk hW rfl dX7_counted_126
    have hf := br_n c22 hf
    by_cases c27 : a1 = 8
    · have hf := br_p c27 hf
      refine lv_tableIn (tgt := 127) hx hb dX7_counted_20 (by rw [c27]; decide) (by rw [c27]; decide) (by rw [c27]; rfl) (by decide) ?_
      refine lv_bipush (v := 18) hx hb dX7_counted_127 (by decide) ?_
      refine lv_aload_n hx hb dX7_counted_129 rfl (lv_at hl 0 rfl) ?_
      obtain ⟨r29, q28, hf⟩ := bd_inv hf
      refine ss_callVi (As := []) hx hb hml hown hK hW kb_X7_blocks kM_RX7_59 rfl (by decide) (c_fx (by decide)) (mX7_blocks l  q28) rfl dX7_counted_130 rfl hl.1 (Nat.le_of_ble_eq_true rfl) ⟨Nat.le_of_ble_eq_true rfl, Nat.le_of_ble_eq_true rfl⟩ ⟨Nat.zero_le _, Nat.zero_le _⟩ (fun H locs hW => ?_)
      refine lv_imul hx hb dX7_counted_133 ?_
      refine lv_iconst (v := 4) hx hb dX7_counted_134 (by decide) ?_
      refine lv_aload_n hx hb dX7_counted_135 rfl (lv_at hl 0 rfl) ?_
      refine g_M_s hx hb hown hK hW kF_RX7_7 dX7_counted_136 ?_
      refine lv_iconst (v := 0) hx hb dX7_counted_139 (by decide) ?_
      refine l_M0 (k0 := 0) hx hb hK hW (by decide) (show ¬ ((0 : Int32) < 0 ∨ 295 ≤ (0 : Int32).toNatClampNeg) by decide) dX7_counted_140 ?_
      refine lv_aload_n hx hb dX7_counted_141 rfl (lv_at hl 0 rfl) ?_
      obtain ⟨r31, q30, hf⟩ := bd_inv hf
      refine ss_callVi (As := []) hx hb hml hown hK hW kb_X7_blocks kM_RX7_59 rfl (by decide) (c_fx (by decide)) (mX7_blocks l  q30) rfl dX7_counted_142 rfl hl.1 (Nat.le_of_ble_eq_true rfl) ⟨Nat.le_of_ble_eq_true rfl, Nat.le_of_ble_eq_true rfl⟩ ⟨Nat.zero_le _, Nat.zero_le _⟩ (fun H locs hW => ?_)
      refine lv_isub hx hb dX7_counted_145 ?_
      refine lv_imul hx hb dX7_counted_146 ?_
      refine lv_iadd hx hb dX7_counted_147 ?_
      cases hf
      exact ss_iret hx hb hr hlk hW rfl dX7_counted_148
    have hf := br_n c27 hf
    by_cases c32 : a1 = 9
    · have hf := br_p c32 hf
      refine lv_tableIn (tgt := 149) hx hb dX7_counted_20 (by rw [c32]; decide) (by rw [c32]; decide) (by rw [c32]; rfl) (by decide) ?_
      refine lv_aload_n hx hb dX7_counted_149 rfl (lv_at hl 0 rfl) ?_
      refine g_M_s hx hb hown hK hW kF_RX7_7 dX7_counted_150 ?_
      refine lv_iconst (v := 5) hx hb dX7_counted_153 (by decide) ?_
      refine l_M0 (k0 := 5) hx hb hK hW (by decide) (show ¬ ((5 : Int32) < 0 ∨ 295 ≤ (5 : Int32).toNatClampNeg) by decide) dX7_counted_154 ?_
      cases hf
      exact ss_iret hx hb hr hlk hW rfl dX7_counted_155
    have hf := br_n c32 hf
    by_cases c33 : a1 = 10
    · have hf := br_p c33 hf
      refine lv_tableIn (tgt := 156) hx hb dX7_counted_20 (by rw [c33]; decide) (by rw [c33]; decide) (by rw [c33]; rfl) (by decide) ?_
      refine lv_aload_n hx hb dX7_counted_156 rfl (lv_at hl 0 rfl) ?_
      refine g_M_s hx hb hown hK hW kF_RX7_7 dX7_counted_157 ?_
      refine lv_bipush (v := 6) hx hb dX7_counted_160 (by decide) ?_
      refine l_M0 (k0 := 6) hx hb hK hW (by decide) (show ¬ ((6 : Int32) < 0 ∨ 295 ≤ (6 : Int32).toNatClampNeg) by decide) dX7_counted_162 ?_
      cases hf
      exact ss_iret hx hb hr hlk hW rfl dX7_counted_163
    have hf := br_n c33 hf
    have zc1 := sw_ne (n := 0) c1 (by decide)
    have zc2 := sw_ne (n := 1) c2 (by decide)
    have zc3 := sw_ne (n := 2) c3 (by decide)
    have zc6 := sw_ne (n := 3) c6 (by decide)
    have zc9 := sw_ne (n := 4) c9 (by decide)
    have zc13 := sw_ne (n := 5) c13 (by decide)
    have zc17 := sw_ne (n := 6) c17 (by decide)
    have zc22 := sw_ne (n := 7) c22 (by decide)
    have zc27 := sw_ne (n := 8) c27 (by decide)
    have zc32 := sw_ne (n := 9) c32 (by decide)
    have zc33 := sw_ne (n := 10) c33 (by decide)
    refine lv_tableOut (tgt := 164) hx hb dX7_counted_20 (by omega) (by decide) ?_
    refine lv_aload_n hx hb dX7_counted_164 rfl (lv_at hl 0 rfl) ?_
    refine g_M_savedMany hx hb hown hK hW kF_RX7_48 dX7_counted_165 ?_
    cases hf
    exact ss_iret hx hb hr hlk hW rfl dX7_counted_168
  refine lv_iload_n hx hb dX7_counted_0 rfl (lv_at hl 1 rfl) ?_
  refine lv_iconst (v := 4) hx hb dX7_counted_1 (by decide) ?_
  refine lv_bipush (v := 8) hx hb dX7_counted_2 (by decide) ?_
  obtain ⟨r35, q34, hf⟩ := bd_inv hf
  refine ss_callSi (As := [.int a1, .int 4, .int 8]) hx hb hml hown hK hW kb_X7_in kM_RX7_51 (mX7_in l (a0 := a1) (a1 := 4) (a2 := 8) q34) rfl dX7_counted_4 rfl hl.1 (Nat.le_of_ble_eq_true rfl) ⟨Nat.le_of_ble_eq_true rfl, Nat.le_of_ble_eq_true rfl⟩ ⟨Nat.zero_le _, Nat.zero_le _⟩ (fun H locs hW => ?_)
  refine lv_if_eq (tgt := 19) hx hb dX7_counted_7 (by decide) (fun c36 => ?_) (fun c36 => ?_)
  · have hf := br_p c36 hf
    exact h19 μ _ _ _ hW (lv_sub hl [0, 1] rfl) hf
  · have hf := br_n c36 hf
    refine lv_aload_n hx hb dX7_counted_10 rfl (lv_at hl 0 rfl) ?_
    obtain ⟨r38, q37, hf⟩ := bd_inv hf
    refine ss_callVi (As := []) hx hb hml hown hK hW kb_X7_isCoded kM_RX7_55 rfl (by decide) (c_fx (by decide)) (mX7_isCoded l  q37) rfl dX7_counted_11 rfl hl.1 (Nat.le_of_ble_eq_true rfl) ⟨Nat.le_of_ble_eq_true rfl, Nat.le_of_ble_eq_true rfl⟩ ⟨Nat.zero_le _, Nat.zero_le _⟩ (fun H locs hW => ?_)
    refine lv_if_ne (tgt := 19) hx hb dX7_counted_14 (by decide) (fun c39 => ?_) (fun c39 => ?_)
    · have hf := br_n c39 hf
      exact h19 μ _ _ _ hW (lv_sub hl [0, 1] rfl) hf
    · have hf := br_p c39 hf
      refine lv_iconst (v := 0) hx hb dX7_counted_17 (by decide) ?_
      cases hf
      exact ss_iret hx hb hr hlk hW rfl dX7_counted_18
def fX7_count_b16 (a1 : Int32) (k0 : Int32) (μ : Sg) : Option (Int32 × Sg) := bd2 (fX7_holds k0 μ) fun r2 u3 => if r2 = 0 then (some (0, u3)) else (bd2 (fX7_counted a1 u3) fun r6 u7 => some (r6, u7))
def fX7_count (a1 : Int32) (μ : Sg) : Option (Int32 × Sg) := bd (fX7_in a1 0 11) fun r9 => if r9 = 0 then (fX7_count_b16 a1 1 μ) else (fX7_count_b16 a1 0 μ)
set_option maxHeartbeats 4000000 in
set_option maxRecDepth 100000 in
theorem mX7_count (l : Launch) {E : En} {σ μ : Sg} {dg : Int64} {a1 : Int32}  {r : Int32} {μ' : Sg} (hf : fX7_count a1 μ = some (r, μ')) : Met l yX7_count [.code yX7_count cX7_count 2 (some .int)] (Rm 5 111) (va_Pc [.ref (eA E 9), .int a1] (Wd E σ μ dg)) (Qi E σ μ' dg r) 0 0 (eP E) := by
  refine ss_of (by decide) (Nat.le_of_ble_eq_true rfl) (fun p e s m below meth c hx hb hr hlk hml hown hK hW ls hl => ?_)
  have hown : s.vm.findClass RX7 = some m.cls := hown
  have hl : lv_has ls 2 [(0, .ref (eA E 9)), (1, .int a1)] := hl
  unfold fX7_count at hf
  have h16 : ∀ (k0 : Int32) (μ : Sg) (H : Heap) (locs : List Loc) (ls : Array Slot), Wk E σ μ dg s H locs → lv_has ls 2 [(0, .ref (eA E 9)), (1, .int a1)] → fX7_count_b16 a1 k0 μ = some (r, μ') → W p l e (Rm 5 111) s m [.ref (eA E 9), .int a1].toArray below meth c H locs 0 0 (MQ below (Qi E σ μ' dg r) [.ref (eA E 9), .int a1].toArray s 0 0 (eP E)) (F0 m 16 ls [.int k0, .ref (eA E 9)]) := by
    intro k0 μ  H locs ls hW hl hf
    unfold fX7_count_b16 at hf
    obtain ⟨r2, u3, q1, hf⟩ := bd2_inv hf
    refine ss_callVi (As := [.int k0]) hx hb hml hown hK hW kb_X7_holds kM_RX7_97 rfl (by decide) (c_fx (by decide)) (mX7_holds l (a1 := k0) q1) rfl dX7_count_16 rfl hl.1 (Nat.le_of_ble_eq_true rfl) ⟨Nat.le_of_ble_eq_true rfl, Nat.le_of_ble_eq_true rfl⟩ ⟨Nat.zero_le _, Nat.zero_le _⟩ (fun H locs hW => ?_)
    refine lv_if_eq (tgt := 30) hx hb dX7_count_19 (by decide) (fun c4 => ?_) (fun c4 => ?_)
    · have hf := br_p c4 hf
      refine lv_iconst (v := 0) hx hb dX7_count_30 (by decide) ?_
      cases hf
      exact ss_iret hx hb hr hlk hW rfl dX7_count_31
    · have hf := br_n c4 hf
      refine lv_aload_n hx hb dX7_count_22 rfl (lv_at hl 0 rfl) ?_
      refine lv_iload_n hx hb dX7_count_23 rfl (lv_at hl 1 rfl) ?_
      obtain ⟨r6, u7, q5, hf⟩ := bd2_inv hf
      refine ss_callVi (As := [.int a1]) hx hb hml hown hK hW kb_X7_counted kM_RX7_188 rfl (by decide) (c_fx (by decide)) (mX7_counted l (a1 := a1) q5) rfl dX7_count_24 rfl hl.1 (Nat.le_of_ble_eq_true rfl) ⟨Nat.le_of_ble_eq_true rfl, Nat.le_of_ble_eq_true rfl⟩ ⟨Nat.zero_le _, Nat.zero_le _⟩ (fun H locs hW => ?_)
      refine lv_goto (tgt := 31) hx hb dX7_count_27 (by decide) ?_
      cases hf
      exact ss_iret hx hb hr hlk hW rfl dX7_count_31
  refine lv_aload_n hx hb dX7_count_0 rfl (lv_at hl 0 rfl) ?_
  refine lv_iload_n hx hb dX7_count_1 rfl (lv_at hl 1 rfl) ?_
  refine lv_iconst (v := 0) hx hb dX7_count_2 (by decide) ?_
  refine lv_bipush (v := 11) hx hb dX7_count_3 (by decide) ?_
  obtain ⟨r9, q8, hf⟩ := bd_inv hf
  refine ss_callSi (As := [.int a1, .int 0, .int 11]) hx hb hml hown hK hW kb_X7_in kM_RX7_51 (mX7_in l (a0 := a1) (a1 := 0) (a2 := 11) q8) rfl dX7_count_5 rfl hl.1 (Nat.le_of_ble_eq_true rfl) ⟨Nat.le_of_ble_eq_true rfl, Nat.le_of_ble_eq_true rfl⟩ ⟨Nat.zero_le _, Nat.zero_le _⟩ (fun H locs hW => ?_)
  refine lv_if_eq (tgt := 15) hx hb dX7_count_8 (by decide) (fun c10 => ?_) (fun c10 => ?_)
  · have hf := br_p c10 hf
    refine lv_iconst (v := 1) hx hb dX7_count_15 (by decide) ?_
    exact h16 1 μ _ _ _ hW (lv_sub hl [0, 1] rfl) hf
  · have hf := br_n c10 hf
    refine lv_iconst (v := 0) hx hb dX7_count_11 (by decide) ?_
    refine lv_goto (tgt := 16) hx hb dX7_count_12 (by decide) ?_
    exact h16 0 μ _ _ _ hW (lv_sub hl [0, 1] rfl) hf
def fX7_decodesBefore_L6  (n : Nat) (x1 : Int32) (μ : Sg) : Option Sg := match n with
  | 0 => none
  | n + 1 => if (μ 0 0) ≤ x1 then (some μ) else (gd (¬ (x1 < 0 ∨ 64 ≤ (x1).toNatClampNeg)) <| gd (¬ (x1 < 0 ∨ 64 ≤ (x1).toNatClampNeg)) <| nm (up2 μ 9 ((x1).toNatClampNeg) (μ 6 (x1).toNatClampNeg)) fun u4 => nm (x1 + 1) fun x1_5 => (fun x1 μ => fX7_decodesBefore_L6 n x1 μ) x1_5 u4)
def fX7_decodesBefore (μ : Sg) : Option Sg := bd (fX7_decodes μ) fun u7 => fX7_decodesBefore_L6 80 0 u7
set_option maxHeartbeats 4000000 in
set_option maxRecDepth 100000 in
theorem mX7_decodesBefore (l : Launch) {E : En} {σ μ : Sg} {dg : Int64}   {μ' : Sg} (hf : fX7_decodesBefore μ = some μ') : Met l yX7_decodesBefore [.code yX7_decodesBefore cX7_decodesBefore 2 none] (Rm 3 70) (va_Pc [.ref (eA E 9)] (Wd E σ μ dg)) (Qv E σ μ' dg) 0 0 (eP E) := by
  refine ss_of (by decide) (Nat.le_of_ble_eq_true rfl) (fun p e s m below meth c hx hb hr hlk hml hown hK hW ls hl => ?_)
  have hown : s.vm.findClass RX7 = some m.cls := hown
  have hl : lv_has ls 2 [(0, .ref (eA E 9))] := hl
  unfold fX7_decodesBefore at hf
  have h6 : ∀ (n6 : Nat) (x1 : Int32) (μ : Sg) (H : Heap) (locs : List Loc) (ls : Array Slot), Wk E σ μ dg s H locs → lv_has ls 2 [(0, .ref (eA E 9)), (1, .int x1)] → fX7_decodesBefore_L6 n6 x1 μ = some μ' → W p l e (Rm 3 70) s m [.ref (eA E 9)].toArray below meth c H locs 0 0 (MQ below (Qv E σ μ' dg) [.ref (eA E 9)].toArray s 0 0 (eP E)) (F0 m 6 ls []) := by
    intro n6
    induction n6 with
    | zero =>
      intro x1 μ  H locs ls hW hl hf
      exact absurd hf (by simp [fX7_decodesBefore_L6])
    | succ n6 ih6 =>
      intro x1 μ  H locs ls hW hl hf
      rw [fX7_decodesBefore_L6] at hf
      refine lv_iload_n hx hb dX7_decodesBefore_6 rfl (lv_at hl 1 rfl) ?_
      refine lv_aload_n hx hb dX7_decodesBefore_7 rfl (lv_at hl 0 rfl) ?_
      refine g_M_s hx hb hown hK hW kF_RX7_7 dX7_decodesBefore_8 ?_
      refine lv_iconst (v := 0) hx hb dX7_decodesBefore_11 (by decide) ?_
      refine l_M0 (k0 := 0) hx hb hK hW (by decide) (show ¬ ((0 : Int32) < 0 ∨ 295 ≤ (0 : Int32).toNatClampNeg) by decide) dX7_decodesBefore_12 ?_
      refine lv_icmp_ge (tgt := 34) hx hb dX7_decodesBefore_13 (by decide) (fun c1 => ?_) (fun c1 => ?_)
      · have hf := br_p c1 hf
        cases hf
        exact ss_vret hx hb hr hlk hW dX7_decodesBefore_34
      · have hf := br_n c1 hf
        refine lv_aload_n hx hb dX7_decodesBefore_16 rfl (lv_at hl 0 rfl) ?_
        refine g_M_before hx hb hown hK hW kF_RX7_38 dX7_decodesBefore_17 ?_
        refine lv_iload_n hx hb dX7_decodesBefore_20 rfl (lv_at hl 1 rfl) ?_
        refine lv_aload_n hx hb dX7_decodesBefore_21 rfl (lv_at hl 0 rfl) ?_
        refine g_M_made hx hb hown hK hW kF_RX7_29 dX7_decodesBefore_22 ?_
        refine lv_iload_n hx hb dX7_decodesBefore_25 rfl (lv_at hl 1 rfl) ?_
        obtain ⟨hk2, hf⟩ := gd_inv hf
        refine l_M6 hx hb hK hW rfl hk2 dX7_decodesBefore_26 ?_
        obtain ⟨hk3, hf⟩ := gd_inv hf
        refine s_M9 hx hb hK hW rfl hk3 dX7_decodesBefore_27 (fun H locs hW => ?_)
        obtain ⟨u4, eu4⟩ : ∃ y : Sg, y = (up2 μ 9 ((x1).toNatClampNeg) (μ 6 (x1).toNatClampNeg)) := ⟨_, rfl⟩
        have hf := nm_use eu4 hf
        rw [← eu4] at hW
        obtain ⟨x1_5, ex1_5⟩ : ∃ y : Int32, y = (x1 + 1) := ⟨_, rfl⟩
        have hf := nm_use ex1_5 hf
        refine lv_iinc (v := x1_5) (lv' := [(1, .int x1_5), (0, .ref (eA E 9))]) hx hb dX7_decodesBefore_28 hl (k := 1) rfl (by rw [ex1_5]; rfl) (by decide) rfl (fun ls hl => ?_)
        refine lv_goto (tgt := 6) hx hb dX7_decodesBefore_31 (by decide) ?_
        exact ih6 x1_5 u4 _ _ _ hW (lv_sub hl [1, 0] rfl) hf
  refine lv_aload_n hx hb dX7_decodesBefore_0 rfl (lv_at hl 0 rfl) ?_
  obtain ⟨u7, q6, hf⟩ := bd_inv hf
  refine ss_callVv (As := []) hx hb hml hown hK hW kb_X7_decodes kM_RX7_94 rfl (by decide) (c_fx (by decide)) (mX7_decodes l  q6) rfl dX7_decodesBefore_1 rfl hl.1 (Nat.le_of_ble_eq_true rfl) ⟨Nat.le_of_ble_eq_true rfl, Nat.le_of_ble_eq_true rfl⟩ ⟨Nat.zero_le _, Nat.zero_le _⟩ (fun H locs hW => ?_)
  refine lv_iconst (v := 0) hx hb dX7_decodesBefore_4 (by decide) ?_
  refine lv_istore_n (lv' := [(1, .int 0), (0, .ref (eA E 9))]) hx hb dX7_decodesBefore_5 rfl hl (by decide) rfl (fun ls hl => ?_)
  exact h6 80 0 u7 _ _ _ hW (lv_sub hl [1, 0] rfl) hf
def fX7_digestOne (a1 : Int64) (dg : Int64) : Option Int64 := nm ((31 * dg) + a1) fun g1 => some g1
set_option maxHeartbeats 4000000 in
set_option maxRecDepth 100000 in
theorem mX7_digestOne (l : Launch) {E : En} {σ μ : Sg} {dg : Int64} {a1 : Int64}  {dg' : Int64} (hf : fX7_digestOne a1 dg = some dg') : Met l yX7_digestOne [.code yX7_digestOne cX7_digestOne 3 none] (Rm 0 0) (va_Pc [.ref (eA E 9), .long a1] (Wd E σ μ dg)) (Qv E σ μ dg') 0 0 (eP E) := by
  refine ss_of (by decide) (Nat.le_of_ble_eq_true rfl) (fun p e s m below meth c hx hb hr hlk hml hown hK hW ls hl => ?_)
  have hown : s.vm.findClass RX7 = some m.cls := hown
  have hl : lv_has ls 3 [(0, .ref (eA E 9)), (1, .long a1)] := hl
  unfold fX7_digestOne at hf
  refine lv_aload_n hx hb dX7_digestOne_0 rfl (lv_at hl 0 rfl) ?_
  refine lv_ldc2 (own := RX7) hx hb hown (hK.2.1.at kC_RX7_220 _) dX7_digestOne_1 ?_
  refine lv_aload_n hx hb dX7_digestOne_4 rfl (lv_at hl 0 rfl) ?_
  refine g_M_digested hx hb hown hK hW kF_RX7_222 dX7_digestOne_5 ?_
  refine lv_lmul hx hb dX7_digestOne_8 ?_
  refine lv_lload_n hx hb dX7_digestOne_9 rfl (lv_at hl 1 rfl) ?_
  refine lv_ladd hx hb dX7_digestOne_10 ?_
  refine p_M_digested hx hb hown hK hW kF_RX7_222 dX7_digestOne_11 (fun H locs hW => ?_)
  obtain ⟨g1, eg1⟩ : ∃ y : Int64, y = ((31 * dg) + a1) := ⟨_, rfl⟩
  have hf := nm_use eg1 hf
  rw [← eg1] at hW
  cases hf
  exact ss_vret hx hb hr hlk hW dX7_digestOne_14
def fX7_hasCode (a1 : Int32) (μ : Sg) : Option Int32 := bd (fX7_isCoded μ) fun r2 => if r2 = 0 then (some 0) else (bd (fX7_isSample a1 μ) fun r5 => if r5 = 0 then (some 0) else (gd (¬ (μ 0 2) = 0) <| if (a1 - a1 / (μ 0 2) * (μ 0 2)) ≤ 0 then (some 0) else (some 1)))
set_option maxHeartbeats 4000000 in
set_option maxRecDepth 100000 in
theorem mX7_hasCode (l : Launch) {E : En} {σ μ : Sg} {dg : Int64} {a1 : Int32}  {r : Int32} (hf : fX7_hasCode a1 μ = some r) : Met l yX7_hasCode [.code yX7_hasCode cX7_hasCode 2 (some .boolean)] (Rm 2 43) (va_Pc [.ref (eA E 9), .int a1] (Wd E σ μ dg)) (Qi E σ μ dg r) 0 0 (eP E) := by
  refine ss_of (by decide) (Nat.le_of_ble_eq_true rfl) (fun p e s m below meth c hx hb hr hlk hml hown hK hW ls hl => ?_)
  have hown : s.vm.findClass RX7 = some m.cls := hown
  have hl : lv_has ls 2 [(0, .ref (eA E 9)), (1, .int a1)] := hl
  unfold fX7_hasCode at hf
  refine lv_aload_n hx hb dX7_hasCode_0 rfl (lv_at hl 0 rfl) ?_
  obtain ⟨r2, q1, hf⟩ := bd_inv hf
  refine ss_callVi (As := []) hx hb hml hown hK hW kb_X7_isCoded kM_RX7_55 rfl (by decide) (c_fx (by decide)) (mX7_isCoded l  q1) rfl dX7_hasCode_1 rfl hl.1 (Nat.le_of_ble_eq_true rfl) ⟨Nat.le_of_ble_eq_true rfl, Nat.le_of_ble_eq_true rfl⟩ ⟨Nat.zero_le _, Nat.zero_le _⟩ (fun H locs hW => ?_)
  refine lv_if_eq (tgt := 30) hx hb dX7_hasCode_4 (by decide) (fun c3 => ?_) (fun c3 => ?_)
  · have hf := br_p c3 hf
    refine lv_iconst (v := 0) hx hb dX7_hasCode_30 (by decide) ?_
    exact ss_zret hx hb hr hlk hW (Option.some.inj hf) rfl dX7_hasCode_31
  · have hf := br_n c3 hf
    refine lv_aload_n hx hb dX7_hasCode_7 rfl (lv_at hl 0 rfl) ?_
    refine lv_iload_n hx hb dX7_hasCode_8 rfl (lv_at hl 1 rfl) ?_
    obtain ⟨r5, q4, hf⟩ := bd_inv hf
    refine ss_callVi (As := [.int a1]) hx hb hml hown hK hW kb_X7_isSample kM_RX7_63 rfl (by decide) (c_fx (by decide)) (mX7_isSample l (a1 := a1) q4) rfl dX7_hasCode_9 rfl hl.1 (Nat.le_of_ble_eq_true rfl) ⟨Nat.le_of_ble_eq_true rfl, Nat.le_of_ble_eq_true rfl⟩ ⟨Nat.zero_le _, Nat.zero_le _⟩ (fun H locs hW => ?_)
    refine lv_if_eq (tgt := 30) hx hb dX7_hasCode_12 (by decide) (fun c6 => ?_) (fun c6 => ?_)
    · have hf := br_p c6 hf
      refine lv_iconst (v := 0) hx hb dX7_hasCode_30 (by decide) ?_
      exact ss_zret hx hb hr hlk hW (Option.some.inj hf) rfl dX7_hasCode_31
    · have hf := br_n c6 hf
      refine lv_iload_n hx hb dX7_hasCode_15 rfl (lv_at hl 1 rfl) ?_
      refine lv_aload_n hx hb dX7_hasCode_16 rfl (lv_at hl 0 rfl) ?_
      refine g_M_s hx hb hown hK hW kF_RX7_7 dX7_hasCode_17 ?_
      refine lv_iconst (v := 2) hx hb dX7_hasCode_20 (by decide) ?_
      refine l_M0 (k0 := 2) hx hb hK hW (by decide) (show ¬ ((2 : Int32) < 0 ∨ 295 ≤ (2 : Int32).toNatClampNeg) by decide) dX7_hasCode_21 ?_
      obtain ⟨hz7, hf⟩ := gd_inv hf
      refine lv_irem hx hb dX7_hasCode_22 hz7 ?_
      refine lv_if_le (tgt := 30) hx hb dX7_hasCode_23 (by decide) (fun c8 => ?_) (fun c8 => ?_)
      · have hf := br_p c8 hf
        refine lv_iconst (v := 0) hx hb dX7_hasCode_30 (by decide) ?_
        exact ss_zret hx hb hr hlk hW (Option.some.inj hf) rfl dX7_hasCode_31
      · have hf := br_n c8 hf
        refine lv_iconst (v := 1) hx hb dX7_hasCode_26 (by decide) ?_
        refine lv_goto (tgt := 31) hx hb dX7_hasCode_27 (by decide) ?_
        exact ss_zret hx hb hr hlk hW (Option.some.inj hf) rfl dX7_hasCode_31
def fX7_toldOfSample (a1 : Int32) (a2 : Int32) (μ : Sg) : Option (Int32 × Sg) := if a2 = 0 then (gd (¬ ((7 + a1) < 0 ∨ 295 ≤ ((7 + a1)).toNatClampNeg)) <| some (((μ 0 ((7 + a1)).toNatClampNeg) + 10000), μ)) else (bd (fX7_isCoded μ) fun r3 => if r3 = 0 then (some ((-1), μ)) else (bd (fX7_decodes μ) fun u6 => if a2 = 1 then (gd (¬ (a1 < 0 ∨ 64 ≤ (a1).toNatClampNeg)) <| some (((u6 6 (a1).toNatClampNeg) + 10000), u6)) else (if a2 = 2 then (gd (¬ ((135 + a1) < 0 ∨ 295 ≤ ((135 + a1)).toNatClampNeg)) <| some (((u6 0 ((135 + a1)).toNatClampNeg) + 10000), u6)) else (if a2 = 3 then (bd (fX7_hasCode a1 u6) fun r13 => if r13 = 0 then (some ((-1), u6)) else (gd (¬ ((71 + a1) < 0 ∨ 295 ≤ ((71 + a1)).toNatClampNeg)) <| some ((u6 0 ((71 + a1)).toNatClampNeg), u6))) else (if a2 = 4 then (gd (¬ (u6 0 2) = 0) <| gd (¬ ((263 + (a1 / (u6 0 2))) < 0 ∨ 295 ≤ ((263 + (a1 / (u6 0 2)))).toNatClampNeg)) <| if (u6 0 ((263 + (a1 / (u6 0 2)))).toNatClampNeg) = 1 then (some ((-1), u6)) else (gd (¬ (a1 < 0 ∨ 64 ≤ (a1).toNatClampNeg)) <| some ((u6 7 (a1).toNatClampNeg), u6))) else (gd (¬ ((7 + a1) < 0 ∨ 295 ≤ ((7 + a1)).toNatClampNeg)) <| gd (¬ (a1 < 0 ∨ 64 ≤ (a1).toNatClampNeg)) <| some ((((u6 0 ((7 + a1)).toNatClampNeg) - (u6 6 (a1).toNatClampNeg)) + 10000), u6)))))))
set_option maxHeartbeats 4000000 in
set_option maxRecDepth 100000 in
theorem mX7_toldOfSample (l : Launch) {E : En} {σ μ : Sg} {dg : Int64} {a1 : Int32} {a2 : Int32}  {r : Int32} {μ' : Sg} (hf : fX7_toldOfSample a1 a2 μ = some (r, μ')) : Met l yX7_toldOfSample [.code yX7_toldOfSample cX7_toldOfSample 3 (some .int)] (Rm 3 70) (va_Pc [.ref (eA E 9), .int a1, .int a2] (Wd E σ μ dg)) (Qi E σ μ' dg r) 0 0 (eP E) := by
  refine ss_of (by decide) (Nat.le_of_ble_eq_true rfl) (fun p e s m below meth c hx hb hr hlk hml hown hK hW ls hl => ?_)
  have hown : s.vm.findClass RX7 = some m.cls := hown
  have hl : lv_has ls 3 [(0, .ref (eA E 9)), (1, .int a1), (2, .int a2)] := hl
  unfold fX7_toldOfSample at hf
  refine lv_iload_n hx hb dX7_toldOfSample_0 rfl (lv_at hl 2 rfl) ?_
  refine lv_if_ne (tgt := 18) hx hb dX7_toldOfSample_1 (by decide) (fun c1 => ?_) (fun c1 => ?_)
  · have hf := br_n c1 hf
    refine lv_aload_n hx hb dX7_toldOfSample_18 rfl (lv_at hl 0 rfl) ?_
    obtain ⟨r3, q2, hf⟩ := bd_inv hf
    refine ss_callVi (As := []) hx hb hml hown hK hW kb_X7_isCoded kM_RX7_55 rfl (by decide) (c_fx (by decide)) (mX7_isCoded l  q2) rfl dX7_toldOfSample_19 rfl hl.1 (Nat.le_of_ble_eq_true rfl) ⟨Nat.le_of_ble_eq_true rfl, Nat.le_of_ble_eq_true rfl⟩ ⟨Nat.zero_le _, Nat.zero_le _⟩ (fun H locs hW => ?_)
    refine lv_if_ne (tgt := 27) hx hb dX7_toldOfSample_22 (by decide) (fun c4 => ?_) (fun c4 => ?_)
    · have hf := br_n c4 hf
      refine lv_aload_n hx hb dX7_toldOfSample_27 rfl (lv_at hl 0 rfl) ?_
      obtain ⟨u6, q5, hf⟩ := bd_inv hf
      refine ss_callVv (As := []) hx hb hml hown hK hW kb_X7_decodes kM_RX7_94 rfl (by decide) (c_fx (by decide)) (mX7_decodes l  q5) rfl dX7_toldOfSample_28 rfl hl.1 (Nat.le_of_ble_eq_true rfl) ⟨Nat.le_of_ble_eq_true rfl, Nat.le_of_ble_eq_true rfl⟩ ⟨Nat.zero_le _, Nat.zero_le _⟩ (fun H locs hW => ?_)
      refine lv_iload_n hx hb dX7_toldOfSample_31 rfl (lv_at hl 2 rfl) ?_
      by_cases c7 : a2 = 1
      · have hf := br_p c7 hf
        refine lv_tableIn (tgt := 64) hx hb dX7_toldOfSample_32 (by rw [c7]; decide) (by rw [c7]; decide) (by rw [c7]; rfl) (by decide) ?_
        refine lv_aload_n hx hb dX7_toldOfSample_64 rfl (lv_at hl 0 rfl) ?_
        refine g_M_made hx hb hown hK hW kF_RX7_29 dX7_toldOfSample_65 ?_
        refine lv_iload_n hx hb dX7_toldOfSample_68 rfl (lv_at hl 1 rfl) ?_
        obtain ⟨hk8, hf⟩ := gd_inv hf
        refine l_M6 hx hb hK hW rfl hk8 dX7_toldOfSample_69 ?_
        refine lv_sipush (v := 10000) hx hb dX7_toldOfSample_70 (by decide) ?_
        refine lv_iadd hx hb dX7_toldOfSample_73 ?_
        cases hf
        exact ss_iret hx hb hr hlk hW rfl dX7_toldOfSample_74
      have hf := br_n c7 hf
      by_cases c9 : a2 = 2
      · have hf := br_p c9 hf
        refine lv_tableIn (tgt := 75) hx hb dX7_toldOfSample_32 (by rw [c9]; decide) (by rw [c9]; decide) (by rw [c9]; rfl) (by decide) ?_
        refine lv_aload_n hx hb dX7_toldOfSample_75 rfl (lv_at hl 0 rfl) ?_
        refine g_M_s hx hb hown hK hW kF_RX7_7 dX7_toldOfSample_76 ?_
        refine lv_sipush (v := 135) hx hb dX7_toldOfSample_79 (by decide) ?_
        refine lv_iload_n hx hb dX7_toldOfSample_82 rfl (lv_at hl 1 rfl) ?_
        refine lv_iadd hx hb dX7_toldOfSample_83 ?_
        obtain ⟨hk10, hf⟩ := gd_inv hf
        refine l_M0 hx hb hK hW rfl hk10 dX7_toldOfSample_84 ?_
        refine lv_sipush (v := 10000) hx hb dX7_toldOfSample_85 (by decide) ?_
        refine lv_iadd hx hb dX7_toldOfSample_88 ?_
        cases hf
        exact ss_iret hx hb hr hlk hW rfl dX7_toldOfSample_89
      have hf := br_n c9 hf
      by_cases c11 : a2 = 3
      · have hf := br_p c11 hf
        refine lv_tableIn (tgt := 90) hx hb dX7_toldOfSample_32 (by rw [c11]; decide) (by rw [c11]; decide) (by rw [c11]; rfl) (by decide) ?_
        refine lv_aload_n hx hb dX7_toldOfSample_90 rfl (lv_at hl 0 rfl) ?_
        refine lv_iload_n hx hb dX7_toldOfSample_91 rfl (lv_at hl 1 rfl) ?_
        obtain ⟨r13, q12, hf⟩ := bd_inv hf
        refine ss_callVi (As := [.int a1]) hx hb hml hown hK hW kb_X7_hasCode kM_RX7_122 rfl (by decide) (c_fx (by decide)) (mX7_hasCode l (a1 := a1) q12) rfl dX7_toldOfSample_92 rfl hl.1 (Nat.le_of_ble_eq_true rfl) ⟨Nat.le_of_ble_eq_true rfl, Nat.le_of_ble_eq_true rfl⟩ ⟨Nat.zero_le _, Nat.zero_le _⟩ (fun H locs hW => ?_)
        refine lv_if_eq (tgt := 110) hx hb dX7_toldOfSample_95 (by decide) (fun c14 => ?_) (fun c14 => ?_)
        · have hf := br_p c14 hf
          refine lv_iconst (v := (-1)) hx hb dX7_toldOfSample_110 (by decide) ?_
          cases hf
          exact ss_iret hx hb hr hlk hW rfl dX7_toldOfSample_111
        · have hf := br_n c14 hf
          refine lv_aload_n hx hb dX7_toldOfSample_98 rfl (lv_at hl 0 rfl) ?_
          refine g_M_s hx hb hown hK hW kF_RX7_7 dX7_toldOfSample_99 ?_
          refine lv_bipush (v := 71) hx hb dX7_toldOfSample_102 (by decide) ?_
          refine lv_iload_n hx hb dX7_toldOfSample_104 rfl (lv_at hl 1 rfl) ?_
          refine lv_iadd hx hb dX7_toldOfSample_105 ?_
          obtain ⟨hk15, hf⟩ := gd_inv hf
          refine l_M0 hx hb hK hW rfl hk15 dX7_toldOfSample_106 ?_
          refine lv_goto (tgt := 111) hx hb dX7_toldOfSample_107 (by decide) ?_
          cases hf
          exact ss_iret hx hb hr hlk hW rfl dX7_toldOfSample_111
      have hf := br_n c11 hf
      by_cases c16 : a2 = 4
      · have hf := br_p c16 hf
        refine lv_tableIn (tgt := 112) hx hb dX7_toldOfSample_32 (by rw [c16]; decide) (by rw [c16]; decide) (by rw [c16]; rfl) (by decide) ?_
        refine lv_aload_n hx hb dX7_toldOfSample_112 rfl (lv_at hl 0 rfl) ?_
        refine g_M_s hx hb hown hK hW kF_RX7_7 dX7_toldOfSample_113 ?_
        refine lv_sipush (v := 263) hx hb dX7_toldOfSample_116 (by decide) ?_
        refine lv_iload_n hx hb dX7_toldOfSample_119 rfl (lv_at hl 1 rfl) ?_
        refine lv_aload_n hx hb dX7_toldOfSample_120 rfl (lv_at hl 0 rfl) ?_
        refine g_M_s hx hb hown hK hW kF_RX7_7 dX7_toldOfSample_121 ?_
        refine lv_iconst (v := 2) hx hb dX7_toldOfSample_124 (by decide) ?_
        refine l_M0 (k0 := 2) hx hb hK hW (by decide) (show ¬ ((2 : Int32) < 0 ∨ 295 ≤ (2 : Int32).toNatClampNeg) by decide) dX7_toldOfSample_125 ?_
        obtain ⟨hz17, hf⟩ := gd_inv hf
        refine lv_idiv hx hb dX7_toldOfSample_126 hz17 ?_
        refine lv_iadd hx hb dX7_toldOfSample_127 ?_
        obtain ⟨hk18, hf⟩ := gd_inv hf
        refine l_M0 hx hb hK hW rfl hk18 dX7_toldOfSample_128 ?_
        refine lv_iconst (v := 1) hx hb dX7_toldOfSample_129 (by decide) ?_
        refine lv_icmp_ne (tgt := 137) hx hb dX7_toldOfSample_130 (by decide) (fun c19 => ?_) (fun c19 => ?_)
        · have hf := br_n c19 hf
          refine lv_aload_n hx hb dX7_toldOfSample_137 rfl (lv_at hl 0 rfl) ?_
          refine g_M_behind hx hb hown hK hW kF_RX7_32 dX7_toldOfSample_138 ?_
          refine lv_iload_n hx hb dX7_toldOfSample_141 rfl (lv_at hl 1 rfl) ?_
          obtain ⟨hk20, hf⟩ := gd_inv hf
          refine l_M7 hx hb hK hW rfl hk20 dX7_toldOfSample_142 ?_
          cases hf
          exact ss_iret hx hb hr hlk hW rfl dX7_toldOfSample_143
        · have hf := br_p c19 hf
          refine lv_iconst (v := (-1)) hx hb dX7_toldOfSample_133 (by decide) ?_
          refine lv_goto (tgt := 143) hx hb dX7_toldOfSample_134 (by decide) ?_
          cases hf
          exact ss_iret hx hb hr hlk hW rfl dX7_toldOfSample_143
      have hf := br_n c16 hf
      have zc7 := sw_ne (n := 1) c7 (by decide)
      have zc9 := sw_ne (n := 2) c9 (by decide)
      have zc11 := sw_ne (n := 3) c11 (by decide)
      have zc16 := sw_ne (n := 4) c16 (by decide)
      refine lv_tableOut (tgt := 144) hx hb dX7_toldOfSample_32 (by omega) (by decide) ?_
      refine lv_aload_n hx hb dX7_toldOfSample_144 rfl (lv_at hl 0 rfl) ?_
      refine g_M_s hx hb hown hK hW kF_RX7_7 dX7_toldOfSample_145 ?_
      refine lv_bipush (v := 7) hx hb dX7_toldOfSample_148 (by decide) ?_
      refine lv_iload_n hx hb dX7_toldOfSample_150 rfl (lv_at hl 1 rfl) ?_
      refine lv_iadd hx hb dX7_toldOfSample_151 ?_
      obtain ⟨hk21, hf⟩ := gd_inv hf
      refine l_M0 hx hb hK hW rfl hk21 dX7_toldOfSample_152 ?_
      refine lv_aload_n hx hb dX7_toldOfSample_153 rfl (lv_at hl 0 rfl) ?_
      refine g_M_made hx hb hown hK hW kF_RX7_29 dX7_toldOfSample_154 ?_
      refine lv_iload_n hx hb dX7_toldOfSample_157 rfl (lv_at hl 1 rfl) ?_
      obtain ⟨hk22, hf⟩ := gd_inv hf
      refine l_M6 hx hb hK hW rfl hk22 dX7_toldOfSample_158 ?_
      refine lv_isub hx hb dX7_toldOfSample_159 ?_
      refine lv_sipush (v := 10000) hx hb dX7_toldOfSample_160 (by decide) ?_
      refine lv_iadd hx hb dX7_toldOfSample_163 ?_
      cases hf
      exact ss_iret hx hb hr hlk hW rfl dX7_toldOfSample_164
    · have hf := br_p c4 hf
      refine lv_iconst (v := (-1)) hx hb dX7_toldOfSample_25 (by decide) ?_
      cases hf
      exact ss_iret hx hb hr hlk hW rfl dX7_toldOfSample_26
  · have hf := br_p c1 hf
    refine lv_aload_n hx hb dX7_toldOfSample_4 rfl (lv_at hl 0 rfl) ?_
    refine g_M_s hx hb hown hK hW kF_RX7_7 dX7_toldOfSample_5 ?_
    refine lv_bipush (v := 7) hx hb dX7_toldOfSample_8 (by decide) ?_
    refine lv_iload_n hx hb dX7_toldOfSample_10 rfl (lv_at hl 1 rfl) ?_
    refine lv_iadd hx hb dX7_toldOfSample_11 ?_
    obtain ⟨hk23, hf⟩ := gd_inv hf
    refine l_M0 hx hb hK hW rfl hk23 dX7_toldOfSample_12 ?_
    refine lv_sipush (v := 10000) hx hb dX7_toldOfSample_13 (by decide) ?_
    refine lv_iadd hx hb dX7_toldOfSample_16 ?_
    cases hf
    exact ss_iret hx hb hr hlk hW rfl dX7_toldOfSample_17
def fX7_others_L8  (n : Nat) (x1 : Int32) (x2 : Int32) (μ : Sg) : Option (Int32 × Sg) := match n with
  | 0 => none
  | n + 1 => if (μ 0 0) ≤ x2 then (some (x1, μ)) else (gd (¬ (x2 < 0 ∨ 64 ≤ (x2).toNatClampNeg)) <| gd (¬ (x2 < 0 ∨ 64 ≤ (x2).toNatClampNeg)) <| if (μ 6 (x2).toNatClampNeg) = (μ 9 (x2).toNatClampNeg) then (nm (x1 + 0) fun x1_7 => nm (x2 + 1) fun x2_8 => (fun x1 x2 μ => fX7_others_L8 n x1 x2 μ) x1_7 x2_8 μ) else (nm (x1 + 1) fun x1_5 => nm (x2 + 1) fun x2_6 => (fun x1 x2 μ => fX7_others_L8 n x1 x2 μ) x1_5 x2_6 μ))
def fX7_others (μ : Sg) : Option (Int32 × Sg) := bd (fX7_decodes μ) fun u10 => fX7_others_L8 80 0 0 u10
set_option maxHeartbeats 4000000 in
set_option maxRecDepth 100000 in
theorem mX7_others (l : Launch) {E : En} {σ μ : Sg} {dg : Int64}   {r : Int32} {μ' : Sg} (hf : fX7_others μ = some (r, μ')) : Met l yX7_others [.code yX7_others cX7_others 3 (some .int)] (Rm 3 70) (va_Pc [.ref (eA E 9)] (Wd E σ μ dg)) (Qi E σ μ' dg r) 0 0 (eP E) := by
  refine ss_of (by decide) (Nat.le_of_ble_eq_true rfl) (fun p e s m below meth c hx hb hr hlk hml hown hK hW ls hl => ?_)
  have hown : s.vm.findClass RX7 = some m.cls := hown
  have hl : lv_has ls 3 [(0, .ref (eA E 9))] := hl
  unfold fX7_others at hf
  have h8 : ∀ (n8 : Nat) (x1 : Int32) (x2 : Int32) (μ : Sg) (H : Heap) (locs : List Loc) (ls : Array Slot), Wk E σ μ dg s H locs → lv_has ls 3 [(0, .ref (eA E 9)), (1, .int x1), (2, .int x2)] → fX7_others_L8 n8 x1 x2 μ = some (r, μ') → W p l e (Rm 3 70) s m [.ref (eA E 9)].toArray below meth c H locs 0 0 (MQ below (Qi E σ μ' dg r) [.ref (eA E 9)].toArray s 0 0 (eP E)) (F0 m 8 ls []) := by
    intro n8
    induction n8 with
    | zero =>
      intro x1 x2 μ  H locs ls hW hl hf
      exact absurd hf (by simp [fX7_others_L8])
    | succ n8 ih8 =>
      intro x1 x2 μ  H locs ls hW hl hf
      rw [fX7_others_L8] at hf
      refine lv_iload_n hx hb dX7_others_8 rfl (lv_at hl 2 rfl) ?_
      refine lv_aload_n hx hb dX7_others_9 rfl (lv_at hl 0 rfl) ?_
      refine g_M_s hx hb hown hK hW kF_RX7_7 dX7_others_10 ?_
      refine lv_iconst (v := 0) hx hb dX7_others_13 (by decide) ?_
      refine l_M0 (k0 := 0) hx hb hK hW (by decide) (show ¬ ((0 : Int32) < 0 ∨ 295 ≤ (0 : Int32).toNatClampNeg) by decide) dX7_others_14 ?_
      refine lv_icmp_ge (tgt := 47) hx hb dX7_others_15 (by decide) (fun c1 => ?_) (fun c1 => ?_)
      · have hf := br_p c1 hf
        refine lv_iload_n hx hb dX7_others_47 rfl (lv_at hl 1 rfl) ?_
        cases hf
        exact ss_iret hx hb hr hlk hW rfl dX7_others_48
      · have hf := br_n c1 hf
        refine lv_iload_n hx hb dX7_others_18 rfl (lv_at hl 1 rfl) ?_
        refine lv_aload_n hx hb dX7_others_19 rfl (lv_at hl 0 rfl) ?_
        refine g_M_made hx hb hown hK hW kF_RX7_29 dX7_others_20 ?_
        refine lv_iload_n hx hb dX7_others_23 rfl (lv_at hl 2 rfl) ?_
        obtain ⟨hk2, hf⟩ := gd_inv hf
        refine l_M6 hx hb hK hW rfl hk2 dX7_others_24 ?_
        refine lv_aload_n hx hb dX7_others_25 rfl (lv_at hl 0 rfl) ?_
        refine g_M_before hx hb hown hK hW kF_RX7_38 dX7_others_26 ?_
        refine lv_iload_n hx hb dX7_others_29 rfl (lv_at hl 2 rfl) ?_
        obtain ⟨hk3, hf⟩ := gd_inv hf
        refine l_M9 hx hb hK hW rfl hk3 dX7_others_30 ?_
        refine lv_icmp_ne (tgt := 38) hx hb dX7_others_31 (by decide) (fun c4 => ?_) (fun c4 => ?_)
        · have hf := br_n c4 hf
          refine lv_iconst (v := 1) hx hb dX7_others_38 (by decide) ?_
          refine lv_iadd hx hb dX7_others_39 ?_
          refine lv_topi (fun x1_5 ex1_5 => ?_)
          have hf := nm_use ex1_5 hf
          refine lv_istore_n (lv' := [(1, .int x1_5), (0, .ref (eA E 9)), (2, .int x2)]) hx hb dX7_others_40 rfl hl (by decide) rfl (fun ls hl => ?_)
          obtain ⟨x2_6, ex2_6⟩ : ∃ y : Int32, y = (x2 + 1) := ⟨_, rfl⟩
          have hf := nm_use ex2_6 hf
          refine lv_iinc (v := x2_6) (lv' := [(2, .int x2_6), (1, .int x1_5), (0, .ref (eA E 9))]) hx hb dX7_others_41 hl (k := 2) rfl (by rw [ex2_6]; rfl) (by decide) rfl (fun ls hl => ?_)
          refine lv_goto (tgt := 8) hx hb dX7_others_44 (by decide) ?_
          exact ih8 x1_5 x2_6 μ _ _ _ hW (lv_sub hl [2, 1, 0] rfl) hf
        · have hf := br_p c4 hf
          refine lv_iconst (v := 0) hx hb dX7_others_34 (by decide) ?_
          refine lv_goto (tgt := 39) hx hb dX7_others_35 (by decide) ?_
          refine lv_iadd hx hb dX7_others_39 ?_
          refine lv_topi (fun x1_7 ex1_7 => ?_)
          have hf := nm_use ex1_7 hf
          refine lv_istore_n (lv' := [(1, .int x1_7), (0, .ref (eA E 9)), (2, .int x2)]) hx hb dX7_others_40 rfl hl (by decide) rfl (fun ls hl => ?_)
          obtain ⟨x2_8, ex2_8⟩ : ∃ y : Int32, y = (x2 + 1) := ⟨_, rfl⟩
          have hf := nm_use ex2_8 hf
          refine lv_iinc (v := x2_8) (lv' := [(2, .int x2_8), (1, .int x1_7), (0, .ref (eA E 9))]) hx hb dX7_others_41 hl (k := 2) rfl (by rw [ex2_8]; rfl) (by decide) rfl (fun ls hl => ?_)
          refine lv_goto (tgt := 8) hx hb dX7_others_44 (by decide) ?_
          exact ih8 x1_7 x2_8 μ _ _ _ hW (lv_sub hl [2, 1, 0] rfl) hf
  refine lv_aload_n hx hb dX7_others_0 rfl (lv_at hl 0 rfl) ?_
  obtain ⟨u10, q9, hf⟩ := bd_inv hf
  refine ss_callVv (As := []) hx hb hml hown hK hW kb_X7_decodes kM_RX7_94 rfl (by decide) (c_fx (by decide)) (mX7_decodes l  q9) rfl dX7_others_1 rfl hl.1 (Nat.le_of_ble_eq_true rfl) ⟨Nat.le_of_ble_eq_true rfl, Nat.le_of_ble_eq_true rfl⟩ ⟨Nat.zero_le _, Nat.zero_le _⟩ (fun H locs hW => ?_)
  refine lv_iconst (v := 0) hx hb dX7_others_4 (by decide) ?_
  refine lv_istore_n (lv' := [(1, .int 0), (0, .ref (eA E 9))]) hx hb dX7_others_5 rfl hl (by decide) rfl (fun ls hl => ?_)
  refine lv_iconst (v := 0) hx hb dX7_others_6 (by decide) ?_
  refine lv_istore_n (lv' := [(2, .int 0), (1, .int 0), (0, .ref (eA E 9))]) hx hb dX7_others_7 rfl hl (by decide) rfl (fun ls hl => ?_)
  exact h8 80 0 0 u10 _ _ _ hW (lv_sub hl [2, 1, 0] rfl) hf
def fX7_spreads (a1 : Int32) (a2 : Int32) (μ : Sg) : Option (Int32 × Sg) := bd (fX7_decodesBefore μ) fun u2 => gd (¬ ((71 + a1) < 0 ∨ 295 ≤ ((71 + a1)).toNatClampNeg)) <| gd (¬ ((71 + a1) < 0 ∨ 295 ≤ ((71 + a1)).toNatClampNeg)) <| nm (up2 u2 0 (((71 + a1)).toNatClampNeg) ((u2 0 ((71 + a1)).toNatClampNeg) ^^^ (1 <<< (a2 &&& 31)))) fun u5 => bd2 (fX7_others u5) fun r7 u8 => gd (¬ ((71 + a1) < 0 ∨ 295 ≤ ((71 + a1)).toNatClampNeg)) <| gd (¬ ((71 + a1) < 0 ∨ 295 ≤ ((71 + a1)).toNatClampNeg)) <| nm (up2 u8 0 (((71 + a1)).toNatClampNeg) ((u8 0 ((71 + a1)).toNatClampNeg) ^^^ (1 <<< (a2 &&& 31)))) fun u11 => some (r7, u11)
set_option maxHeartbeats 4000000 in
set_option maxRecDepth 100000 in
theorem mX7_spreads (l : Launch) {E : En} {σ μ : Sg} {dg : Int64} {a1 : Int32} {a2 : Int32}  {r : Int32} {μ' : Sg} (hf : fX7_spreads a1 a2 μ = some (r, μ')) : Met l yX7_spreads [.code yX7_spreads cX7_spreads 4 (some .int)] (Rm 4 92) (va_Pc [.ref (eA E 9), .int a1, .int a2] (Wd E σ μ dg)) (Qi E σ μ' dg r) 0 0 (eP E) := by
  refine ss_of (by decide) (Nat.le_of_ble_eq_true rfl) (fun p e s m below meth c hx hb hr hlk hml hown hK hW ls hl => ?_)
  have hown : s.vm.findClass RX7 = some m.cls := hown
  have hl : lv_has ls 4 [(0, .ref (eA E 9)), (1, .int a1), (2, .int a2)] := hl
  unfold fX7_spreads at hf
  refine lv_aload_n hx hb dX7_spreads_0 rfl (lv_at hl 0 rfl) ?_
  obtain ⟨u2, q1, hf⟩ := bd_inv hf
  refine ss_callVv (As := []) hx hb hml hown hK hW kb_X7_decodesBefore kM_RX7_157 rfl (by decide) (c_fx (by decide)) (mX7_decodesBefore l  q1) rfl dX7_spreads_1 rfl hl.1 (Nat.le_of_ble_eq_true rfl) ⟨Nat.le_of_ble_eq_true rfl, Nat.le_of_ble_eq_true rfl⟩ ⟨Nat.zero_le _, Nat.zero_le _⟩ (fun H locs hW => ?_)
  refine lv_aload_n hx hb dX7_spreads_4 rfl (lv_at hl 0 rfl) ?_
  refine g_M_s hx hb hown hK hW kF_RX7_7 dX7_spreads_5 ?_
  refine lv_bipush (v := 71) hx hb dX7_spreads_8 (by decide) ?_
  refine lv_iload_n hx hb dX7_spreads_10 rfl (lv_at hl 1 rfl) ?_
  refine lv_iadd hx hb dX7_spreads_11 ?_
  refine lv_dup2_11 hx hb dX7_spreads_12 rfl rfl ?_
  obtain ⟨hk3, hf⟩ := gd_inv hf
  refine l_M0 hx hb hK hW rfl hk3 dX7_spreads_13 ?_
  refine lv_iconst (v := 1) hx hb dX7_spreads_14 (by decide) ?_
  refine lv_iload_n hx hb dX7_spreads_15 rfl (lv_at hl 2 rfl) ?_
  refine lv_ishl hx hb dX7_spreads_16 ?_
  refine lv_ixor hx hb dX7_spreads_17 ?_
  obtain ⟨hk4, hf⟩ := gd_inv hf
  refine s_M0 hx hb hK hW rfl hk4 dX7_spreads_18 (fun H locs hW => ?_)
  obtain ⟨u5, eu5⟩ : ∃ y : Sg, y = (up2 u2 0 (((71 + a1)).toNatClampNeg) ((u2 0 ((71 + a1)).toNatClampNeg) ^^^ (1 <<< (a2 &&& 31)))) := ⟨_, rfl⟩
  have hf := nm_use eu5 hf
  rw [← eu5] at hW
  refine lv_aload_n hx hb dX7_spreads_19 rfl (lv_at hl 0 rfl) ?_
  obtain ⟨r7, u8, q6, hf⟩ := bd2_inv hf
  refine ss_callVi (As := []) hx hb hml hown hK hW kb_X7_others kM_RX7_160 rfl (by decide) (c_fx (by decide)) (mX7_others l  q6) rfl dX7_spreads_20 rfl hl.1 (Nat.le_of_ble_eq_true rfl) ⟨Nat.le_of_ble_eq_true rfl, Nat.le_of_ble_eq_true rfl⟩ ⟨Nat.zero_le _, Nat.zero_le _⟩ (fun H locs hW => ?_)
  refine lv_istore_n (lv' := [(3, .int r7), (0, .ref (eA E 9)), (1, .int a1), (2, .int a2)]) hx hb dX7_spreads_23 rfl hl (by decide) rfl (fun ls hl => ?_)
  refine lv_aload_n hx hb dX7_spreads_24 rfl (lv_at hl 1 rfl) ?_
  refine g_M_s hx hb hown hK hW kF_RX7_7 dX7_spreads_25 ?_
  refine lv_bipush (v := 71) hx hb dX7_spreads_28 (by decide) ?_
  refine lv_iload_n hx hb dX7_spreads_30 rfl (lv_at hl 2 rfl) ?_
  refine lv_iadd hx hb dX7_spreads_31 ?_
  refine lv_dup2_11 hx hb dX7_spreads_32 rfl rfl ?_
  obtain ⟨hk9, hf⟩ := gd_inv hf
  refine l_M0 hx hb hK hW rfl hk9 dX7_spreads_33 ?_
  refine lv_iconst (v := 1) hx hb dX7_spreads_34 (by decide) ?_
  refine lv_iload_n hx hb dX7_spreads_35 rfl (lv_at hl 3 rfl) ?_
  refine lv_ishl hx hb dX7_spreads_36 ?_
  refine lv_ixor hx hb dX7_spreads_37 ?_
  obtain ⟨hk10, hf⟩ := gd_inv hf
  refine s_M0 hx hb hK hW rfl hk10 dX7_spreads_38 (fun H locs hW => ?_)
  obtain ⟨u11, eu11⟩ : ∃ y : Sg, y = (up2 u8 0 (((71 + a1)).toNatClampNeg) ((u8 0 ((71 + a1)).toNatClampNeg) ^^^ (1 <<< (a2 &&& 31)))) := ⟨_, rfl⟩
  have hf := nm_use eu11 hf
  rw [← eu11] at hW
  refine lv_iload_n hx hb dX7_spreads_39 rfl (lv_at hl 0 rfl) ?_
  cases hf
  exact ss_iret hx hb hr hlk hW rfl dX7_spreads_40
