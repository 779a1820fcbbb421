def fX7_digestWave_L102  (n : Nat) (x1 : Int32) (μ : Sg) (dg : Int64) : Option (Sg × Int64) := match n with
  | 0 => none
  | n + 1 => if (μ 0 0) ≤ x1 then (some (μ, dg)) else (bd (fX7_hasCode x1 μ) fun r3 => if r3 = 0 then (nm (x1 + 1) fun x1_5 => (fun x1 μ dg => fX7_digestWave_L102 n x1 μ dg) x1_5 μ dg) else (bd2 (fX7_spreads x1 3 μ) fun r7 u8 => bd (fX7_digestOne ((r7).toInt64) dg) fun g10 => nm (x1 + 1) fun x1_11 => (fun x1 μ dg => fX7_digestWave_L102 n x1 μ dg) x1_11 u8 g10))
def fX7_digestWave_L55 (k45 : Int32 → Sg → Int64 → Option (Sg × Int64)) (n : Nat) (x1 : Int32) (x2 : Int32) (μ : Sg) (dg : Int64) : Option (Sg × Int64) := match n with
  | 0 => none
  | n + 1 => if 6 ≤ x2 then (nm (x1 + 1) fun x1_13 => k45 x1_13 μ dg) else (bd2 (fX7_toldOfBlock x1 x2 μ) fun r15 u16 => bd (fX7_digestOne ((r15).toInt64) dg) fun g18 => nm (x2 + 1) fun x2_19 => (fun x1 x2 μ dg => fX7_digestWave_L55 k45 n x1 x2 μ dg) x1 x2_19 u16 g18)
def fX7_digestWave_L45  (n : Nat) (x1 : Int32) (μ : Sg) (dg : Int64) : Option (Sg × Int64) := match n with
  | 0 => none
  | n + 1 => bd (fX7_blocks μ) fun r21 => if r21 ≤ x1 then (bd (fX7_best 0 (μ 0 0) μ) fun r24 => bd (fX7_digestOne ((r24).toInt64) dg) fun g26 => fX7_digestWave_L102 80 0 μ g26) else (fX7_digestWave_L55 (fun x1 μ dg => fX7_digestWave_L45 n x1 μ dg) 80 x1 0 μ dg)
def fX7_digestWave_L14 (k2 : Int32 → Sg → Int64 → Option (Sg × Int64)) (n : Nat) (x1 : Int32) (x2 : Int32) (μ : Sg) (dg : Int64) : Option (Sg × Int64) := match n with
  | 0 => none
  | n + 1 => if 6 ≤ x2 then (nm (x1 + 1) fun x1_28 => k2 x1_28 μ dg) else (bd2 (fX7_toldOfSample x1 x2 μ) fun r30 u31 => bd (fX7_digestOne ((r30).toInt64) dg) fun g33 => nm (x2 + 1) fun x2_34 => (fun x1 x2 μ dg => fX7_digestWave_L14 k2 n x1 x2 μ dg) x1 x2_34 u31 g33)
def fX7_digestWave_L2  (n : Nat) (x1 : Int32) (μ : Sg) (dg : Int64) : Option (Sg × Int64) := match n with
  | 0 => none
  | n + 1 => if (μ 0 0) ≤ x1 then (fX7_digestWave_L45 80 0 μ dg) else (fX7_digestWave_L14 (fun x1 μ dg => fX7_digestWave_L2 n x1 μ dg) 80 x1 0 μ dg)
def fX7_digestWave (μ : Sg) (dg : Int64) : Option (Sg × Int64) := fX7_digestWave_L2 80 0 μ dg
set_option maxHeartbeats 4000000 in
set_option maxRecDepth 100000 in
theorem mX7_digestWave (l : Launch) {E : En} {σ μ : Sg} {dg : Int64}   {μ' : Sg} {dg' : Int64} (hf : fX7_digestWave μ dg = some (μ', dg')) : Met l yX7_digestWave [.code yX7_digestWave cX7_digestWave 3 none] (Rm 5 115) (va_Pc [.ref (eA E 9)] (Wd E σ μ dg)) (Qv E σ μ' dg') 0 0 (eP E) := by
  refine ss_of (by decide) (Nat.le_of_ble_eq_true rfl) (fun p e s m below meth c hx hb hr hlk hml hown hK hW ls hl => ?_)
  have hown : s.vm.findClass RX7 = some m.cls := hown
  have hl : lv_has ls 3 [(0, .ref (eA E 9))] := hl
  unfold fX7_digestWave at hf
  have h102 : ∀ (n102 : Nat) (x1 : Int32) (μ : Sg) (dg : Int64) (H : Heap) (locs : List Loc) (ls : Array Slot), Wk E σ μ dg s H locs → lv_has ls 3 [(0, .ref (eA E 9)), (1, .int x1)] → fX7_digestWave_L102 n102 x1 μ dg = some (μ', dg') → W p l e (Rm 5 115) s m [.ref (eA E 9)].toArray below meth c H locs 0 0 (MQ below (Qv E σ μ' dg') [.ref (eA E 9)].toArray s 0 0 (eP E)) (F0 m 102 ls []) := by
    intro n102
    induction n102 with
    | zero =>
      intro x1 μ dg  H locs ls hW hl hf
      exact absurd hf (by simp [fX7_digestWave_L102])
    | succ n102 ih102 =>
      intro x1 μ dg  H locs ls hW hl hf
      rw [fX7_digestWave_L102] at hf
      refine lv_iload_n hx hb dX7_digestWave_102 rfl (lv_at hl 1 rfl) ?_
      refine lv_aload_n hx hb dX7_digestWave_103 rfl (lv_at hl 0 rfl) ?_
      refine g_M_s hx hb hown hK hW kF_RX7_7 dX7_digestWave_104 ?_
      refine lv_iconst (v := 0) hx hb dX7_digestWave_107 (by decide) ?_
      refine l_M0 (k0 := 0) hx hb hK hW (by decide) (show ¬ ((0 : Int32) < 0 ∨ 295 ≤ (0 : Int32).toNatClampNeg) by decide) dX7_digestWave_108 ?_
      refine lv_icmp_ge (tgt := 137) hx hb dX7_digestWave_109 (by decide) (fun c1 => ?_) (fun c1 => ?_)
      · have hf := br_p c1 hf
        cases hf
        exact ss_vret hx hb hr hlk hW dX7_digestWave_137
      · have hf := br_n c1 hf
        refine lv_aload_n hx hb dX7_digestWave_112 rfl (lv_at hl 0 rfl) ?_
        refine lv_iload_n hx hb dX7_digestWave_113 rfl (lv_at hl 1 rfl) ?_
        obtain ⟨r3, q2, hf⟩ := bd_inv hf
        refine ss_callVi (As := [.int x1]) hx hb hml hown hK hW kb_X7_hasCode kM_RX7_122 rfl (by decide) (c_fx (by decide)) (mX7_hasCode l (a1 := x1) q2) rfl dX7_digestWave_114 rfl hl.1 (Nat.le_of_ble_eq_true rfl) ⟨Nat.le_of_ble_eq_true rfl, Nat.le_of_ble_eq_true rfl⟩ ⟨Nat.zero_le _, Nat.zero_le _⟩ (fun H locs hW => ?_)
        refine lv_if_eq (tgt := 131) hx hb dX7_digestWave_117 (by decide) (fun c4 => ?_) (fun c4 => ?_)
        · have hf := br_p c4 hf
          obtain ⟨x1_5, ex1_5⟩ : ∃ y : Int32, y = (x1 + 1) := ⟨_, rfl⟩
          have hf := nm_use ex1_5 hf
          refine lv_iinc (v := x1_5) (lv' := [(1, .int x1_5), (0, .ref (eA E 9))]) hx hb dX7_digestWave_131 hl (k := 1) rfl (by rw [ex1_5]; rfl) (by decide) rfl (fun ls hl => ?_)
          refine lv_goto (tgt := 102) hx hb dX7_digestWave_134 (by decide) ?_
          exact ih102 x1_5 μ dg _ _ _ hW (lv_sub hl [1, 0] rfl) hf
        · have hf := br_n c4 hf
          refine lv_aload_n hx hb dX7_digestWave_120 rfl (lv_at hl 0 rfl) ?_
          refine lv_aload_n hx hb dX7_digestWave_121 rfl (lv_at hl 0 rfl) ?_
          refine lv_iload_n hx hb dX7_digestWave_122 rfl (lv_at hl 1 rfl) ?_
          refine lv_iconst (v := 3) hx hb dX7_digestWave_123 (by decide) ?_
          obtain ⟨r7, u8, q6, hf⟩ := bd2_inv hf
          refine ss_callVi (As := [.int x1, .int 3]) hx hb hml hown hK hW kb_X7_spreads kM_RX7_194 rfl (by decide) (c_fx (by decide)) (mX7_spreads l (a1 := x1) (a2 := 3) q6) rfl dX7_digestWave_124 rfl hl.1 (Nat.le_of_ble_eq_true rfl) ⟨Nat.le_of_ble_eq_true rfl, Nat.le_of_ble_eq_true rfl⟩ ⟨Nat.zero_le _, Nat.zero_le _⟩ (fun H locs hW => ?_)
          refine lv_i2l (v := (r7).toInt64) hx hb dX7_digestWave_127 rfl ?_
          obtain ⟨g10, q9, hf⟩ := bd_inv hf
          refine ss_callVv (As := [.long ((r7).toInt64)]) hx hb hml hown hK hW kb_X7_digestOne kM_RX7_226 rfl (by decide) (c_fx (by decide)) (mX7_digestOne l (a1 := ((r7).toInt64)) q9) rfl dX7_digestWave_128 rfl hl.1 (Nat.le_of_ble_eq_true rfl) ⟨Nat.le_of_ble_eq_true rfl, Nat.le_of_ble_eq_true rfl⟩ ⟨Nat.zero_le _, Nat.zero_le _⟩ (fun H locs hW => ?_)
          obtain ⟨x1_11, ex1_11⟩ : ∃ y : Int32, y = (x1 + 1) := ⟨_, rfl⟩
          have hf := nm_use ex1_11 hf
          refine lv_iinc (v := x1_11) (lv' := [(1, .int x1_11), (0, .ref (eA E 9))]) hx hb dX7_digestWave_131 hl (k := 1) rfl (by rw [ex1_11]; rfl) (by decide) rfl (fun ls hl => ?_)
          refine lv_goto (tgt := 102) hx hb dX7_digestWave_134 (by decide) ?_
          exact ih102 x1_11 u8 g10 _ _ _ hW (lv_sub hl [1, 0] rfl) hf
  have h45 : ∀ (n45 : Nat) (x1 : Int32) (μ : Sg) (dg : Int64) (H : Heap) (locs : List Loc) (ls : Array Slot), Wk E σ μ dg s H locs → lv_has ls 3 [(0, .ref (eA E 9)), (1, .int x1)] → fX7_digestWave_L45 n45 x1 μ dg = some (μ', dg') → W p l e (Rm 5 115) s m [.ref (eA E 9)].toArray below meth c H locs 0 0 (MQ below (Qv E σ μ' dg') [.ref (eA E 9)].toArray s 0 0 (eP E)) (F0 m 45 ls []) := by
    intro n45
    induction n45 with
    | zero =>
      intro x1 μ dg  H locs ls hW hl hf
      exact absurd hf (by simp [fX7_digestWave_L45])
    | succ n45 ih45 =>
      have h55 : ∀ (n55 : Nat) (x1 : Int32) (x2 : Int32) (μ : Sg) (dg : Int64) (H : Heap) (locs : List Loc) (ls : Array Slot), Wk E σ μ dg s H locs → lv_has ls 3 [(0, .ref (eA E 9)), (1, .int x1), (2, .int x2)] → fX7_digestWave_L55 (fun x1 μ dg => fX7_digestWave_L45 n45 x1 μ dg) n55 x1 x2 μ dg = some (μ', dg') → W p l e (Rm 5 115) s m [.ref (eA E 9)].toArray below meth c H locs 0 0 (MQ below (Qv E σ μ' dg') [.ref (eA E 9)].toArray s 0 0 (eP E)) (F0 m 55 ls []) := by
        intro n55
        induction n55 with
        | zero =>
          intro x1 x2 μ dg  H locs ls hW hl hf
          exact absurd hf (by simp [fX7_digestWave_L55])
        | succ n55 ih55 =>
          intro x1 x2 μ dg  H locs ls hW hl hf
          rw [fX7_digestWave_L55] at hf
          refine lv_iload_n hx hb dX7_digestWave_55 rfl (lv_at hl 2 rfl) ?_
          refine lv_bipush (v := 6) hx hb dX7_digestWave_56 (by decide) ?_
          refine lv_icmp_ge (tgt := 78) hx hb dX7_digestWave_58 (by decide) (fun c12 => ?_) (fun c12 => ?_)
          · have hf := br_p c12 hf
            obtain ⟨x1_13, ex1_13⟩ : ∃ y : Int32, y = (x1 + 1) := ⟨_, rfl⟩
            have hf := nm_use ex1_13 hf
            refine lv_iinc (v := x1_13) (lv' := [(1, .int x1_13), (0, .ref (eA E 9)), (2, .int x2)]) hx hb dX7_digestWave_78 hl (k := 1) rfl (by rw [ex1_13]; rfl) (by decide) rfl (fun ls hl => ?_)
            refine lv_goto (tgt := 45) hx hb dX7_digestWave_81 (by decide) ?_
            exact ih45 x1_13 μ dg _ _ _ hW (lv_sub hl [1, 0] rfl) hf
          · have hf := br_n c12 hf
            refine lv_aload_n hx hb dX7_digestWave_61 rfl (lv_at hl 0 rfl) ?_
            refine lv_aload_n hx hb dX7_digestWave_62 rfl (lv_at hl 0 rfl) ?_
            refine lv_iload_n hx hb dX7_digestWave_63 rfl (lv_at hl 1 rfl) ?_
            refine lv_iload_n hx hb dX7_digestWave_64 rfl (lv_at hl 2 rfl) ?_
            obtain ⟨r15, u16, q14, hf⟩ := bd2_inv hf
            refine ss_callVi (As := [.int x1, .int x2]) hx hb hml hown hK hW kb_X7_toldOfBlock kM_RX7_176 rfl (by decide) (c_fx (by decide)) (mX7_toldOfBlock l (a1 := x1) (a2 := x2) q14) rfl dX7_digestWave_65 rfl hl.1 (Nat.le_of_ble_eq_true rfl) ⟨Nat.le_of_ble_eq_true rfl, Nat.le_of_ble_eq_true rfl⟩ ⟨Nat.zero_le _, Nat.zero_le _⟩ (fun H locs hW => ?_)
            refine lv_i2l (v := (r15).toInt64) hx hb dX7_digestWave_68 rfl ?_
            obtain ⟨g18, q17, hf⟩ := bd_inv hf
            refine ss_callVv (As := [.long ((r15).toInt64)]) hx hb hml hown hK hW kb_X7_digestOne kM_RX7_226 rfl (by decide) (c_fx (by decide)) (mX7_digestOne l (a1 := ((r15).toInt64)) q17) rfl dX7_digestWave_69 rfl hl.1 (Nat.le_of_ble_eq_true rfl) ⟨Nat.le_of_ble_eq_true rfl, Nat.le_of_ble_eq_true rfl⟩ ⟨Nat.zero_le _, Nat.zero_le _⟩ (fun H locs hW => ?_)
            obtain ⟨x2_19, ex2_19⟩ : ∃ y : Int32, y = (x2 + 1) := ⟨_, rfl⟩
            have hf := nm_use ex2_19 hf
            refine lv_iinc (v := x2_19) (lv' := [(2, .int x2_19), (0, .ref (eA E 9)), (1, .int x1)]) hx hb dX7_digestWave_72 hl (k := 2) rfl (by rw [ex2_19]; rfl) (by decide) rfl (fun ls hl => ?_)
            refine lv_goto (tgt := 55) hx hb dX7_digestWave_75 (by decide) ?_
            exact ih55 x1 x2_19 u16 g18 _ _ _ hW (lv_sub hl [1, 2, 0] rfl) hf
      intro x1 μ dg  H locs ls hW hl hf
      rw [fX7_digestWave_L45] at hf
      refine lv_iload_n hx hb dX7_digestWave_45 rfl (lv_at hl 1 rfl) ?_
      refine lv_aload_n hx hb dX7_digestWave_46 rfl (lv_at hl 0 rfl) ?_
      obtain ⟨r21, q20, hf⟩ := bd_inv hf
      refine ss_callVi (As := []) hx hb hml hown hK hW kb_X7_blocks kM_RX7_59 rfl (by decide) (c_fx (by decide)) (mX7_blocks l  q20) rfl dX7_digestWave_47 rfl hl.1 (Nat.le_of_ble_eq_true rfl) ⟨Nat.le_of_ble_eq_true rfl, Nat.le_of_ble_eq_true rfl⟩ ⟨Nat.zero_le _, Nat.zero_le _⟩ (fun H locs hW => ?_)
      refine lv_icmp_ge (tgt := 84) hx hb dX7_digestWave_50 (by decide) (fun c22 => ?_) (fun c22 => ?_)
      · have hf := br_p c22 hf
        refine lv_aload_n hx hb dX7_digestWave_84 rfl (lv_at hl 0 rfl) ?_
        refine lv_aload_n hx hb dX7_digestWave_85 rfl (lv_at hl 0 rfl) ?_
        refine lv_iconst (v := 0) hx hb dX7_digestWave_86 (by decide) ?_
        refine lv_aload_n hx hb dX7_digestWave_87 rfl (lv_at hl 0 rfl) ?_
        refine g_M_s hx hb hown hK hW kF_RX7_7 dX7_digestWave_88 ?_
        refine lv_iconst (v := 0) hx hb dX7_digestWave_91 (by decide) ?_
        refine l_M0 (k0 := 0) hx hb hK hW (by decide) (show ¬ ((0 : Int32) < 0 ∨ 295 ≤ (0 : Int32).toNatClampNeg) by decide) dX7_digestWave_92 ?_
        obtain ⟨r24, q23, hf⟩ := bd_inv hf
        refine ss_callVi (As := [.int 0, .int (μ 0 0)]) hx hb hml hown hK hW kb_X7_best kM_RX7_110 rfl (by decide) (c_fx (by decide)) (mX7_best l (a1 := 0) (a2 := (μ 0 0)) q23) rfl dX7_digestWave_93 rfl hl.1 (Nat.le_of_ble_eq_true rfl) ⟨Nat.le_of_ble_eq_true rfl, Nat.le_of_ble_eq_true rfl⟩ ⟨Nat.zero_le _, Nat.zero_le _⟩ (fun H locs hW => ?_)
        refine lv_i2l (v := (r24).toInt64) hx hb dX7_digestWave_96 rfl ?_
        obtain ⟨g26, q25, hf⟩ := bd_inv hf
        refine ss_callVv (As := [.long ((r24).toInt64)]) hx hb hml hown hK hW kb_X7_digestOne kM_RX7_226 rfl (by decide) (c_fx (by decide)) (mX7_digestOne l (a1 := ((r24).toInt64)) q25) rfl dX7_digestWave_97 rfl hl.1 (Nat.le_of_ble_eq_true rfl) ⟨Nat.le_of_ble_eq_true rfl, Nat.le_of_ble_eq_true rfl⟩ ⟨Nat.zero_le _, Nat.zero_le _⟩ (fun H locs hW => ?_)
        refine lv_iconst (v := 0) hx hb dX7_digestWave_100 (by decide) ?_
        refine lv_istore_n (lv' := [(1, .int 0), (0, .ref (eA E 9))]) hx hb dX7_digestWave_101 rfl hl (by decide) rfl (fun ls hl => ?_)
        exact h102 80 0 μ g26 _ _ _ hW (lv_sub hl [1, 0] rfl) hf
      · have hf := br_n c22 hf
        refine lv_iconst (v := 0) hx hb dX7_digestWave_53 (by decide) ?_
        refine lv_istore_n (lv' := [(2, .int 0), (0, .ref (eA E 9)), (1, .int x1)]) hx hb dX7_digestWave_54 rfl hl (by decide) rfl (fun ls hl => ?_)
        exact h55 80 x1 0 μ dg _ _ _ hW (lv_sub hl [1, 2, 0] rfl) hf
  have h2 : ∀ (n2 : Nat) (x1 : Int32) (μ : Sg) (dg : Int64) (H : Heap) (locs : List Loc) (ls : Array Slot), Wk E σ μ dg s H locs → lv_has ls 3 [(0, .ref (eA E 9)), (1, .int x1)] → fX7_digestWave_L2 n2 x1 μ dg = some (μ', dg') → W p l e (Rm 5 115) s m [.ref (eA E 9)].toArray below meth c H locs 0 0 (MQ below (Qv E σ μ' dg') [.ref (eA E 9)].toArray s 0 0 (eP E)) (F0 m 2 ls []) := by
    intro n2
    induction n2 with
    | zero =>
      intro x1 μ dg  H locs ls hW hl hf
      exact absurd hf (by simp [fX7_digestWave_L2])
    | succ n2 ih2 =>
      have h14 : ∀ (n14 : Nat) (x1 : Int32) (x2 : Int32) (μ : Sg) (dg : Int64) (H : Heap) (locs : List Loc) (ls : Array Slot), Wk E σ μ dg s H locs → lv_has ls 3 [(0, .ref (eA E 9)), (1, .int x1), (2, .int x2)] → fX7_digestWave_L14 (fun x1 μ dg => fX7_digestWave_L2 n2 x1 μ dg) n14 x1 x2 μ dg = some (μ', dg') → W p l e (Rm 5 115) s m [.ref (eA E 9)].toArray below meth c H locs 0 0 (MQ below (Qv E σ μ' dg') [.ref (eA E 9)].toArray s 0 0 (eP E)) (F0 m 14 ls []) := by
        intro n14
        induction n14 with
        | zero =>
          intro x1 x2 μ dg  H locs ls hW hl hf
          exact absurd hf (by simp [fX7_digestWave_L14])
        | succ n14 ih14 =>
          intro x1 x2 μ dg  H locs ls hW hl hf
          rw [fX7_digestWave_L14] at hf
          refine lv_iload_n hx hb dX7_digestWave_14 rfl (lv_at hl 2 rfl) ?_
          refine lv_bipush (v := 6) hx hb dX7_digestWave_15 (by decide) ?_
          refine lv_icmp_ge (tgt := 37) hx hb dX7_digestWave_17 (by decide) (fun c27 => ?_) (fun c27 => ?_)
          · have hf := br_p c27 hf
            obtain ⟨x1_28, ex1_28⟩ : ∃ y : Int32, y = (x1 + 1) := ⟨_, rfl⟩
            have hf := nm_use ex1_28 hf
            refine lv_iinc (v := x1_28) (lv' := [(1, .int x1_28), (0, .ref (eA E 9)), (2, .int x2)]) hx hb dX7_digestWave_37 hl (k := 1) rfl (by rw [ex1_28]; rfl) (by decide) rfl (fun ls hl => ?_)
            refine lv_goto (tgt := 2) hx hb dX7_digestWave_40 (by decide) ?_
            exact ih2 x1_28 μ dg _ _ _ hW (lv_sub hl [1, 0] rfl) hf
          · have hf := br_n c27 hf
            refine lv_aload_n hx hb dX7_digestWave_20 rfl (lv_at hl 0 rfl) ?_
            refine lv_aload_n hx hb dX7_digestWave_21 rfl (lv_at hl 0 rfl) ?_
            refine lv_iload_n hx hb dX7_digestWave_22 rfl (lv_at hl 1 rfl) ?_
            refine lv_iload_n hx hb dX7_digestWave_23 rfl (lv_at hl 2 rfl) ?_
            obtain ⟨r30, u31, q29, hf⟩ := bd2_inv hf
            refine ss_callVi (As := [.int x1, .int x2]) hx hb hml hown hK hW kb_X7_toldOfSample kM_RX7_170 rfl (by decide) (c_fx (by decide)) (mX7_toldOfSample l (a1 := x1) (a2 := x2) q29) rfl dX7_digestWave_24 rfl hl.1 (Nat.le_of_ble_eq_true rfl) ⟨Nat.le_of_ble_eq_true rfl, Nat.le_of_ble_eq_true rfl⟩ ⟨Nat.zero_le _, Nat.zero_le _⟩ (fun H locs hW => ?_)
            refine lv_i2l (v := (r30).toInt64) hx hb dX7_digestWave_27 rfl ?_
            obtain ⟨g33, q32, hf⟩ := bd_inv hf
            refine ss_callVv (As := [.long ((r30).toInt64)]) hx hb hml hown hK hW kb_X7_digestOne kM_RX7_226 rfl (by decide) (c_fx (by decide)) (mX7_digestOne l (a1 := ((r30).toInt64)) q32) rfl dX7_digestWave_28 rfl hl.1 (Nat.le_of_ble_eq_true rfl) ⟨Nat.le_of_ble_eq_true rfl, Nat.le_of_ble_eq_true rfl⟩ ⟨Nat.zero_le _, Nat.zero_le _⟩ (fun H locs hW => ?_)
            obtain ⟨x2_34, ex2_34⟩ : ∃ y : Int32, y = (x2 + 1) := ⟨_, rfl⟩
            have hf := nm_use ex2_34 hf
            refine lv_iinc (v := x2_34) (lv' := [(2, .int x2_34), (0, .ref (eA E 9)), (1, .int x1)]) hx hb dX7_digestWave_31 hl (k := 2) rfl (by rw [ex2_34]; rfl) (by decide) rfl (fun ls hl => ?_)
            refine lv_goto (tgt := 14) hx hb dX7_digestWave_34 (by decide) ?_
            exact ih14 x1 x2_34 u31 g33 _ _ _ hW (lv_sub hl [1, 2, 0] rfl) hf
      intro x1 μ dg  H locs ls hW hl hf
      rw [fX7_digestWave_L2] at hf
      refine lv_iload_n hx hb dX7_digestWave_2 rfl (lv_at hl 1 rfl) ?_
      refine lv_aload_n hx hb dX7_digestWave_3 rfl (lv_at hl 0 rfl) ?_
      refine g_M_s hx hb hown hK hW kF_RX7_7 dX7_digestWave_4 ?_
      refine lv_iconst (v := 0) hx hb dX7_digestWave_7 (by decide) ?_
      refine l_M0 (k0 := 0) hx hb hK hW (by decide) (show ¬ ((0 : Int32) < 0 ∨ 295 ≤ (0 : Int32).toNatClampNeg) by decide) dX7_digestWave_8 ?_
      refine lv_icmp_ge (tgt := 43) hx hb dX7_digestWave_9 (by decide) (fun c35 => ?_) (fun c35 => ?_)
      · have hf := br_p c35 hf
        refine lv_iconst (v := 0) hx hb dX7_digestWave_43 (by decide) ?_
        refine lv_istore_n (lv' := [(1, .int 0), (0, .ref (eA E 9))]) hx hb dX7_digestWave_44 rfl hl (by decide) rfl (fun ls hl => ?_)
        exact h45 80 0 μ dg _ _ _ hW (lv_sub hl [1, 0] rfl) hf
      · have hf := br_n c35 hf
        refine lv_iconst (v := 0) hx hb dX7_digestWave_12 (by decide) ?_
        refine lv_istore_n (lv' := [(2, .int 0), (0, .ref (eA E 9)), (1, .int x1)]) hx hb dX7_digestWave_13 rfl hl (by decide) rfl (fun ls hl => ?_)
        exact h14 80 x1 0 μ dg _ _ _ hW (lv_sub hl [1, 2, 0] rfl) hf
  refine lv_iconst (v := 0) hx hb dX7_digestWave_0 (by decide) ?_
  refine lv_istore_n (lv' := [(1, .int 0), (0, .ref (eA E 9))]) hx hb dX7_digestWave_1 rfl hl (by decide) rfl (fun ls hl => ?_)
  exact h2 80 0 μ dg _ _ _ hW (lv_sub hl [1, 0] rfl) hf
def fX7_mean (μ : Sg) : Option (UInt64 × Sg) := bd (fX7_isCoded μ) fun r2 => if r2 = 0 then (some (FP.dconst0, μ)) else (bd2 (fX7_errorOfAll μ) fun r5 u6 => gd ((FP.ddiv (FP.i2d r5) (FP.i2d (u6 0 0))) &&& 0x7fffffffffffffff ≤ 0x7ff0000000000000) <| some ((FP.ddiv (FP.i2d r5) (FP.i2d (u6 0 0))), u6))
set_option maxHeartbeats 4000000 in
set_option maxRecDepth 100000 in
theorem mX7_mean (l : Launch) {E : En} {σ μ : Sg} {dg : Int64}   {r : UInt64} {μ' : Sg} (hf : fX7_mean μ = some (r, μ')) : Met l yX7_mean [.code yX7_mean cX7_mean 1 (some .double)] (Rm 4 90) (va_Pc [.ref (eA E 9)] (Wd E σ μ dg)) (Qd E σ μ' dg r) 0 0 (eP E) := by
  refine ss_of (by decide) (Nat.le_of_ble_eq_true rfl) (fun p e s m below meth c hx hb hr hlk hml hown hK hW ls hl => ?_)
  have hown : s.vm.findClass RX7 = some m.cls := hown
  have hl : lv_has ls 1 [(0, .ref (eA E 9))] := hl
  unfold fX7_mean at hf
  refine lv_aload_n hx hb dX7_mean_0 rfl (lv_at hl 0 rfl) ?_
  obtain ⟨r2, q1, hf⟩ := bd_inv hf
  refine ss_callVi (As := []) hx hb hml hown hK hW kb_X7_isCoded kM_RX7_55 rfl (by decide) (c_fx (by decide)) (mX7_isCoded l  q1) rfl dX7_mean_1 rfl hl.1 (Nat.le_of_ble_eq_true rfl) ⟨Nat.le_of_ble_eq_true rfl, Nat.le_of_ble_eq_true rfl⟩ ⟨Nat.zero_le _, Nat.zero_le _⟩ (fun H locs hW => ?_)
  refine lv_if_eq (tgt := 23) hx hb dX7_mean_4 (by decide) (fun c3 => ?_) (fun c3 => ?_)
  · have hf := br_p c3 hf
    refine lv_dconst0 hx hb dX7_mean_23 ?_
    cases hf
    exact ss_dret hx hb hr hlk hW rfl dX7_mean_24
  · have hf := br_n c3 hf
    refine lv_aload_n hx hb dX7_mean_7 rfl (lv_at hl 0 rfl) ?_
    obtain ⟨r5, u6, q4, hf⟩ := bd2_inv hf
    refine ss_callVi (As := []) hx hb hml hown hK hW kb_X7_errorOfAll kM_RX7_179 rfl (by decide) (c_fx (by decide)) (mX7_errorOfAll l  q4) rfl dX7_mean_8 rfl hl.1 (Nat.le_of_ble_eq_true rfl) ⟨Nat.le_of_ble_eq_true rfl, Nat.le_of_ble_eq_true rfl⟩ ⟨Nat.zero_le _, Nat.zero_le _⟩ (fun H locs hW => ?_)
    refine lv_i2d hx hb dX7_mean_11 ?_
    refine lv_aload_n hx hb dX7_mean_12 rfl (lv_at hl 0 rfl) ?_
    refine g_M_s hx hb hown hK hW kF_RX7_7 dX7_mean_13 ?_
    refine lv_iconst (v := 0) hx hb dX7_mean_16 (by decide) ?_
    refine l_M0 (k0 := 0) hx hb hK hW (by decide) (show ¬ ((0 : Int32) < 0 ∨ 295 ≤ (0 : Int32).toNatClampNeg) by decide) dX7_mean_17 ?_
    refine lv_i2d hx hb dX7_mean_18 ?_
    obtain ⟨hn7, hf⟩ := gd_inv hf
    refine lv_ddiv hx hb dX7_mean_19 hn7 ?_
    refine lv_goto (tgt := 24) hx hb dX7_mean_20 (by decide) ?_
    cases hf
    exact ss_dret hx hb hr hlk hW rfl dX7_mean_24
def fX7_loud_L18  (n : Nat) (x1 : Int32) (x2 : Int32) (x3 : Int32) (μ : Sg) : Option (UInt32 × Sg) := match n with
  | 0 => none
  | n + 1 => if (μ 0 0) ≤ x3 then (if x1 = 0 then (some (3212836864, μ)) else (gd ((FP.fdiv (FP.i2f x2) (FP.i2f x1)) &&& 0x7fffffff ≤ 0x7f800000) <| some ((FP.fdiv (FP.i2f x2) (FP.i2f x1)), μ))) else (gd (¬ ((7 + x3) < 0 ∨ 295 ≤ ((7 + x3)).toNatClampNeg)) <| bd (fX7_square (μ 0 ((7 + x3)).toNatClampNeg)) fun r6 => nm (x2 + r6) fun x2_7 => nm (x3 + 1) fun x3_8 => (fun x1 x2 x3 μ => fX7_loud_L18 n x1 x2 x3 μ) x1 x2_7 x3_8 μ)
def fX7_loud (μ : Sg) : Option (UInt32 × Sg) := bd (fX7_isCoded μ) fun r10 => if r10 = 0 then (some (FP.fconst0, μ)) else (bd2 (fX7_errorOfAll μ) fun r13 u14 => fX7_loud_L18 80 r13 0 0 u14)
set_option maxHeartbeats 4000000 in
set_option maxRecDepth 100000 in
theorem mX7_loud (l : Launch) {E : En} {σ μ : Sg} {dg : Int64}   {r : UInt32} {μ' : Sg} (hf : fX7_loud μ = some (r, μ')) : Met l yX7_loud [.code yX7_loud cX7_loud 4 (some .float)] (Rm 4 90) (va_Pc [.ref (eA E 9)] (Wd E σ μ dg)) (Qf E σ μ' dg r) 0 0 (eP E) := by
  refine ss_of (by decide) (Nat.le_of_ble_eq_true rfl) (fun p e s m below meth c hx hb hr hlk hml hown hK hW ls hl => ?_)
  have hown : s.vm.findClass RX7 = some m.cls := hown
  have hl : lv_has ls 4 [(0, .ref (eA E 9))] := hl
  unfold fX7_loud at hf
  have h18 : ∀ (n18 : Nat) (x1 : Int32) (x2 : Int32) (x3 : Int32) (μ : Sg) (H : Heap) (locs : List Loc) (ls : Array Slot), Wk E σ μ dg s H locs → lv_has ls 4 [(0, .ref (eA E 9)), (1, .int x1), (2, .int x2), (3, .int x3)] → fX7_loud_L18 n18 x1 x2 x3 μ = some (r, μ') → W p l e (Rm 4 90) s m [.ref (eA E 9)].toArray below meth c H locs 0 0 (MQ below (Qf E σ μ' dg r) [.ref (eA E 9)].toArray s 0 0 (eP E)) (F0 m 18 ls []) := by
    intro n18
    induction n18 with
    | zero =>
      intro x1 x2 x3 μ  H locs ls hW hl hf
      exact absurd hf (by simp [fX7_loud_L18])
    | succ n18 ih18 =>
      intro x1 x2 x3 μ  H locs ls hW hl hf
      rw [fX7_loud_L18] at hf
      refine lv_iload_n hx hb dX7_loud_18 rfl (lv_at hl 3 rfl) ?_
      refine lv_aload_n hx hb dX7_loud_19 rfl (lv_at hl 0 rfl) ?_
      refine g_M_s hx hb hown hK hW kF_RX7_7 dX7_loud_20 ?_
      refine lv_iconst (v := 0) hx hb dX7_loud_23 (by decide) ?_
      refine l_M0 (k0 := 0) hx hb hK hW (by decide) (show ¬ ((0 : Int32) < 0 ∨ 295 ≤ (0 : Int32).toNatClampNeg) by decide) dX7_loud_24 ?_
      refine lv_icmp_ge (tgt := 49) hx hb dX7_loud_25 (by decide) (fun c1 => ?_) (fun c1 => ?_)
      · have hf := br_p c1 hf
        refine lv_iload_n hx hb dX7_loud_49 rfl (lv_at hl 1 rfl) ?_
        refine lv_if_ne (tgt := 58) hx hb dX7_loud_50 (by decide) (fun c2 => ?_) (fun c2 => ?_)
        · have hf := br_n c2 hf
          refine lv_iload_n hx hb dX7_loud_58 rfl (lv_at hl 2 rfl) ?_
          refine lv_i2f hx hb dX7_loud_59 ?_
          refine lv_iload_n hx hb dX7_loud_60 rfl (lv_at hl 1 rfl) ?_
          refine lv_i2f hx hb dX7_loud_61 ?_
          obtain ⟨hn3, hf⟩ := gd_inv hf
          refine lv_fdiv hx hb dX7_loud_62 hn3 ?_
          cases hf
          exact ss_fret hx hb hr hlk hW rfl dX7_loud_63
        · have hf := br_p c2 hf
          refine lv_ldcf (own := RX7) hx hb hown (hK.2.1.at kC_RX7_201 _) dX7_loud_53 ?_
          refine lv_goto (tgt := 63) hx hb dX7_loud_55 (by decide) ?_
          cases hf
          exact ss_fret hx hb hr hlk hW rfl dX7_loud_63
      · have hf := br_n c1 hf
        refine lv_iload_n hx hb dX7_loud_28 rfl (lv_at hl 2 rfl) ?_
        refine lv_aload_n hx hb dX7_loud_29 rfl (lv_at hl 0 rfl) ?_
        refine g_M_s hx hb hown hK hW kF_RX7_7 dX7_loud_30 ?_
        refine lv_bipush (v := 7) hx hb dX7_loud_33 (by decide) ?_
        refine lv_iload_n hx hb dX7_loud_35 rfl (lv_at hl 3 rfl) ?_
        refine lv_iadd hx hb dX7_loud_36 ?_
        obtain ⟨hk4, hf⟩ := gd_inv hf
        refine l_M0 hx hb hK hW rfl hk4 dX7_loud_37 ?_
        obtain ⟨r6, q5, hf⟩ := bd_inv hf
        refine ss_callSi (As := [.int (μ 0 ((7 + x3)).toNatClampNeg)]) hx hb hml hown hK hW kb_X7_square kM_RX7_82 (mX7_square l (a0 := (μ 0 ((7 + x3)).toNatClampNeg)) q5) rfl dX7_loud_38 rfl hl.1 (Nat.le_of_ble_eq_true rfl) ⟨Nat.le_of_ble_eq_true rfl, Nat.le_of_ble_eq_true rfl⟩ ⟨Nat.zero_le _, Nat.zero_le _⟩ (fun H locs hW => ?_)
        refine lv_iadd hx hb dX7_loud_41 ?_
        refine lv_topi (fun x2_7 ex2_7 => ?_)
        have hf := nm_use ex2_7 hf
        refine lv_istore_n (lv' := [(2, .int x2_7), (0, .ref (eA E 9)), (1, .int x1), (3, .int x3)]) hx hb dX7_loud_42 rfl hl (by decide) rfl (fun ls hl => ?_)
        obtain ⟨x3_8, ex3_8⟩ : ∃ y : Int32, y = (x3 + 1) := ⟨_, rfl⟩
        have hf := nm_use ex3_8 hf
        refine lv_iinc (v := x3_8) (lv' := [(3, .int x3_8), (2, .int x2_7), (0, .ref (eA E 9)), (1, .int x1)]) hx hb dX7_loud_43 hl (k := 3) rfl (by rw [ex3_8]; rfl) (by decide) rfl (fun ls hl => ?_)
        refine lv_goto (tgt := 18) hx hb dX7_loud_46 (by decide) ?_
        exact ih18 x1 x2_7 x3_8 μ _ _ _ hW (lv_sub hl [2, 3, 1, 0] rfl) hf
  refine lv_aload_n hx hb dX7_loud_0 rfl (lv_at hl 0 rfl) ?_
  obtain ⟨r10, q9, hf⟩ := bd_inv hf
  refine ss_callVi (As := []) hx hb hml hown hK hW kb_X7_isCoded kM_RX7_55 rfl (by decide) (c_fx (by decide)) (mX7_isCoded l  q9) rfl dX7_loud_1 rfl hl.1 (Nat.le_of_ble_eq_true rfl) ⟨Nat.le_of_ble_eq_true rfl, Nat.le_of_ble_eq_true rfl⟩ ⟨Nat.zero_le _, Nat.zero_le _⟩ (fun H locs hW => ?_)
  refine lv_if_ne (tgt := 9) hx hb dX7_loud_4 (by decide) (fun c11 => ?_) (fun c11 => ?_)
  · have hf := br_n c11 hf
    refine lv_aload_n hx hb dX7_loud_9 rfl (lv_at hl 0 rfl) ?_
    obtain ⟨r13, u14, q12, hf⟩ := bd2_inv hf
    refine ss_callVi (As := []) hx hb hml hown hK hW kb_X7_errorOfAll kM_RX7_179 rfl (by decide) (c_fx (by decide)) (mX7_errorOfAll l  q12) rfl dX7_loud_10 rfl hl.1 (Nat.le_of_ble_eq_true rfl) ⟨Nat.le_of_ble_eq_true rfl, Nat.le_of_ble_eq_true rfl⟩ ⟨Nat.zero_le _, Nat.zero_le _⟩ (fun H locs hW => ?_)
    refine lv_istore_n (lv' := [(1, .int r13), (0, .ref (eA E 9))]) hx hb dX7_loud_13 rfl hl (by decide) rfl (fun ls hl => ?_)
    refine lv_iconst (v := 0) hx hb dX7_loud_14 (by decide) ?_
    refine lv_istore_n (lv' := [(2, .int 0), (1, .int r13), (0, .ref (eA E 9))]) hx hb dX7_loud_15 rfl hl (by decide) rfl (fun ls hl => ?_)
    refine lv_iconst (v := 0) hx hb dX7_loud_16 (by decide) ?_
    refine lv_istore_n (lv' := [(3, .int 0), (2, .int 0), (1, .int r13), (0, .ref (eA E 9))]) hx hb dX7_loud_17 rfl hl (by decide) rfl (fun ls hl => ?_)
    exact h18 80 r13 0 0 u14 _ _ _ hW (lv_sub hl [3, 2, 1, 0] rfl) hf
  · have hf := br_p c11 hf
    refine lv_fconst0 hx hb dX7_loud_7 ?_
    cases hf
    exact ss_fret hx hb hr hlk hW rfl dX7_loud_8
def fX7_floatBitsOf_L40 (a0 : UInt32) (n : Nat) (x1 : Int32) (x2 : UInt32) : Option Int32 := match n with
  | 0 => none
  | n + 1 => if (Op.cmpValue (FP.fcmp x2 FP.fconst2) .l) < 0 then (gd ((FP.fsub x2 FP.fconst1) &&& 0x7fffffff ≤ 0x7f800000) <| gd ((FP.fmul (FP.fsub x2 FP.fconst1) 1258291200) &&& 0x7fffffff ≤ 0x7f800000) <| nm ((x1 * 8388608) + (FP.f2i (FP.fmul (FP.fsub x2 FP.fconst1) 1258291200))) fun x3_4 => if 0 ≤ (Op.cmpValue (FP.fcmp a0 FP.fconst0) .g) then (some x3_4) else (some (x3_4 ||| (-2147483648)))) else (gd ((FP.fmul x2 1056964608) &&& 0x7fffffff ≤ 0x7f800000) <| nm (FP.fmul x2 1056964608) fun x2_7 => nm (x1 + 1) fun x1_8 => (fun x1 x2 => fX7_floatBitsOf_L40 a0 n x1 x2) x1_8 x2_7)
def fX7_floatBitsOf_L24 (a0 : UInt32) (n : Nat) (x1 : Int32) (x2 : UInt32) : Option Int32 := match n with
  | 0 => none
  | n + 1 => if 0 ≤ (Op.cmpValue (FP.fcmp x2 FP.fconst1) .g) then (fX7_floatBitsOf_L40 a0 80 x1 x2) else (gd ((FP.fmul x2 FP.fconst2) &&& 0x7fffffff ≤ 0x7f800000) <| nm (FP.fmul x2 FP.fconst2) fun x2_11 => nm (x1 + (-1)) fun x1_12 => (fun x1 x2 => fX7_floatBitsOf_L24 a0 n x1 x2) x1_12 x2_11)
def fX7_floatBitsOf (a0 : UInt32) : Option Int32 := if (Op.cmpValue (FP.fcmp a0 FP.fconst0) .l) = 0 then (some 0) else (if 0 ≤ (Op.cmpValue (FP.fcmp a0 FP.fconst0) .g) then (fX7_floatBitsOf_L24 a0 80 127 a0) else (nm (FP.fneg a0) fun x2_15 => fX7_floatBitsOf_L24 a0 80 127 x2_15))
set_option maxHeartbeats 4000000 in
set_option maxRecDepth 100000 in
theorem mX7_floatBitsOf (l : Launch) {E : En} {σ μ : Sg} {dg : Int64} {a0 : UInt32}  {r : Int32} (hf : fX7_floatBitsOf a0 = some r) : Met l yX7_floatBitsOf [.code yX7_floatBitsOf cX7_floatBitsOf 4 (some .int)] (Rm 0 0) (va_Pc [.float a0] (Wd E σ μ dg)) (Qi E σ μ dg r) 0 0 (eP E) := by
  refine ss_of (by decide) (Nat.le_of_ble_eq_true rfl) (fun p e s m below meth c hx hb hr hlk hml hown hK hW ls hl => ?_)
  have hown : s.vm.findClass RX7 = some m.cls := hown
  have hl : lv_has ls 4 [(0, .float a0)] := hl
  unfold fX7_floatBitsOf at hf
  have h40 : ∀ (n40 : Nat) (x1 : Int32) (x2 : UInt32) (H : Heap) (locs : List Loc) (ls : Array Slot), Wk E σ μ dg s H locs → lv_has ls 4 [(0, .float a0), (1, .int x1), (2, .float x2)] → fX7_floatBitsOf_L40 a0 n40 x1 x2 = some r → W p l e (Rm 0 0) s m [.float a0].toArray below meth c H locs 0 0 (MQ below (Qi E σ μ dg r) [.float a0].toArray s 0 0 (eP E)) (F0 m 40 ls []) := by
    intro n40
    induction n40 with
    | zero =>
      intro x1 x2  H locs ls hW hl hf
      exact absurd hf (by simp [fX7_floatBitsOf_L40])
    | succ n40 ih40 =>
      intro x1 x2  H locs ls hW hl hf
      rw [fX7_floatBitsOf_L40] at hf
      refine lv_fload_n hx hb dX7_floatBitsOf_40 rfl (lv_at hl 2 rfl) ?_
      refine lv_fconst2 hx hb dX7_floatBitsOf_41 ?_
      refine lv_fcmp hx hb dX7_floatBitsOf_42 ?_
      refine lv_if_lt (tgt := 57) hx hb dX7_floatBitsOf_43 (by decide) (fun c1 => ?_) (fun c1 => ?_)
      · have hf := br_p c1 hf
        refine lv_iload_n hx hb dX7_floatBitsOf_57 rfl (lv_at hl 1 rfl) ?_
        refine lv_ldc (own := RX7) hx hb hown (hK.2.1.at kC_RX7_217 _) dX7_floatBitsOf_58 ?_
        refine lv_imul hx hb dX7_floatBitsOf_60 ?_
        refine lv_fload_n hx hb dX7_floatBitsOf_61 rfl (lv_at hl 2 rfl) ?_
        refine lv_fconst1 hx hb dX7_floatBitsOf_62 ?_
        obtain ⟨hn2, hf⟩ := gd_inv hf
        refine lv_fsub hx hb dX7_floatBitsOf_63 hn2 ?_
        refine lv_ldcf (own := RX7) hx hb hown (hK.2.1.at kC_RX7_218 _) dX7_floatBitsOf_64 ?_
        obtain ⟨hn3, hf⟩ := gd_inv hf
        refine lv_fmul hx hb dX7_floatBitsOf_66 hn3 ?_
        refine lv_f2i hx hb dX7_floatBitsOf_67 ?_
        refine lv_iadd hx hb dX7_floatBitsOf_68 ?_
        refine lv_topi (fun x3_4 ex3_4 => ?_)
        have hf := nm_use ex3_4 hf
        refine lv_istore_n (lv' := [(3, .int x3_4), (0, .float a0), (1, .int x1), (2, .float x2)]) hx hb dX7_floatBitsOf_69 rfl hl (by decide) rfl (fun ls hl => ?_)
        refine lv_fload_n hx hb dX7_floatBitsOf_70 rfl (lv_at hl 1 rfl) ?_
        refine lv_fconst0 hx hb dX7_floatBitsOf_71 ?_
        refine lv_fcmp hx hb dX7_floatBitsOf_72 ?_
        refine lv_if_ge (tgt := 83) hx hb dX7_floatBitsOf_73 (by decide) (fun c5 => ?_) (fun c5 => ?_)
        · have hf := br_p c5 hf
          refine lv_iload_n hx hb dX7_floatBitsOf_83 rfl (lv_at hl 0 rfl) ?_
          exact ss_iret hx hb hr hlk hW (Option.some.inj hf) dX7_floatBitsOf_84
        · have hf := br_n c5 hf
          refine lv_iload_n hx hb dX7_floatBitsOf_76 rfl (lv_at hl 0 rfl) ?_
          refine lv_ldc (own := RX7) hx hb hown (hK.2.1.at kC_RX7_219 _) dX7_floatBitsOf_77 ?_
          refine lv_ior hx hb dX7_floatBitsOf_79 ?_
          refine lv_goto (tgt := 84) hx hb dX7_floatBitsOf_80 (by decide) ?_
          exact ss_iret hx hb hr hlk hW (Option.some.inj hf) dX7_floatBitsOf_84
      · have hf := br_n c1 hf
        refine lv_fload_n hx hb dX7_floatBitsOf_46 rfl (lv_at hl 2 rfl) ?_
        refine lv_ldcf (own := RX7) hx hb hown (hK.2.1.at kC_RX7_216 _) dX7_floatBitsOf_47 ?_
        obtain ⟨hn6, hf⟩ := gd_inv hf
        refine lv_fmul hx hb dX7_floatBitsOf_49 hn6 ?_
        refine lv_topf (fun x2_7 ex2_7 => ?_)
        have hf := nm_use ex2_7 hf
        refine lv_fstore_n (lv' := [(2, .float x2_7), (0, .float a0), (1, .int x1)]) hx hb dX7_floatBitsOf_50 rfl hl (by decide) rfl (fun ls hl => ?_)
        obtain ⟨x1_8, ex1_8⟩ : ∃ y : Int32, y = (x1 + 1) := ⟨_, rfl⟩
        have hf := nm_use ex1_8 hf
        refine lv_iinc (v := x1_8) (lv' := [(1, .int x1_8), (2, .float x2_7), (0, .float a0)]) hx hb dX7_floatBitsOf_51 hl (k := 2) rfl (by rw [ex1_8]; rfl) (by decide) rfl (fun ls hl => ?_)
        refine lv_goto (tgt := 40) hx hb dX7_floatBitsOf_54 (by decide) ?_
        exact ih40 x1_8 x2_7 _ _ _ hW (lv_sub hl [2, 0, 1] rfl) hf
  have h24 : ∀ (n24 : Nat) (x1 : Int32) (x2 : UInt32) (H : Heap) (locs : List Loc) (ls : Array Slot), Wk E σ μ dg s H locs → lv_has ls 4 [(0, .float a0), (1, .int x1), (2, .float x2)] → fX7_floatBitsOf_L24 a0 n24 x1 x2 = some r → W p l e (Rm 0 0) s m [.float a0].toArray below meth c H locs 0 0 (MQ below (Qi E σ μ dg r) [.float a0].toArray s 0 0 (eP E)) (F0 m 24 ls []) := by
    intro n24
    induction n24 with
    | zero =>
      intro x1 x2  H locs ls hW hl hf
      exact absurd hf (by simp [fX7_floatBitsOf_L24])
    | succ n24 ih24 =>
      intro x1 x2  H locs ls hW hl hf
      rw [fX7_floatBitsOf_L24] at hf
      refine lv_fload_n hx hb dX7_floatBitsOf_24 rfl (lv_at hl 2 rfl) ?_
      refine lv_fconst1 hx hb dX7_floatBitsOf_25 ?_
      refine lv_fcmp hx hb dX7_floatBitsOf_26 ?_
      refine lv_if_ge (tgt := 40) hx hb dX7_floatBitsOf_27 (by decide) (fun c9 => ?_) (fun c9 => ?_)
      · have hf := br_p c9 hf
        exact h40 80 x1 x2 _ _ _ hW (lv_sub hl [0, 1, 2] rfl) hf
      · have hf := br_n c9 hf
        refine lv_fload_n hx hb dX7_floatBitsOf_30 rfl (lv_at hl 2 rfl) ?_
        refine lv_fconst2 hx hb dX7_floatBitsOf_31 ?_
        obtain ⟨hn10, hf⟩ := gd_inv hf
        refine lv_fmul hx hb dX7_floatBitsOf_32 hn10 ?_
        refine lv_topf (fun x2_11 ex2_11 => ?_)
        have hf := nm_use ex2_11 hf
        refine lv_fstore_n (lv' := [(2, .float x2_11), (0, .float a0), (1, .int x1)]) hx hb dX7_floatBitsOf_33 rfl hl (by decide) rfl (fun ls hl => ?_)
        obtain ⟨x1_12, ex1_12⟩ : ∃ y : Int32, y = (x1 + (-1)) := ⟨_, rfl⟩
        have hf := nm_use ex1_12 hf
        refine lv_iinc (v := x1_12) (lv' := [(1, .int x1_12), (2, .float x2_11), (0, .float a0)]) hx hb dX7_floatBitsOf_34 hl (k := 2) rfl (by rw [ex1_12]; rfl) (by decide) rfl (fun ls hl => ?_)
        refine lv_goto (tgt := 24) hx hb dX7_floatBitsOf_37 (by decide) ?_
        exact ih24 x1_12 x2_11 _ _ _ hW (lv_sub hl [2, 0, 1] rfl) hf
  refine lv_fload_n hx hb dX7_floatBitsOf_0 rfl (lv_at hl 0 rfl) ?_
  refine lv_fconst0 hx hb dX7_floatBitsOf_1 ?_
  refine lv_fcmp hx hb dX7_floatBitsOf_2 ?_
  refine lv_if_ne (tgt := 8) hx hb dX7_floatBitsOf_3 (by decide) (fun c13 => ?_) (fun c13 => ?_)
  · have hf := br_n c13 hf
    refine lv_bipush (v := 127) hx hb dX7_floatBitsOf_8 (by decide) ?_
    refine lv_istore_n (lv' := [(1, .int 127), (0, .float a0)]) hx hb dX7_floatBitsOf_10 rfl hl (by decide) rfl (fun ls hl => ?_)
    refine lv_fload_n hx hb dX7_floatBitsOf_11 rfl (lv_at hl 1 rfl) ?_
    refine lv_fconst0 hx hb dX7_floatBitsOf_12 ?_
    refine lv_fcmp hx hb dX7_floatBitsOf_13 ?_
    refine lv_if_ge (tgt := 22) hx hb dX7_floatBitsOf_14 (by decide) (fun c14 => ?_) (fun c14 => ?_)
    · have hf := br_p c14 hf
      refine lv_fload_n hx hb dX7_floatBitsOf_22 rfl (lv_at hl 1 rfl) ?_
      refine lv_fstore_n (lv' := [(2, .float a0), (1, .int 127), (0, .float a0)]) hx hb dX7_floatBitsOf_23 rfl hl (by decide) rfl (fun ls hl => ?_)
      exact h24 80 127 a0 _ _ _ hW (lv_sub hl [2, 1, 0] rfl) hf
    · have hf := br_n c14 hf
      refine lv_fload_n hx hb dX7_floatBitsOf_17 rfl (lv_at hl 1 rfl) ?_
      refine lv_fneg hx hb dX7_floatBitsOf_18 ?_
      refine lv_goto (tgt := 23) hx hb dX7_floatBitsOf_19 (by decide) ?_
      refine lv_topf (fun x2_15 ex2_15 => ?_)
      have hf := nm_use ex2_15 hf
      refine lv_fstore_n (lv' := [(2, .float x2_15), (1, .int 127), (0, .float a0)]) hx hb dX7_floatBitsOf_23 rfl hl (by decide) rfl (fun ls hl => ?_)
      exact h24 80 127 x2_15 _ _ _ hW (lv_sub hl [2, 1, 0] rfl) hf
  · have hf := br_p c13 hf
    refine lv_iconst (v := 0) hx hb dX7_floatBitsOf_6 (by decide) ?_
    exact ss_iret hx hb hr hlk hW (Option.some.inj hf) dX7_floatBitsOf_7
def fX7_digest_L136  (n : Nat) (x1 : Int32) (μ : Sg) (dg : Int64) : Option (Int64 × Sg × Int64) := match n with
  | 0 => none
  | n + 1 => if (μ 20 7) ≤ x1 then (some (dg, μ, dg)) else (gd (¬ (x1 < 0 ∨ 40 ≤ (x1).toNatClampNeg)) <| bd (fX7_digestOne (((μ 4 (x1).toNatClampNeg)).toInt64) dg) fun g4 => nm (x1 + 1) fun x1_5 => (fun x1 μ dg => fX7_digest_L136 n x1 μ dg) x1_5 μ g4)
def fX7_digest_b122  (k0 : Int64) (μ : Sg) (dg : Int64) : Option (Int64 × Sg × Int64) := bd (fX7_digestOne k0 dg) fun g7 => bd (fX7_digestOne (((μ 20 7)).toInt64) g7) fun g9 => fX7_digest_L136 80 0 μ g9
def fX7_digest_b104  (k0 : Int64) (μ : Sg) (dg : Int64) : Option (Int64 × Sg × Int64) := bd (fX7_digestOne k0 dg) fun g11 => if (μ 3 1) = 0 then (fX7_digest_b122 0 μ g11) else (fX7_digest_b122 1 μ g11)
def fX7_digest_L38  (n : Nat) (x1 : Int32) (μ : Sg) (dg : Int64) : Option (Int64 × Sg × Int64) := match n with
  | 0 => none
  | n + 1 => if 3 ≤ x1 then (bd2 (fX7_digestWave μ dg) fun u15 g16 => bd2 (fX7_mean u15) fun r18 u19 => bd (fX7_bitsOf r18) fun r21 => bd (fX7_digestOne r21 g16) fun g23 => bd2 (fX7_loud u19) fun r25 u26 => bd (fX7_floatBitsOf r25) fun r28 => bd (fX7_digestOne ((r28).toInt64) g23) fun g30 => if (u26 3 0) = 0 then (fX7_digest_b104 0 u26 g30) else (fX7_digest_b104 1 u26 g30)) else (gd (¬ ((2 + x1) < 0 ∨ 295 ≤ ((2 + x1)).toNatClampNeg)) <| bd (fX7_digestOne (((μ 0 ((2 + x1)).toNatClampNeg)).toInt64) dg) fun g34 => nm (x1 + 1) fun x1_35 => (fun x1 μ dg => fX7_digest_L38 n x1 μ dg) x1_35 μ g34)
def fX7_digest_L14  (n : Nat) (x1 : Int32) (μ : Sg) (dg : Int64) : Option (Int64 × Sg × Int64) := match n with
  | 0 => none
  | n + 1 => if 12 ≤ x1 then (fX7_digest_L38 80 0 μ dg) else (bd2 (fX7_counted x1 μ) fun r38 u39 => bd (fX7_digestOne ((r38).toInt64) dg) fun g41 => nm (x1 + 1) fun x1_42 => (fun x1 μ dg => fX7_digest_L14 n x1 μ dg) x1_42 u39 g41)
def fX7_digest (μ : Sg) (dg : Int64) : Option (Int64 × Sg × Int64) := nm (up2 μ 20 0 0) fun u43 => nm 3329 fun g44 => fX7_digest_L14 80 0 u43 g44
set_option maxHeartbeats 4000000 in
set_option maxRecDepth 100000 in
theorem mX7_digest (l : Launch) {E : En} {σ μ : Sg} {dg : Int64}   {r : Int64} {μ' : Sg} {dg' : Int64} (hf : fX7_digest μ dg = some (r, μ', dg')) : Met l yX7_digest [.code yX7_digest cX7_digest 2 (some .long)] (Rm 6 137) (va_Pc [.ref (eA E 9)] (Wd E σ μ dg)) (Ql E σ μ' dg' r) 0 0 (eP E) := by
  refine ss_of (by decide) (Nat.le_of_ble_eq_true rfl) (fun p e s m below meth c hx hb hr hlk hml hown hK hW ls hl => ?_)
  have hown : s.vm.findClass RX7 = some m.cls := hown
  have hl : lv_has ls 2 [(0, .ref (eA E 9))] := hl
  unfold fX7_digest at hf
  have h136 : ∀ (n136 : Nat) (x1 : Int32) (μ : Sg) (dg : Int64) (H : Heap) (locs : List Loc) (ls : Array Slot), Wk E σ μ dg s H locs → lv_has ls 2 [(0, .ref (eA E 9)), (1, .int x1)] → fX7_digest_L136 n136 x1 μ dg = some (r, μ', dg') → W p l e (Rm 6 137) s m [.ref (eA E 9)].toArray below meth c H locs 0 0 (MQ below (Ql E σ μ' dg' r) [.ref (eA E 9)].toArray s 0 0 (eP E)) (F0 m 136 ls []) := by
    intro n136
    induction n136 with
    | zero =>
      intro x1 μ dg  H locs ls hW hl hf
      exact absurd hf (by simp [fX7_digest_L136])
    | succ n136 ih136 =>
      intro x1 μ dg  H locs ls hW hl hf
      rw [fX7_digest_L136] at hf
      refine lv_iload_n hx hb dX7_digest_136 rfl (lv_at hl 1 rfl) ?_
      refine lv_aload_n hx hb dX7_digest_137 rfl (lv_at hl 0 rfl) ?_
      refine g_M_length hx hb hown hK hW kF_RX7_125 dX7_digest_138 ?_
      refine lv_icmp_ge (tgt := 161) hx hb dX7_digest_141 (by decide) (fun c1 => ?_) (fun c1 => ?_)
      · have hf := br_p c1 hf
        refine lv_aload_n hx hb dX7_digest_161 rfl (lv_at hl 0 rfl) ?_
        refine g_M_digested hx hb hown hK hW kF_RX7_222 dX7_digest_162 ?_
        cases hf
        exact ss_lret hx hb hr hlk hW rfl dX7_digest_165
      · have hf := br_n c1 hf
        refine lv_aload_n hx hb dX7_digest_144 rfl (lv_at hl 0 rfl) ?_
        refine lv_aload_n hx hb dX7_digest_145 rfl (lv_at hl 0 rfl) ?_
        refine g_M_text hx hb hown hK hW kF_RX7_23 dX7_digest_146 ?_
        refine lv_iload_n hx hb dX7_digest_149 rfl (lv_at hl 1 rfl) ?_
        obtain ⟨hk2, hf⟩ := gd_inv hf
        refine l_M4 hx hb hK hW rfl hk2 dX7_digest_150 ?_
        refine lv_i2l (v := ((μ 4 (x1).toNatClampNeg)).toInt64) hx hb dX7_digest_151 rfl ?_
        obtain ⟨g4, q3, hf⟩ := bd_inv hf
        refine ss_callVv (As := [.long (((μ 4 (x1).toNatClampNeg)).toInt64)]) hx hb hml hown hK hW kb_X7_digestOne kM_RX7_226 rfl (by decide) (c_fx (by decide)) (mX7_digestOne l (a1 := (((μ 4 (x1).toNatClampNeg)).toInt64)) q3) rfl dX7_digest_152 rfl hl.1 (Nat.le_of_ble_eq_true rfl) ⟨Nat.le_of_ble_eq_true rfl, Nat.le_of_ble_eq_true rfl⟩ ⟨Nat.zero_le _, Nat.zero_le _⟩ (fun H locs hW => ?_)
        obtain ⟨x1_5, ex1_5⟩ : ∃ y : Int32, y = (x1 + 1) := ⟨_, rfl⟩
        have hf := nm_use ex1_5 hf
        refine lv_iinc (v := x1_5) (lv' := [(1, .int x1_5), (0, .ref (eA E 9))]) hx hb dX7_digest_155 hl (k := 1) rfl (by rw [ex1_5]; rfl) (by decide) rfl (fun ls hl => ?_)
        refine lv_goto (tgt := 136) hx hb dX7_digest_158 (by decide) ?_
        exact ih136 x1_5 μ g4 _ _ _ hW (lv_sub hl [1, 0] rfl) hf
  have h122 : ∀ (k0 : Int64) (μ : Sg) (dg : Int64) (H : Heap) (locs : List Loc) (ls : Array Slot), Wk E σ μ dg s H locs → lv_has ls 2 [(0, .ref (eA E 9))] → fX7_digest_b122 k0 μ dg = some (r, μ', dg') → W p l e (Rm 6 137) s m [.ref (eA E 9)].toArray below meth c H locs 0 0 (MQ below (Ql E σ μ' dg' r) [.ref (eA E 9)].toArray s 0 0 (eP E)) (F0 m 122 ls [.long k0, .ref (eA E 9)]) := by
    intro k0 μ dg  H locs ls hW hl hf
    unfold fX7_digest_b122 at hf
    obtain ⟨g7, q6, hf⟩ := bd_inv hf
    refine ss_callVv (As := [.long k0]) hx hb hml hown hK hW kb_X7_digestOne kM_RX7_226 rfl (by decide) (c_fx (by decide)) (mX7_digestOne l (a1 := k0) q6) rfl dX7_digest_122 rfl hl.1 (Nat.le_of_ble_eq_true rfl) ⟨Nat.le_of_ble_eq_true rfl, Nat.le_of_ble_eq_true rfl⟩ ⟨Nat.zero_le _, Nat.zero_le _⟩ (fun H locs hW => ?_)
    refine lv_aload_n hx hb dX7_digest_125 rfl (lv_at hl 0 rfl) ?_
    refine lv_aload_n hx hb dX7_digest_126 rfl (lv_at hl 0 rfl) ?_
    refine g_M_length hx hb hown hK hW kF_RX7_125 dX7_digest_127 ?_
    refine lv_i2l (v := ((μ 20 7)).toInt64) hx hb dX7_digest_130 rfl ?_
    obtain ⟨g9, q8, hf⟩ := bd_inv hf
    refine ss_callVv (As := [.long (((μ 20 7)).toInt64)]) hx hb hml hown hK hW kb_X7_digestOne kM_RX7_226 rfl (by decide) (c_fx (by decide)) (mX7_digestOne l (a1 := (((μ 20 7)).toInt64)) q8) rfl dX7_digest_131 rfl hl.1 (Nat.le_of_ble_eq_true rfl) ⟨Nat.le_of_ble_eq_true rfl, Nat.le_of_ble_eq_true rfl⟩ ⟨Nat.zero_le _, Nat.zero_le _⟩ (fun H locs hW => ?_)
    refine lv_iconst (v := 0) hx hb dX7_digest_134 (by decide) ?_
    refine lv_istore_n (lv' := [(1, .int 0), (0, .ref (eA E 9))]) hx hb dX7_digest_135 rfl hl (by decide) rfl (fun ls hl => ?_)
    exact h136 80 0 μ g9 _ _ _ hW (lv_sub hl [1, 0] rfl) hf
  have h104 : ∀ (k0 : Int64) (μ : Sg) (dg : Int64) (H : Heap) (locs : List Loc) (ls : Array Slot), Wk E σ μ dg s H locs → lv_has ls 2 [(0, .ref (eA E 9))] → fX7_digest_b104 k0 μ dg = some (r, μ', dg') → W p l e (Rm 6 137) s m [.ref (eA E 9)].toArray below meth c H locs 0 0 (MQ below (Ql E σ μ' dg' r) [.ref (eA E 9)].toArray s 0 0 (eP E)) (F0 m 104 ls [.long k0, .ref (eA E 9)]) := by
    intro k0 μ dg  H locs ls hW hl hf
    unfold fX7_digest_b104 at hf
    obtain ⟨g11, q10, hf⟩ := bd_inv hf
    refine ss_callVv (As := [.long k0]) hx hb hml hown hK hW kb_X7_digestOne kM_RX7_226 rfl (by decide) (c_fx (by decide)) (mX7_digestOne l (a1 := k0) q10) rfl dX7_digest_104 rfl hl.1 (Nat.le_of_ble_eq_true rfl) ⟨Nat.le_of_ble_eq_true rfl, Nat.le_of_ble_eq_true rfl⟩ ⟨Nat.zero_le _, Nat.zero_le _⟩ (fun H locs hW => ?_)
    refine lv_aload_n hx hb dX7_digest_107 rfl (lv_at hl 0 rfl) ?_
    refine lv_aload_n hx hb dX7_digest_108 rfl (lv_at hl 0 rfl) ?_
    refine g_M_isKept hx hb hown hK hW kF_RX7_19 dX7_digest_109 ?_
    refine lv_iconst (v := 1) hx hb dX7_digest_112 (by decide) ?_
    refine l_M3 (k0 := 1) hx hb hK hW (by decide) (show ¬ ((1 : Int32) < 0 ∨ 2 ≤ (1 : Int32).toNatClampNeg) by decide) dX7_digest_113 ?_
    refine lv_if_eq (tgt := 121) hx hb dX7_digest_114 (by decide) (fun c12 => ?_) (fun c12 => ?_)
    · have hf := br_p c12 hf
      refine lv_lconst (v := 0) hx hb dX7_digest_121 (by decide) ?_
      exact h122 0 μ g11 _ _ _ hW (lv_sub hl [0] rfl) hf
    · have hf := br_n c12 hf
      refine lv_lconst (v := 1) hx hb dX7_digest_117 (by decide) ?_
      refine lv_goto (tgt := 122) hx hb dX7_digest_118 (by decide) ?_
      exact h122 1 μ g11 _ _ _ hW (lv_sub hl [0] rfl) hf
  have h38 : ∀ (n38 : Nat) (x1 : Int32) (μ : Sg) (dg : Int64) (H : Heap) (locs : List Loc) (ls : Array Slot), Wk E σ μ dg s H locs → lv_has ls 2 [(0, .ref (eA E 9)), (1, .int x1)] → fX7_digest_L38 n38 x1 μ dg = some (r, μ', dg') → W p l e (Rm 6 137) s m [.ref (eA E 9)].toArray below meth c H locs 0 0 (MQ below (Ql E σ μ' dg' r) [.ref (eA E 9)].toArray s 0 0 (eP E)) (F0 m 38 ls []) := by
    intro n38
    induction n38 with
    | zero =>
      intro x1 μ dg  H locs ls hW hl hf
      exact absurd hf (by simp [fX7_digest_L38])
    | succ n38 ih38 =>
      intro x1 μ dg  H locs ls hW hl hf
      rw [fX7_digest_L38] at hf
      refine lv_iload_n hx hb dX7_digest_38 rfl (lv_at hl 1 rfl) ?_
      refine lv_iconst (v := 3) hx hb dX7_digest_39 (by decide) ?_
      refine lv_icmp_ge (tgt := 62) hx hb dX7_digest_40 (by decide) (fun c13 => ?_) (fun c13 => ?_)
      · have hf := br_p c13 hf
        refine lv_aload_n hx hb dX7_digest_62 rfl (lv_at hl 0 rfl) ?_
        obtain ⟨u15, g16, q14, hf⟩ := bd2_inv hf
        refine ss_callVv (As := []) hx hb hml hown hK hW kb_X7_digestWave kM_RX7_232 rfl (by decide) (c_fx (by decide)) (mX7_digestWave l  q14) rfl dX7_digest_63 rfl hl.1 (Nat.le_of_ble_eq_true rfl) ⟨Nat.le_of_ble_eq_true rfl, Nat.le_of_ble_eq_true rfl⟩ ⟨Nat.zero_le _, Nat.zero_le _⟩ (fun H locs hW => ?_)
        refine lv_aload_n hx hb dX7_digest_66 rfl (lv_at hl 0 rfl) ?_
        refine lv_aload_n hx hb dX7_digest_67 rfl (lv_at hl 0 rfl) ?_
        obtain ⟨r18, u19, q17, hf⟩ := bd2_inv hf
        refine ss_callVd (As := []) hx hb hml hown hK hW kb_X7_mean kM_RX7_197 rfl (by decide) (c_fx (by decide)) (mX7_mean l  q17) rfl dX7_digest_68 rfl hl.1 (Nat.le_of_ble_eq_true rfl) ⟨Nat.le_of_ble_eq_true rfl, Nat.le_of_ble_eq_true rfl⟩ ⟨Nat.zero_le _, Nat.zero_le _⟩ (fun H locs hW => ?_)
        obtain ⟨r21, q20, hf⟩ := bd_inv hf
        refine ss_callSl (As := [.double r18]) hx hb hml hown hK hW kb_X7_bitsOf kM_RX7_235 (mX7_bitsOf l (a0 := r18) q20) rfl dX7_digest_71 rfl hl.1 (Nat.le_of_ble_eq_true rfl) ⟨Nat.le_of_ble_eq_true rfl, Nat.le_of_ble_eq_true rfl⟩ ⟨Nat.zero_le _, Nat.zero_le _⟩ (fun H locs hW => ?_)
        obtain ⟨g23, q22, hf⟩ := bd_inv hf
        refine ss_callVv (As := [.long r21]) hx hb hml hown hK hW kb_X7_digestOne kM_RX7_226 rfl (by decide) (c_fx (by decide)) (mX7_digestOne l (a1 := r21) q22) rfl dX7_digest_74 rfl hl.1 (Nat.le_of_ble_eq_true rfl) ⟨Nat.le_of_ble_eq_true rfl, Nat.le_of_ble_eq_true rfl⟩ ⟨Nat.zero_le _, Nat.zero_le _⟩ (fun H locs hW => ?_)
        refine lv_aload_n hx hb dX7_digest_77 rfl (lv_at hl 0 rfl) ?_
        refine lv_aload_n hx hb dX7_digest_78 rfl (lv_at hl 0 rfl) ?_
        obtain ⟨r25, u26, q24, hf⟩ := bd2_inv hf
        refine ss_callVf (As := []) hx hb hml hown hK hW kb_X7_loud kM_RX7_202 rfl (by decide) (c_fx (by decide)) (mX7_loud l  q24) rfl dX7_digest_79 rfl hl.1 (Nat.le_of_ble_eq_true rfl) ⟨Nat.le_of_ble_eq_true rfl, Nat.le_of_ble_eq_true rfl⟩ ⟨Nat.zero_le _, Nat.zero_le _⟩ (fun H locs hW => ?_)
        obtain ⟨r28, q27, hf⟩ := bd_inv hf
        refine ss_callSi (As := [.float r25]) hx hb hml hown hK hW kb_X7_floatBitsOf kM_RX7_239 (mX7_floatBitsOf l (a0 := r25) q27) rfl dX7_digest_82 rfl hl.1 (Nat.le_of_ble_eq_true rfl) ⟨Nat.le_of_ble_eq_true rfl, Nat.le_of_ble_eq_true rfl⟩ ⟨Nat.zero_le _, Nat.zero_le _⟩ (fun H locs hW => ?_)
        refine lv_i2l (v := (r28).toInt64) hx hb dX7_digest_85 rfl ?_
        obtain ⟨g30, q29, hf⟩ := bd_inv hf
        refine ss_callVv (As := [.long ((r28).toInt64)]) hx hb hml hown hK hW kb_X7_digestOne kM_RX7_226 rfl (by decide) (c_fx (by decide)) (mX7_digestOne l (a1 := ((r28).toInt64)) q29) rfl dX7_digest_86 rfl hl.1 (Nat.le_of_ble_eq_true rfl) ⟨Nat.le_of_ble_eq_true rfl, Nat.le_of_ble_eq_true rfl⟩ ⟨Nat.zero_le _, Nat.zero_le _⟩ (fun H locs hW => ?_)
        refine lv_aload_n hx hb dX7_digest_89 rfl (lv_at hl 0 rfl) ?_
        refine lv_aload_n hx hb dX7_digest_90 rfl (lv_at hl 0 rfl) ?_
        refine g_M_isKept hx hb hown hK hW kF_RX7_19 dX7_digest_91 ?_
        refine lv_iconst (v := 0) hx hb dX7_digest_94 (by decide) ?_
        refine l_M3 (k0 := 0) hx hb hK hW (by decide) (show ¬ ((0 : Int32) < 0 ∨ 2 ≤ (0 : Int32).toNatClampNeg) by decide) dX7_digest_95 ?_
        refine lv_if_eq (tgt := 103) hx hb dX7_digest_96 (by decide) (fun c31 => ?_) (fun c31 => ?_)
        · have hf := br_p c31 hf
          refine lv_lconst (v := 0) hx hb dX7_digest_103 (by decide) ?_
          exact h104 0 u26 g30 _ _ _ hW (lv_sub hl [0] rfl) hf
        · have hf := br_n c31 hf
          refine lv_lconst (v := 1) hx hb dX7_digest_99 (by decide) ?_
          refine lv_goto (tgt := 104) hx hb dX7_digest_100 (by decide) ?_
          exact h104 1 u26 g30 _ _ _ hW (lv_sub hl [0] rfl) hf
      · have hf := br_n c13 hf
        refine lv_aload_n hx hb dX7_digest_43 rfl (lv_at hl 0 rfl) ?_
        refine lv_aload_n hx hb dX7_digest_44 rfl (lv_at hl 0 rfl) ?_
        refine g_M_s hx hb hown hK hW kF_RX7_7 dX7_digest_45 ?_
        refine lv_iconst (v := 2) hx hb dX7_digest_48 (by decide) ?_
        refine lv_iload_n hx hb dX7_digest_49 rfl (lv_at hl 1 rfl) ?_
        refine lv_iadd hx hb dX7_digest_50 ?_
        obtain ⟨hk32, hf⟩ := gd_inv hf
        refine l_M0 hx hb hK hW rfl hk32 dX7_digest_51 ?_
        refine lv_i2l (v := ((μ 0 ((2 + x1)).toNatClampNeg)).toInt64) hx hb dX7_digest_52 rfl ?_
        obtain ⟨g34, q33, hf⟩ := bd_inv hf
        refine ss_callVv (As := [.long (((μ 0 ((2 + x1)).toNatClampNeg)).toInt64)]) hx hb hml hown hK hW kb_X7_digestOne kM_RX7_226 rfl (by decide) (c_fx (by decide)) (mX7_digestOne l (a1 := (((μ 0 ((2 + x1)).toNatClampNeg)).toInt64)) q33) rfl dX7_digest_53 rfl hl.1 (Nat.le_of_ble_eq_true rfl) ⟨Nat.le_of_ble_eq_true rfl, Nat.le_of_ble_eq_true rfl⟩ ⟨Nat.zero_le _, Nat.zero_le _⟩ (fun H locs hW => ?_)
        obtain ⟨x1_35, ex1_35⟩ : ∃ y : Int32, y = (x1 + 1) := ⟨_, rfl⟩
        have hf := nm_use ex1_35 hf
        refine lv_iinc (v := x1_35) (lv' := [(1, .int x1_35), (0, .ref (eA E 9))]) hx hb dX7_digest_56 hl (k := 1) rfl (by rw [ex1_35]; rfl) (by decide) rfl (fun ls hl => ?_)
        refine lv_goto (tgt := 38) hx hb dX7_digest_59 (by decide) ?_
        exact ih38 x1_35 μ g34 _ _ _ hW (lv_sub hl [1, 0] rfl) hf
  have h14 : ∀ (n14 : Nat) (x1 : Int32) (μ : Sg) (dg : Int64) (H : Heap) (locs : List Loc) (ls : Array Slot), Wk E σ μ dg s H locs → lv_has ls 2 [(0, .ref (eA E 9)), (1, .int x1)] → fX7_digest_L14 n14 x1 μ dg = some (r, μ', dg') → W p l e (Rm 6 137) s m [.ref (eA E 9)].toArray below meth c H locs 0 0 (MQ below (Ql E σ μ' dg' r) [.ref (eA E 9)].toArray s 0 0 (eP E)) (F0 m 14 ls []) := by
    intro n14
    induction n14 with
    | zero =>
      intro x1 μ dg  H locs ls hW hl hf
      exact absurd hf (by simp [fX7_digest_L14])
    | succ n14 ih14 =>
      intro x1 μ dg  H locs ls hW hl hf
      rw [fX7_digest_L14] at hf
      refine lv_iload_n hx hb dX7_digest_14 rfl (lv_at hl 1 rfl) ?_
      refine lv_bipush (v := 12) hx hb dX7_digest_15 (by decide) ?_
      refine lv_icmp_ge (tgt := 36) hx hb dX7_digest_17 (by decide) (fun c36 => ?_) (fun c36 => ?_)
      · have hf := br_p c36 hf
        refine lv_iconst (v := 0) hx hb dX7_digest_36 (by decide) ?_
        refine lv_istore_n (lv' := [(1, .int 0), (0, .ref (eA E 9))]) hx hb dX7_digest_37 rfl hl (by decide) rfl (fun ls hl => ?_)
        exact h38 80 0 μ dg _ _ _ hW (lv_sub hl [1, 0] rfl) hf
      · have hf := br_n c36 hf
        refine lv_aload_n hx hb dX7_digest_20 rfl (lv_at hl 0 rfl) ?_
        refine lv_aload_n hx hb dX7_digest_21 rfl (lv_at hl 0 rfl) ?_
        refine lv_iload_n hx hb dX7_digest_22 rfl (lv_at hl 1 rfl) ?_
        obtain ⟨r38, u39, q37, hf⟩ := bd2_inv hf
        refine ss_callVi (As := [.int x1]) hx hb hml hown hK hW kb_X7_counted kM_RX7_188 rfl (by decide) (c_fx (by decide)) (mX7_counted l (a1 := x1) q37) rfl dX7_digest_23 rfl hl.1 (Nat.le_of_ble_eq_true rfl) ⟨Nat.le_of_ble_eq_true rfl, Nat.le_of_ble_eq_true rfl⟩ ⟨Nat.zero_le _, Nat.zero_le _⟩ (fun H locs hW => ?_)
        refine lv_i2l (v := (r38).toInt64) hx hb dX7_digest_26 rfl ?_
        obtain ⟨g41, q40, hf⟩ := bd_inv hf
        refine ss_callVv (As := [.long ((r38).toInt64)]) hx hb hml hown hK hW kb_X7_digestOne kM_RX7_226 rfl (by decide) (c_fx (by decide)) (mX7_digestOne l (a1 := ((r38).toInt64)) q40) rfl dX7_digest_27 rfl hl.1 (Nat.le_of_ble_eq_true rfl) ⟨Nat.le_of_ble_eq_true rfl, Nat.le_of_ble_eq_true rfl⟩ ⟨Nat.zero_le _, Nat.zero_le _⟩ (fun H locs hW => ?_)
        obtain ⟨x1_42, ex1_42⟩ : ∃ y : Int32, y = (x1 + 1) := ⟨_, rfl⟩
        have hf := nm_use ex1_42 hf
        refine lv_iinc (v := x1_42) (lv' := [(1, .int x1_42), (0, .ref (eA E 9))]) hx hb dX7_digest_30 hl (k := 1) rfl (by rw [ex1_42]; rfl) (by decide) rfl (fun ls hl => ?_)
        refine lv_goto (tgt := 14) hx hb dX7_digest_33 (by decide) ?_
        exact ih14 x1_42 u39 g41 _ _ _ hW (lv_sub hl [1, 0] rfl) hf
  refine lv_aload_n hx hb dX7_digest_0 rfl (lv_at hl 0 rfl) ?_
  refine lv_iconst (v := 0) hx hb dX7_digest_1 (by decide) ?_
  refine p_M_thrown hx hb hown hK hW kF_RX7_44 dX7_digest_2 (fun H locs hW => ?_)
  obtain ⟨u43, eu43⟩ : ∃ y : Sg, y = (up2 μ 20 0 0) := ⟨_, rfl⟩
  have hf := nm_use eu43 hf
  rw [← eu43] at hW
  refine lv_aload_n hx hb dX7_digest_5 rfl (lv_at hl 0 rfl) ?_
  refine lv_ldc2 (own := RX7) hx hb hown (hK.2.1.at kC_RX7_230 _) dX7_digest_6 ?_
  refine p_M_digested hx hb hown hK hW kF_RX7_222 dX7_digest_9 (fun H locs hW => ?_)
  obtain ⟨g44, eg44⟩ : ∃ y : Int64, y = 3329 := ⟨_, rfl⟩
  have hf := nm_use eg44 hf
  rw [← eg44] at hW
  refine lv_iconst (v := 0) hx hb dX7_digest_12 (by decide) ?_
  refine lv_istore_n (lv' := [(1, .int 0), (0, .ref (eA E 9))]) hx hb dX7_digest_13 rfl hl (by decide) rfl (fun ls hl => ?_)
  exact h14 80 0 u43 g44 _ _ _ hW (lv_sub hl [1, 0] rfl) hf
def fX7_isNext (a1 : Int32) (a2 : Int32) (μ : Sg) : Option Int32 := if (μ 20 14) = 0 then (if (μ 20 7) ≤ (μ 20 13) then (some 0) else (gd (¬ ((μ 20 13) < 0 ∨ 40 ≤ ((μ 20 13)).toNatClampNeg)) <| bd (fX7_in (μ 4 ((μ 20 13)).toNatClampNeg) a1 a2) fun r5 => if r5 = 0 then (some 0) else (some 1))) else (some 0)
set_option maxHeartbeats 4000000 in
set_option maxRecDepth 100000 in
theorem mX7_isNext (l : Launch) {E : En} {σ μ : Sg} {dg : Int64} {a1 : Int32} {a2 : Int32}  {r : Int32} (hf : fX7_isNext a1 a2 μ = some r) : Met l yX7_isNext [.code yX7_isNext cX7_isNext 3 (some .boolean)] (Rm 1 22) (va_Pc [.ref (eA E 9), .int a1, .int a2] (Wd E σ μ dg)) (Qi E σ μ dg r) 0 0 (eP E) := by
  refine ss_of (by decide) (Nat.le_of_ble_eq_true rfl) (fun p e s m below meth c hx hb hr hlk hml hown hK hW ls hl => ?_)
  have hown : s.vm.findClass RX7 = some m.cls := hown
  have hl : lv_has ls 3 [(0, .ref (eA E 9)), (1, .int a1), (2, .int a2)] := hl
  unfold fX7_isNext at hf
  refine lv_aload_n hx hb dX7_isNext_0 rfl (lv_at hl 0 rfl) ?_
  refine g_M_isWrong hx hb hown hK hW kF_RX7_128 dX7_isNext_1 ?_
  refine lv_if_ne (tgt := 39) hx hb dX7_isNext_4 (by decide) (fun c1 => ?_) (fun c1 => ?_)
  · have hf := br_n c1 hf
    refine lv_iconst (v := 0) hx hb dX7_isNext_39 (by decide) ?_
    exact ss_zret hx hb hr hlk hW (Option.some.inj hf) rfl dX7_isNext_40
  · have hf := br_p c1 hf
    refine lv_aload_n hx hb dX7_isNext_7 rfl (lv_at hl 0 rfl) ?_
    refine g_M_position hx hb hown hK hW kF_RX7_132 dX7_isNext_8 ?_
    refine lv_aload_n hx hb dX7_isNext_11 rfl (lv_at hl 0 rfl) ?_
    refine g_M_length hx hb hown hK hW kF_RX7_125 dX7_isNext_12 ?_
    refine lv_icmp_ge (tgt := 39) hx hb dX7_isNext_15 (by decide) (fun c2 => ?_) (fun c2 => ?_)
    · have hf := br_p c2 hf
      refine lv_iconst (v := 0) hx hb dX7_isNext_39 (by decide) ?_
      exact ss_zret hx hb hr hlk hW (Option.some.inj hf) rfl dX7_isNext_40
    · have hf := br_n c2 hf
      refine lv_aload_n hx hb dX7_isNext_18 rfl (lv_at hl 0 rfl) ?_
      refine g_M_text hx hb hown hK hW kF_RX7_23 dX7_isNext_19 ?_
      refine lv_aload_n hx hb dX7_isNext_22 rfl (lv_at hl 0 rfl) ?_
      refine g_M_position hx hb hown hK hW kF_RX7_132 dX7_isNext_23 ?_
      obtain ⟨hk3, hf⟩ := gd_inv hf
      refine l_M4 hx hb hK hW rfl hk3 dX7_isNext_26 ?_
      refine lv_iload_n hx hb dX7_isNext_27 rfl (lv_at hl 1 rfl) ?_
      refine lv_iload_n hx hb dX7_isNext_28 rfl (lv_at hl 2 rfl) ?_
      obtain ⟨r5, q4, hf⟩ := bd_inv hf
      refine ss_callSi (As := [.int (μ 4 ((μ 20 13)).toNatClampNeg), .int a1, .int a2]) hx hb hml hown hK hW kb_X7_in kM_RX7_51 (mX7_in l (a0 := (μ 4 ((μ 20 13)).toNatClampNeg)) (a1 := a1) (a2 := a2) q4) rfl dX7_isNext_29 rfl hl.1 (Nat.le_of_ble_eq_true rfl) ⟨Nat.le_of_ble_eq_true rfl, Nat.le_of_ble_eq_true rfl⟩ ⟨Nat.zero_le _, Nat.zero_le _⟩ (fun H locs hW => ?_)
      refine lv_if_eq (tgt := 39) hx hb dX7_isNext_32 (by decide) (fun c6 => ?_) (fun c6 => ?_)
      · have hf := br_p c6 hf
        refine lv_iconst (v := 0) hx hb dX7_isNext_39 (by decide) ?_
        exact ss_zret hx hb hr hlk hW (Option.some.inj hf) rfl dX7_isNext_40
      · have hf := br_n c6 hf
        refine lv_iconst (v := 1) hx hb dX7_isNext_35 (by decide) ?_
        refine lv_goto (tgt := 40) hx hb dX7_isNext_36 (by decide) ?_
        exact ss_zret hx hb hr hlk hW (Option.some.inj hf) rfl dX7_isNext_40
def fX7_takes_b47 (a1 : Int32) (x3 : Int32) (k0 : Int32) (μ : Sg) : Option (Int32 × Sg) := gd (k0 = 0 ∨ k0 = 1) <| nm (up2 μ 20 14 k0) fun u2 => if (u2 20 14) = 0 then (nm (up2 u2 20 13 ((u2 20 13) + 1)) fun u4 => some ((x3 - a1), u4)) else (nm (up2 u2 20 13 ((u2 20 13) + 0)) fun u5 => some ((x3 - a1), u5))
def fX7_takes_b42 (a1 : Int32) (x3 : Int32) (μ : Sg) : Option (Int32 × Sg) := fX7_takes_b47 a1 x3 1 μ
def fX7_takes_b24 (a1 : Int32) (a2 : Int32) (k0 : Int32) (μ : Sg) : Option (Int32 × Sg) := if (μ 20 14) = 0 then (bd (fX7_in k0 a1 a2) fun r8 => if r8 = 0 then (fX7_takes_b42 a1 k0 μ) else (fX7_takes_b47 a1 k0 0 μ)) else (fX7_takes_b42 a1 k0 μ)
def fX7_takes (a1 : Int32) (a2 : Int32) (μ : Sg) : Option (Int32 × Sg) := if (μ 20 7) ≤ (μ 20 13) then (fX7_takes_b24 a1 a2 0 μ) else (gd (¬ ((μ 20 13) < 0 ∨ 40 ≤ ((μ 20 13)).toNatClampNeg)) <| fX7_takes_b24 a1 a2 (μ 4 ((μ 20 13)).toNatClampNeg) μ)
set_option maxHeartbeats 4000000 in
set_option maxRecDepth 100000 in
theorem mX7_takes (l : Launch) {E : En} {σ μ : Sg} {dg : Int64} {a1 : Int32} {a2 : Int32}  {r : Int32} {μ' : Sg} (hf : fX7_takes a1 a2 μ = some (r, μ')) : Met l yX7_takes [.code yX7_takes cX7_takes 4 (some .int)] (Rm 1 22) (va_Pc [.ref (eA E 9), .int a1, .int a2] (Wd E σ μ dg)) (Qi E σ μ' dg r) 0 0 (eP E) := by
  refine ss_of (by decide) (Nat.le_of_ble_eq_true rfl) (fun p e s m below meth c hx hb hr hlk hml hown hK hW ls hl => ?_)
  have hown : s.vm.findClass RX7 = some m.cls := hown
  have hl : lv_has ls 4 [(0, .ref (eA E 9)), (1, .int a1), (2, .int a2)] := hl
  unfold fX7_takes at hf
  have h47 : ∀ (x3 : Int32) (k0 : Int32) (μ : Sg) (H : Heap) (locs : List Loc) (ls : Array Slot), Wk E σ μ dg s H locs → lv_has ls 4 [(0, .ref (eA E 9)), (1, .int a1), (3, .int x3)] → fX7_takes_b47 a1 x3 k0 μ = some (r, μ') → W p l e (Rm 1 22) s m [.ref (eA E 9), .int a1, .int a2].toArray below meth c H locs 0 0 (MQ below (Qi E σ μ' dg r) [.ref (eA E 9), .int a1, .int a2].toArray s 0 0 (eP E)) (F0 m 47 ls [.int k0, .ref (eA E 9)]) := by
    intro x3 k0 μ  H locs ls hW hl hf
    unfold fX7_takes_b47 at hf
    obtain ⟨hv1, hf⟩ := gd_inv hf
    refine p_M_isWrong hx hb hown hK hW hv1 kF_RX7_128 dX7_takes_47 (fun H locs hW => ?_)
    obtain ⟨u2, eu2⟩ : ∃ y : Sg, y = (up2 μ 20 14 k0) := ⟨_, rfl⟩
    have hf := nm_use eu2 hf
    rw [← eu2] at hW
    refine lv_aload_n hx hb dX7_takes_50 rfl (lv_at hl 0 rfl) ?_
    refine lv_dup hx hb dX7_takes_51 rfl ?_
    refine g_M_position hx hb hown hK hW kF_RX7_132 dX7_takes_52 ?_
    refine lv_aload_n hx hb dX7_takes_55 rfl (lv_at hl 0 rfl) ?_
    refine g_M_isWrong hx hb hown hK hW kF_RX7_128 dX7_takes_56 ?_
    refine lv_if_eq (tgt := 66) hx hb dX7_takes_59 (by decide) (fun c3 => ?_) (fun c3 => ?_)
    · have hf := br_p c3 hf
      refine lv_iconst (v := 1) hx hb dX7_takes_66 (by decide) ?_
      refine lv_iadd hx hb dX7_takes_67 ?_
      refine p_M_position hx hb hown hK hW kF_RX7_132 dX7_takes_68 (fun H locs hW => ?_)
      obtain ⟨u4, eu4⟩ : ∃ y : Sg, y = (up2 u2 20 13 ((u2 20 13) + 1)) := ⟨_, rfl⟩
      have hf := nm_use eu4 hf
      rw [← eu4] at hW
      refine lv_iload_n hx hb dX7_takes_71 rfl (lv_at hl 2 rfl) ?_
      refine lv_iload_n hx hb dX7_takes_72 rfl (lv_at hl 1 rfl) ?_
      refine lv_isub hx hb dX7_takes_73 ?_
      cases hf
      exact ss_iret hx hb hr hlk hW rfl dX7_takes_74
    · have hf := br_n c3 hf
      refine lv_iconst (v := 0) hx hb dX7_takes_62 (by decide) ?_
      refine lv_goto (tgt := 67) hx hb dX7_takes_63 (by decide) ?_
      refine lv_iadd hx hb dX7_takes_67 ?_
      refine p_M_position hx hb hown hK hW kF_RX7_132 dX7_takes_68 (fun H locs hW => ?_)
      obtain ⟨u5, eu5⟩ : ∃ y : Sg, y = (up2 u2 20 13 ((u2 20 13) + 0)) := ⟨_, rfl⟩
      have hf := nm_use eu5 hf
      rw [← eu5] at hW
      refine lv_iload_n hx hb dX7_takes_71 rfl (lv_at hl 2 rfl) ?_
      refine lv_iload_n hx hb dX7_takes_72 rfl (lv_at hl 1 rfl) ?_
      refine lv_isub hx hb dX7_takes_73 ?_
      cases hf
      exact ss_iret hx hb hr hlk hW rfl dX7_takes_74
  have h42 : ∀ (x3 : Int32) (μ : Sg) (H : Heap) (locs : List Loc) (ls : Array Slot), Wk E σ μ dg s H locs → lv_has ls 4 [(0, .ref (eA E 9)), (1, .int a1), (3, .int x3)] → fX7_takes_b42 a1 x3 μ = some (r, μ') → W p l e (Rm 1 22) s m [.ref (eA E 9), .int a1, .int a2].toArray below meth c H locs 0 0 (MQ below (Qi E σ μ' dg r) [.ref (eA E 9), .int a1, .int a2].toArray s 0 0 (eP E)) (F0 m 42 ls [.ref (eA E 9)]) := by
    intro x3 μ  H locs ls hW hl hf
    unfold fX7_takes_b42 at hf
    refine lv_iconst (v := 1) hx hb dX7_takes_42 (by decide) ?_
    refine lv_goto (tgt := 47) hx hb dX7_takes_43 (by decide) ?_
    exact h47 x3 1 μ _ _ _ hW (lv_sub hl [0, 1, 2] rfl) hf
  have h24 : ∀ (k0 : Int32) (μ : Sg) (H : Heap) (locs : List Loc) (ls : Array Slot), Wk E σ μ dg s H locs → lv_has ls 4 [(0, .ref (eA E 9)), (1, .int a1), (2, .int a2)] → fX7_takes_b24 a1 a2 k0 μ = some (r, μ') → W p l e (Rm 1 22) s m [.ref (eA E 9), .int a1, .int a2].toArray below meth c H locs 0 0 (MQ below (Qi E σ μ' dg r) [.ref (eA E 9), .int a1, .int a2].toArray s 0 0 (eP E)) (F0 m 24 ls [.int k0]) := by
    intro k0 μ  H locs ls hW hl hf
    unfold fX7_takes_b24 at hf
    refine lv_istore_n (lv' := [(3, .int k0), (0, .ref (eA E 9)), (1, .int a1), (2, .int a2)]) hx hb dX7_takes_24 rfl hl (by decide) rfl (fun ls hl => ?_)
    refine lv_aload_n hx hb dX7_takes_25 rfl (lv_at hl 1 rfl) ?_
    refine lv_aload_n hx hb dX7_takes_26 rfl (lv_at hl 1 rfl) ?_
    refine g_M_isWrong hx hb hown hK hW kF_RX7_128 dX7_takes_27 ?_
    refine lv_if_ne (tgt := 42) hx hb dX7_takes_30 (by decide) (fun c6 => ?_) (fun c6 => ?_)
    · have hf := br_n c6 hf
      exact h42 k0 μ _ _ _ hW (lv_sub hl [1, 2, 0] rfl) hf
    · have hf := br_p c6 hf
      refine lv_iload_n hx hb dX7_takes_33 rfl (lv_at hl 0 rfl) ?_
      refine lv_iload_n hx hb dX7_takes_34 rfl (lv_at hl 2 rfl) ?_
      refine lv_iload_n hx hb dX7_takes_35 rfl (lv_at hl 3 rfl) ?_
      obtain ⟨r8, q7, hf⟩ := bd_inv hf
      refine ss_callSi (As := [.int k0, .int a1, .int a2]) hx hb hml hown hK hW kb_X7_in kM_RX7_51 (mX7_in l (a0 := k0) (a1 := a1) (a2 := a2) q7) rfl dX7_takes_36 rfl hl.1 (Nat.le_of_ble_eq_true rfl) ⟨Nat.le_of_ble_eq_true rfl, Nat.le_of_ble_eq_true rfl⟩ ⟨Nat.zero_le _, Nat.zero_le _⟩ (fun H locs hW => ?_)
      refine lv_if_ne (tgt := 46) hx hb dX7_takes_39 (by decide) (fun c9 => ?_) (fun c9 => ?_)
      · have hf := br_n c9 hf
        refine lv_iconst (v := 0) hx hb dX7_takes_46 (by decide) ?_
        exact h47 k0 0 μ _ _ _ hW (lv_sub hl [1, 2, 0] rfl) hf
      · have hf := br_p c9 hf
        exact h42 k0 μ _ _ _ hW (lv_sub hl [1, 2, 0] rfl) hf
  refine lv_aload_n hx hb dX7_takes_0 rfl (lv_at hl 0 rfl) ?_
  refine g_M_position hx hb hown hK hW kF_RX7_132 dX7_takes_1 ?_
  refine lv_aload_n hx hb dX7_takes_4 rfl (lv_at hl 0 rfl) ?_
  refine g_M_length hx hb hown hK hW kF_RX7_125 dX7_takes_5 ?_
  refine lv_icmp_ge (tgt := 23) hx hb dX7_takes_8 (by decide) (fun c10 => ?_) (fun c10 => ?_)
  · have hf := br_p c10 hf
    refine lv_iconst (v := 0) hx hb dX7_takes_23 (by decide) ?_
    exact h24 0 μ _ _ _ hW (lv_sub hl [0, 1, 2] rfl) hf
  · have hf := br_n c10 hf
    refine lv_aload_n hx hb dX7_takes_11 rfl (lv_at hl 0 rfl) ?_
    refine g_M_text hx hb hown hK hW kF_RX7_23 dX7_takes_12 ?_
    refine lv_aload_n hx hb dX7_takes_15 rfl (lv_at hl 0 rfl) ?_
    refine g_M_position hx hb hown hK hW kF_RX7_132 dX7_takes_16 ?_
    obtain ⟨hk11, hf⟩ := gd_inv hf
    refine l_M4 hx hb hK hW rfl hk11 dX7_takes_19 ?_
    refine lv_goto (tgt := 24) hx hb dX7_takes_20 (by decide) ?_
    exact h24 (μ 4 ((μ 20 13)).toNatClampNeg) μ _ _ _ hW (lv_sub hl [0, 1, 2] rfl) hf
def fX7_takesNumber_b66 (a2 : Int32) (k24 : Int32 → Int32 → Sg → Option (Int32 × Sg)) (x3 : Int32) (k0 : Int32) (μ : Sg) : Option (Int32 × Sg) := if k0 = 0 then (k24 x3 k0 μ) else (bd2 (fX7_takes 48 57 μ) fun r3 u4 => nm ((10 * x3) + r3) fun x3_5 => k24 x3_5 k0 u4)
def fX7_takesNumber_b65 (a2 : Int32) (k24 : Int32 → Int32 → Sg → Option (Int32 × Sg)) (x3 : Int32) (μ : Sg) : Option (Int32 × Sg) := fX7_takesNumber_b66 a2 k24 x3 0 μ
def fX7_takesNumber_L24 (a2 : Int32) (n : Nat) (x3 : Int32) (x4 : Int32) (μ : Sg) : Option (Int32 × Sg) := match n with
  | 0 => none
  | n + 1 => if x4 = 0 then (some (x3, μ)) else (bd (fX7_isNext 48 57 μ) fun r8 => if r8 = 0 then (fX7_takesNumber_b65 a2 (fun x3 x4 μ => fX7_takesNumber_L24 a2 n x3 x4 μ) x3 μ) else (gd (¬ ((μ 20 13) < 0 ∨ 40 ≤ ((μ 20 13)).toNatClampNeg)) <| if a2 < (((10 * x3) + (μ 4 ((μ 20 13)).toNatClampNeg)) - 48) then (fX7_takesNumber_b65 a2 (fun x3 x4 μ => fX7_takesNumber_L24 a2 n x3 x4 μ) x3 μ) else (fX7_takesNumber_b66 a2 (fun x3 x4 μ => fX7_takesNumber_L24 a2 n x3 x4 μ) x3 1 μ)))
def fX7_takesNumber (a1 : Int32) (a2 : Int32) (μ : Sg) : Option (Int32 × Sg) := bd2 (fX7_takes (48 + a1) 57 μ) fun r13 u14 => nm (a1 + r13) fun x3_15 => if x3_15 ≤ 0 then (fX7_takesNumber_L24 a2 80 x3_15 0 u14) else (fX7_takesNumber_L24 a2 80 x3_15 1 u14)
set_option maxHeartbeats 4000000 in
set_option maxRecDepth 100000 in
theorem mX7_takesNumber (l : Launch) {E : En} {σ μ : Sg} {dg : Int64} {a1 : Int32} {a2 : Int32}  {r : Int32} {μ' : Sg} (hf : fX7_takesNumber a1 a2 μ = some (r, μ')) : Met l yX7_takesNumber [.code yX7_takesNumber cX7_takesNumber 5 (some .int)] (Rm 2 45) (va_Pc [.ref (eA E 9), .int a1, .int a2] (Wd E σ μ dg)) (Qi E σ μ' dg r) 0 0 (eP E) := by
  refine ss_of (by decide) (Nat.le_of_ble_eq_true rfl) (fun p e s m below meth c hx hb hr hlk hml hown hK hW ls hl => ?_)
  have hown : s.vm.findClass RX7 = some m.cls := hown
  have hl : lv_has ls 5 [(0, .ref (eA E 9)), (1, .int a1), (2, .int a2)] := hl
  unfold fX7_takesNumber at hf
  have h24 : ∀ (n24 : Nat) (x3 : Int32) (x4 : Int32) (μ : Sg) (H : Heap) (locs : List Loc) (ls : Array Slot), Wk E σ μ dg s H locs → lv_has ls 5 [(0, .ref (eA E 9)), (2, .int a2), (3, .int x3), (4, .int x4)] → fX7_takesNumber_L24 a2 n24 x3 x4 μ = some (r, μ') → W p l e (Rm 2 45) s m [.ref (eA E 9), .int a1, .int a2].toArray below meth c H locs 0 0 (MQ below (Qi E σ μ' dg r) [.ref (eA E 9), .int a1, .int a2].toArray s 0 0 (eP E)) (F0 m 24 ls []) := by
    intro n24
    induction n24 with
    | zero =>
      intro x3 x4 μ  H locs ls hW hl hf
      exact absurd hf (by simp [fX7_takesNumber_L24])
    | succ n24 ih24 =>
      have h66 : ∀ (x3 : Int32) (k0 : Int32) (μ : Sg) (H : Heap) (locs : List Loc) (ls : Array Slot), Wk E σ μ dg s H locs → lv_has ls 5 [(0, .ref (eA E 9)), (2, .int a2), (3, .int x3)] → fX7_takesNumber_b66 a2 (fun x3 x4 μ => fX7_takesNumber_L24 a2 n24 x3 x4 μ) x3 k0 μ = some (r, μ') → W p l e (Rm 2 45) s m [.ref (eA E 9), .int a1, .int a2].toArray below meth c H locs 0 0 (MQ below (Qi E σ μ' dg r) [.ref (eA E 9), .int a1, .int a2].toArray s 0 0 (eP E)) (F0 m 66 ls [.int k0]) := by
        intro x3 k0 μ  H locs ls hW hl hf
        unfold fX7_takesNumber_b66 at hf
        refine lv_istore (lv' := [(4, .int k0), (0, .ref (eA E 9)), (2, .int a2), (3, .int x3)]) hx hb dX7_takesNumber_66 hl (by decide) rfl (fun ls hl => ?_)
        refine lv_iload hx hb dX7_takesNumber_68 (lv_at hl 0 rfl) ?_
        refine lv_if_eq (tgt := 89) hx hb dX7_takesNumber_70 (by decide) (fun c1 => ?_) (fun c1 => ?_)
        · have hf := br_p c1 hf
          refine lv_iload_n hx hb dX7_takesNumber_89 rfl (lv_at hl 3 rfl) ?_
          refine lv_istore_n (lv' := [(3, .int x3), (4, .int k0), (0, .ref (eA E 9)), (2, .int a2)]) hx hb dX7_takesNumber_90 rfl hl (by decide) rfl (fun ls hl => ?_)
          refine lv_goto (tgt := 24) hx hb dX7_takesNumber_91 (by decide) ?_
          exact ih24 x3 k0 μ _ _ _ hW (lv_sub hl [2, 3, 0, 1] rfl) hf
        · have hf := br_n c1 hf
          refine lv_bipush (v := 10) hx hb dX7_takesNumber_73 (by decide) ?_
          refine lv_iload_n hx hb dX7_takesNumber_75 rfl (lv_at hl 3 rfl) ?_
          refine lv_imul hx hb dX7_takesNumber_76 ?_
          refine lv_aload_n hx hb dX7_takesNumber_77 rfl (lv_at hl 1 rfl) ?_
          refine lv_bipush (v := 48) hx hb dX7_takesNumber_78 (by decide) ?_
          refine lv_bipush (v := 57) hx hb dX7_takesNumber_80 (by decide) ?_
          obtain ⟨r3, u4, q2, hf⟩ := bd2_inv hf
          refine ss_callVi (As := [.int 48, .int 57]) hx hb hml hown hK hW kb_X7_takes kM_RX7_135 rfl (by decide) (c_fx (by decide)) (mX7_takes l (a1 := 48) (a2 := 57) q2) rfl dX7_takesNumber_82 rfl hl.1 (Nat.le_of_ble_eq_true rfl) ⟨Nat.le_of_ble_eq_true rfl, Nat.le_of_ble_eq_true rfl⟩ ⟨Nat.zero_le _, Nat.zero_le _⟩ (fun H locs hW => ?_)
          refine lv_iadd hx hb dX7_takesNumber_85 ?_
          refine lv_goto (tgt := 90) hx hb dX7_takesNumber_86 (by decide) ?_
          refine lv_topi (fun x3_5 ex3_5 => ?_)
          have hf := nm_use ex3_5 hf
          refine lv_istore_n (lv' := [(3, .int x3_5), (4, .int k0), (0, .ref (eA E 9)), (2, .int a2)]) hx hb dX7_takesNumber_90 rfl hl (by decide) rfl (fun ls hl => ?_)
          refine lv_goto (tgt := 24) hx hb dX7_takesNumber_91 (by decide) ?_
          exact ih24 x3_5 k0 u4 _ _ _ hW (lv_sub hl [2, 3, 0, 1] rfl) hf
      have h65 : ∀ (x3 : Int32) (μ : Sg) (H : Heap) (locs : List Loc) (ls : Array Slot), Wk E σ μ dg s H locs → lv_has ls 5 [(0, .ref (eA E 9)), (2, .int a2), (3, .int x3)] → fX7_takesNumber_b65 a2 (fun x3 x4 μ => fX7_takesNumber_L24 a2 n24 x3 x4 μ) x3 μ = some (r, μ') → W p l e (Rm 2 45) s m [.ref (eA E 9), .int a1, .int a2].toArray below meth c H locs 0 0 (MQ below (Qi E σ μ' dg r) [.ref (eA E 9), .int a1, .int a2].toArray s 0 0 (eP E)) (F0 m 65 ls []) := by
        intro x3 μ  H locs ls hW hl hf
        unfold fX7_takesNumber_b65 at hf
        refine lv_iconst (v := 0) hx hb dX7_takesNumber_65 (by decide) ?_
        exact h66 x3 0 μ _ _ _ hW (lv_sub hl [0, 1, 2] rfl) hf
      intro x3 x4 μ  H locs ls hW hl hf
      rw [fX7_takesNumber_L24] at hf
      refine lv_iload hx hb dX7_takesNumber_24 (lv_at hl 3 rfl) ?_
      refine lv_if_eq (tgt := 94) hx hb dX7_takesNumber_26 (by decide) (fun c6 => ?_) (fun c6 => ?_)
      · have hf := br_p c6 hf
        refine lv_iload_n hx hb dX7_takesNumber_94 rfl (lv_at hl 2 rfl) ?_
        cases hf
        exact ss_iret hx hb hr hlk hW rfl dX7_takesNumber_95
      · have hf := br_n c6 hf
        refine lv_aload_n hx hb dX7_takesNumber_29 rfl (lv_at hl 0 rfl) ?_
        refine lv_bipush (v := 48) hx hb dX7_takesNumber_30 (by decide) ?_
        refine lv_bipush (v := 57) hx hb dX7_takesNumber_32 (by decide) ?_
        obtain ⟨r8, q7, hf⟩ := bd_inv hf
        refine ss_callVi (As := [.int 48, .int 57]) hx hb hml hown hK hW kb_X7_isNext kM_RX7_138 rfl (by decide) (c_fx (by decide)) (mX7_isNext l (a1 := 48) (a2 := 57) q7) rfl dX7_takesNumber_34 rfl hl.1 (Nat.le_of_ble_eq_true rfl) ⟨Nat.le_of_ble_eq_true rfl, Nat.le_of_ble_eq_true rfl⟩ ⟨Nat.zero_le _, Nat.zero_le _⟩ (fun H locs hW => ?_)
        refine lv_if_eq (tgt := 65) hx hb dX7_takesNumber_37 (by decide) (fun c9 => ?_) (fun c9 => ?_)
        · have hf := br_p c9 hf
          exact h65 x3 μ _ _ _ hW (lv_sub hl [0, 1, 2] rfl) hf
        · have hf := br_n c9 hf
          refine lv_bipush (v := 10) hx hb dX7_takesNumber_40 (by decide) ?_
          refine lv_iload_n hx hb dX7_takesNumber_42 rfl (lv_at hl 2 rfl) ?_
          refine lv_imul hx hb dX7_takesNumber_43 ?_
          refine lv_aload_n hx hb dX7_takesNumber_44 rfl (lv_at hl 0 rfl) ?_
          refine g_M_text hx hb hown hK hW kF_RX7_23 dX7_takesNumber_45 ?_
          refine lv_aload_n hx hb dX7_takesNumber_48 rfl (lv_at hl 0 rfl) ?_
          refine g_M_position hx hb hown hK hW kF_RX7_132 dX7_takesNumber_49 ?_
          obtain ⟨hk10, hf⟩ := gd_inv hf
          refine l_M4 hx hb hK hW rfl hk10 dX7_takesNumber_52 ?_
          refine lv_iadd hx hb dX7_takesNumber_53 ?_
          refine lv_bipush (v := 48) hx hb dX7_takesNumber_54 (by decide) ?_
          refine lv_isub hx hb dX7_takesNumber_56 ?_
          refine lv_iload_n hx hb dX7_takesNumber_57 rfl (lv_at hl 1 rfl) ?_
          refine lv_icmp_gt (tgt := 65) hx hb dX7_takesNumber_58 (by decide) (fun c11 => ?_) (fun c11 => ?_)
          · have hf := br_p c11 hf
            exact h65 x3 μ _ _ _ hW (lv_sub hl [0, 1, 2] rfl) hf
          · have hf := br_n c11 hf
            refine lv_iconst (v := 1) hx hb dX7_takesNumber_61 (by decide) ?_
            refine lv_goto (tgt := 66) hx hb dX7_takesNumber_62 (by decide) ?_
            exact h66 x3 1 μ _ _ _ hW (lv_sub hl [0, 1, 2] rfl) hf
  refine lv_iload_n hx hb dX7_takesNumber_0 rfl (lv_at hl 1 rfl) ?_
  refine lv_aload_n hx hb dX7_takesNumber_1 rfl (lv_at hl 0 rfl) ?_
  refine lv_bipush (v := 48) hx hb dX7_takesNumber_2 (by decide) ?_
  refine lv_iload_n hx hb dX7_takesNumber_4 rfl (lv_at hl 1 rfl) ?_
  refine lv_iadd hx hb dX7_takesNumber_5 ?_
  refine lv_bipush (v := 57) hx hb dX7_takesNumber_6 (by decide) ?_
  obtain ⟨r13, u14, q12, hf⟩ := bd2_inv hf
  refine ss_callVi (As := [.int (48 + a1), .int 57]) hx hb hml hown hK hW kb_X7_takes kM_RX7_135 rfl (by decide) (c_fx (by decide)) (mX7_takes l (a1 := (48 + a1)) (a2 := 57) q12) rfl dX7_takesNumber_8 rfl hl.1 (Nat.le_of_ble_eq_true rfl) ⟨Nat.le_of_ble_eq_true rfl, Nat.le_of_ble_eq_true rfl⟩ ⟨Nat.zero_le _, Nat.zero_le _⟩ (fun H locs hW => ?_)
  refine lv_iadd hx hb dX7_takesNumber_11 ?_
  refine lv_topi (fun x3_15 ex3_15 => ?_)
  have hf := nm_use ex3_15 hf
  refine lv_istore_n (lv' := [(3, .int x3_15), (0, .ref (eA E 9)), (1, .int a1), (2, .int a2)]) hx hb dX7_takesNumber_12 rfl hl (by decide) rfl (fun ls hl => ?_)
  refine lv_iload_n hx hb dX7_takesNumber_13 rfl (lv_at hl 0 rfl) ?_
  refine lv_if_le (tgt := 21) hx hb dX7_takesNumber_14 (by decide) (fun c16 => ?_) (fun c16 => ?_)
  · have hf := br_p c16 hf
    refine lv_iconst (v := 0) hx hb dX7_takesNumber_21 (by decide) ?_
    refine lv_istore (lv' := [(4, .int 0), (3, .int x3_15), (0, .ref (eA E 9)), (1, .int a1), (2, .int a2)]) hx hb dX7_takesNumber_22 hl (by decide) rfl (fun ls hl => ?_)
    exact h24 80 x3_15 0 u14 _ _ _ hW (lv_sub hl [2, 4, 1, 0] rfl) hf
  · have hf := br_n c16 hf
    refine lv_iconst (v := 1) hx hb dX7_takesNumber_17 (by decide) ?_
    refine lv_goto (tgt := 22) hx hb dX7_takesNumber_18 (by decide) ?_
    refine lv_istore (lv' := [(4, .int 1), (3, .int x3_15), (0, .ref (eA E 9)), (1, .int a1), (2, .int a2)]) hx hb dX7_takesNumber_22 hl (by decide) rfl (fun ls hl => ?_)
    exact h24 80 x3_15 1 u14 _ _ _ hW (lv_sub hl [2, 4, 1, 0] rfl) hf
def fX7_readAll_b172 (k99 : Sg → Option Sg) (k0 : Int32) (μ : Sg) : Option Sg := if (μ 20 14) = 0 then (gd (¬ ((μ 20 18) < 0 ∨ 15 ≤ ((μ 20 18)).toNatClampNeg)) <| nm (up2 μ 10 (((μ 20 18)).toNatClampNeg) k0) fun u3 => nm (up2 u3 20 18 ((u3 20 18) + 1)) fun u4 => k99 u4) else (k99 μ)
def fX7_readAll_b142 (k99 : Sg → Option Sg) (x4 : Int32) (k0 : Int32) (μ : Sg) : Option Sg := gd (k0 = 0 ∨ k0 = 1) <| nm (up2 μ 20 14 k0) fun u6 => if x4 = 0 then (bd2 (fX7_takes 97 102 u6) fun r9 u10 => fX7_readAll_b172 k99 (10 + r9) u10) else (bd2 (fX7_takes 48 57 u6) fun r12 u13 => fX7_readAll_b172 k99 r12 u13)
def fX7_readAll_L99  (n : Nat) (μ : Sg) : Option Sg := match n with
  | 0 => none
  | n + 1 => if (μ 20 14) = 0 then (if (μ 20 7) ≤ (μ 20 13) then (some μ) else (bd (fX7_isNext 48 57 μ) fun r17 => if (μ 20 18) = 15 then (fX7_readAll_b142 (fun μ => fX7_readAll_L99 n μ) r17 1 μ) else (fX7_readAll_b142 (fun μ => fX7_readAll_L99 n μ) r17 0 μ))) else (some μ)
def fX7_readAll_b67  (k0 : Int32) (μ : Sg) : Option Sg := nm (up2 μ 20 15 k0) fun u19 => bd2 (fX7_takes 44 44 u19) fun r21 u22 => bd2 (fX7_takesNumber 0 48 u22) fun r24 u25 => nm (up2 u25 20 16 r24) fun u26 => bd2 (fX7_takes 58 58 u26) fun r28 u29 => fX7_readAll_L99 80 u29
def fX7_readAll_b38  (x1 : Int32) (k0 : Int32) (k1 : Int32) (μ : Sg) : Option Sg := nm (up2 μ 20 13 (k1 + k0)) fun u30 => if x1 = 0 then (bd2 (fX7_takesNumber 0 2047 u30) fun r33 u34 => fX7_readAll_b67 r33 u34) else (bd2 (fX7_takesNumber 1 2048 u30) fun r36 u37 => fX7_readAll_b67 (-r36) u37)
def fX7_readAll (μ : Sg) : Option Sg := nm (up2 μ 20 13 0) fun u38 => nm (up2 u38 20 14 0) fun u39 => nm (up2 u39 20 18 0) fun u40 => bd (fX7_isNext 45 45 u40) fun r42 => if r42 = 0 then (fX7_readAll_b38 r42 0 (u40 20 13) u40) else (fX7_readAll_b38 r42 1 (u40 20 13) u40)
set_option maxHeartbeats 4000000 in
set_option maxRecDepth 100000 in
theorem mX7_readAll (l : Launch) {E : En} {σ μ : Sg} {dg : Int64}   {μ' : Sg} (hf : fX7_readAll μ = some μ') : Met l yX7_readAll [.code yX7_readAll cX7_readAll 6 none] (Rm 3 69) (va_Pc [.ref (eA E 9)] (Wd E σ μ dg)) (Qv E σ μ' dg) 0 0 (eP E) := by
  refine ss_of (by decide) (Nat.le_of_ble_eq_true rfl) (fun p e s m below meth c hx hb hr hlk hml hown hK hW ls hl => ?_)
  have hown : s.vm.findClass RX7 = some m.cls := hown
  have hl : lv_has ls 6 [(0, .ref (eA E 9))] := hl
  unfold fX7_readAll at hf
  have h99 : ∀ (n99 : Nat) (μ : Sg) (H : Heap) (locs : List Loc) (ls : Array Slot), Wk E σ μ dg s H locs → lv_has ls 6 [(0, .ref (eA E 9))] → fX7_readAll_L99 n99 μ = some μ' → W p l e (Rm 3 69) s m [.ref (eA E 9)].toArray below meth c H locs 0 0 (MQ below (Qv E σ μ' dg) [.ref (eA E 9)].toArray s 0 0 (eP E)) (F0 m 99 ls []) := by
    intro n99
    induction n99 with
    | zero =>
      intro μ  H locs ls hW hl hf
      exact absurd hf (by simp [fX7_readAll_L99])
    | succ n99 ih99 =>
      have h172 : ∀ (k0 : Int32) (μ : Sg) (H : Heap) (locs : List Loc) (ls : Array Slot), Wk E σ μ dg s H locs → lv_has ls 6 [(0, .ref (eA E 9))] → fX7_readAll_b172 (fun μ => fX7_readAll_L99 n99 μ) k0 μ = some μ' → W p l e (Rm 3 69) s m [.ref (eA E 9)].toArray below meth c H locs 0 0 (MQ below (Qv E σ μ' dg) [.ref (eA E 9)].toArray s 0 0 (eP E)) (F0 m 172 ls [.int k0]) := by
        intro k0 μ  H locs ls hW hl hf
        unfold fX7_readAll_b172 at hf
        refine lv_istore (lv' := [(5, .int k0), (0, .ref (eA E 9))]) hx hb dX7_readAll_172 hl (by decide) rfl (fun ls hl => ?_)
        refine lv_aload_n hx hb dX7_readAll_174 rfl (lv_at hl 1 rfl) ?_
        refine g_M_isWrong hx hb hown hK hW kF_RX7_128 dX7_readAll_175 ?_
        refine lv_if_ne (tgt := 202) hx hb dX7_readAll_178 (by decide) (fun c1 => ?_) (fun c1 => ?_)
        · have hf := br_n c1 hf
          refine lv_goto (tgt := 99) hx hb dX7_readAll_202 (by decide) ?_
          exact ih99 μ _ _ _ hW (lv_sub hl [1] rfl) hf
        · have hf := br_p c1 hf
          refine lv_aload_n hx hb dX7_readAll_181 rfl (lv_at hl 1 rfl) ?_
          refine g_M_readCodes hx hb hown hK hW kF_RX7_41 dX7_readAll_182 ?_
          refine lv_aload_n hx hb dX7_readAll_185 rfl (lv_at hl 1 rfl) ?_
          refine g_M_reads hx hb hown hK hW kF_RX7_142 dX7_readAll_186 ?_
          refine lv_iload hx hb dX7_readAll_189 (lv_at hl 0 rfl) ?_
          obtain ⟨hk2, hf⟩ := gd_inv hf
          refine s_M10 hx hb hK hW rfl hk2 dX7_readAll_191 (fun H locs hW => ?_)
          obtain ⟨u3, eu3⟩ : ∃ y : Sg, y = (up2 μ 10 (((μ 20 18)).toNatClampNeg) k0) := ⟨_, rfl⟩
          have hf := nm_use eu3 hf
          rw [← eu3] at hW
          refine lv_aload_n hx hb dX7_readAll_192 rfl (lv_at hl 1 rfl) ?_
          refine lv_dup hx hb dX7_readAll_193 rfl ?_
          refine g_M_reads hx hb hown hK hW kF_RX7_142 dX7_readAll_194 ?_
          refine lv_iconst (v := 1) hx hb dX7_readAll_197 (by decide) ?_
          refine lv_iadd hx hb dX7_readAll_198 ?_
          refine p_M_reads hx hb hown hK hW kF_RX7_142 dX7_readAll_199 (fun H locs hW => ?_)
          obtain ⟨u4, eu4⟩ : ∃ y : Sg, y = (up2 u3 20 18 ((u3 20 18) + 1)) := ⟨_, rfl⟩
          have hf := nm_use eu4 hf
          rw [← eu4] at hW
          refine lv_goto (tgt := 99) hx hb dX7_readAll_202 (by decide) ?_
          exact ih99 u4 _ _ _ hW (lv_sub hl [1] rfl) hf
      have h142 : ∀ (x4 : Int32) (k0 : Int32) (μ : Sg) (H : Heap) (locs : List Loc) (ls : Array Slot), Wk E σ μ dg s H locs → lv_has ls 6 [(0, .ref (eA E 9)), (4, .int x4)] → fX7_readAll_b142 (fun μ => fX7_readAll_L99 n99 μ) x4 k0 μ = some μ' → W p l e (Rm 3 69) s m [.ref (eA E 9)].toArray below meth c H locs 0 0 (MQ below (Qv E σ μ' dg) [.ref (eA E 9)].toArray s 0 0 (eP E)) (F0 m 142 ls [.int k0, .ref (eA E 9)]) := by
        intro x4 k0 μ  H locs ls hW hl hf
        unfold fX7_readAll_b142 at hf
        obtain ⟨hv5, hf⟩ := gd_inv hf
        refine p_M_isWrong hx hb hown hK hW hv5 kF_RX7_128 dX7_readAll_142 (fun H locs hW => ?_)
        obtain ⟨u6, eu6⟩ : ∃ y : Sg, y = (up2 μ 20 14 k0) := ⟨_, rfl⟩
        have hf := nm_use eu6 hf
        rw [← eu6] at hW
        refine lv_iload hx hb dX7_readAll_145 (lv_at hl 1 rfl) ?_
        refine lv_if_eq (tgt := 161) hx hb dX7_readAll_147 (by decide) (fun c7 => ?_) (fun c7 => ?_)
        · have hf := br_p c7 hf
          refine lv_bipush (v := 10) hx hb dX7_readAll_161 (by decide) ?_
          refine lv_aload_n hx hb dX7_readAll_163 rfl (lv_at hl 0 rfl) ?_
          refine lv_bipush (v := 97) hx hb dX7_readAll_164 (by decide) ?_
          refine lv_bipush (v := 102) hx hb dX7_readAll_166 (by decide) ?_
          obtain ⟨r9, u10, q8, hf⟩ := bd2_inv hf
          refine ss_callVi (As := [.int 97, .int 102]) hx hb hml hown hK hW kb_X7_takes kM_RX7_135 rfl (by decide) (c_fx (by decide)) (mX7_takes l (a1 := 97) (a2 := 102) q8) rfl dX7_readAll_168 rfl hl.1 (Nat.le_of_ble_eq_true rfl) ⟨Nat.le_of_ble_eq_true rfl, Nat.le_of_ble_eq_true rfl⟩ ⟨Nat.zero_le _, Nat.zero_le _⟩ (fun H locs hW => ?_)
          refine lv_iadd hx hb dX7_readAll_171 ?_
          exact h172 (10 + r9) u10 _ _ _ hW (lv_sub hl [0] rfl) hf
        · have hf := br_n c7 hf
          refine lv_aload_n hx hb dX7_readAll_150 rfl (lv_at hl 0 rfl) ?_
          refine lv_bipush (v := 48) hx hb dX7_readAll_151 (by decide) ?_
          refine lv_bipush (v := 57) hx hb dX7_readAll_153 (by decide) ?_
          obtain ⟨r12, u13, q11, hf⟩ := bd2_inv hf
          refine ss_callVi (As := [.int 48, .int 57]) hx hb hml hown hK hW kb_X7_takes kM_RX7_135 rfl (by decide) (c_fx (by decide)) (mX7_takes l (a1 := 48) (a2 := 57) q11) rfl dX7_readAll_155 rfl hl.1 (Nat.le_of_ble_eq_true rfl) ⟨Nat.le_of_ble_eq_true rfl, Nat.le_of_ble_eq_true rfl⟩ ⟨Nat.zero_le _, Nat.zero_le _⟩ (fun H locs hW => ?_)
          refine lv_goto (tgt := 172) hx hb dX7_readAll_158 (by decide) ?_
          exact h172 r12 u13 _ _ _ hW (lv_sub hl [0] rfl) hf
      intro μ  H locs ls hW hl hf
      rw [fX7_readAll_L99] at hf
      refine lv_aload_n hx hb dX7_readAll_99 rfl (lv_at hl 0 rfl) ?_
      refine g_M_isWrong hx hb hown hK hW kF_RX7_128 dX7_readAll_100 ?_
      refine lv_if_ne (tgt := 205) hx hb dX7_readAll_103 (by decide) (fun c14 => ?_) (fun c14 => ?_)
      · have hf := br_n c14 hf
        cases hf
        exact ss_vret hx hb hr hlk hW dX7_readAll_205
      · have hf := br_p c14 hf
        refine lv_aload_n hx hb dX7_readAll_106 rfl (lv_at hl 0 rfl) ?_
        refine g_M_position hx hb hown hK hW kF_RX7_132 dX7_readAll_107 ?_
        refine lv_aload_n hx hb dX7_readAll_110 rfl (lv_at hl 0 rfl) ?_
        refine g_M_length hx hb hown hK hW kF_RX7_125 dX7_readAll_111 ?_
        refine lv_icmp_ge (tgt := 205) hx hb dX7_readAll_114 (by decide) (fun c15 => ?_) (fun c15 => ?_)
        · have hf := br_p c15 hf
          cases hf
          exact ss_vret hx hb hr hlk hW dX7_readAll_205
        · have hf := br_n c15 hf
          refine lv_aload_n hx hb dX7_readAll_117 rfl (lv_at hl 0 rfl) ?_
          refine lv_bipush (v := 48) hx hb dX7_readAll_118 (by decide) ?_
          refine lv_bipush (v := 57) hx hb dX7_readAll_120 (by decide) ?_
          obtain ⟨r17, q16, hf⟩ := bd_inv hf
          refine ss_callVi (As := [.int 48, .int 57]) hx hb hml hown hK hW kb_X7_isNext kM_RX7_138 rfl (by decide) (c_fx (by decide)) (mX7_isNext l (a1 := 48) (a2 := 57) q16) rfl dX7_readAll_122 rfl hl.1 (Nat.le_of_ble_eq_true rfl) ⟨Nat.le_of_ble_eq_true rfl, Nat.le_of_ble_eq_true rfl⟩ ⟨Nat.zero_le _, Nat.zero_le _⟩ (fun H locs hW => ?_)
          refine lv_istore (lv' := [(4, .int r17), (0, .ref (eA E 9))]) hx hb dX7_readAll_125 hl (by decide) rfl (fun ls hl => ?_)
          refine lv_aload_n hx hb dX7_readAll_127 rfl (lv_at hl 1 rfl) ?_
          refine lv_aload_n hx hb dX7_readAll_128 rfl (lv_at hl 1 rfl) ?_
          refine g_M_reads hx hb hown hK hW kF_RX7_142 dX7_readAll_129 ?_
          refine lv_bipush (v := 15) hx hb dX7_readAll_132 (by decide) ?_
          refine lv_icmp_ne (tgt := 141) hx hb dX7_readAll_134 (by decide) (fun c18 => ?_) (fun c18 => ?_)
          · have hf := br_n c18 hf
            refine lv_iconst (v := 0) hx hb dX7_readAll_141 (by decide) ?_
            exact h142 r17 0 μ _ _ _ hW (lv_sub hl [1, 0] rfl) hf
          · have hf := br_p c18 hf
            refine lv_iconst (v := 1) hx hb dX7_readAll_137 (by decide) ?_
            refine lv_goto (tgt := 142) hx hb dX7_readAll_138 (by decide) ?_
            exact h142 r17 1 μ _ _ _ hW (lv_sub hl [1, 0] rfl) hf
  have h67 : ∀ (k0 : Int32) (μ : Sg) (H : Heap) (locs : List Loc) (ls : Array Slot), Wk E σ μ dg s H locs → lv_has ls 6 [(0, .ref (eA E 9))] → fX7_readAll_b67 k0 μ = some μ' → W p l e (Rm 3 69) s m [.ref (eA E 9)].toArray below meth c H locs 0 0 (MQ below (Qv E σ μ' dg) [.ref (eA E 9)].toArray s 0 0 (eP E)) (F0 m 67 ls [.int k0, .ref (eA E 9)]) := by
    intro k0 μ  H locs ls hW hl hf
    unfold fX7_readAll_b67 at hf
    refine p_M_readFirst hx hb hown hK hW kF_RX7_148 dX7_readAll_67 (fun H locs hW => ?_)
    obtain ⟨u19, eu19⟩ : ∃ y : Sg, y = (up2 μ 20 15 k0) := ⟨_, rfl⟩
    have hf := nm_use eu19 hf
    rw [← eu19] at hW
    refine lv_aload_n hx hb dX7_readAll_70 rfl (lv_at hl 0 rfl) ?_
    refine lv_bipush (v := 44) hx hb dX7_readAll_71 (by decide) ?_
    refine lv_bipush (v := 44) hx hb dX7_readAll_73 (by decide) ?_
    obtain ⟨r21, u22, q20, hf⟩ := bd2_inv hf
    refine ss_callVi (As := [.int 44, .int 44]) hx hb hml hown hK hW kb_X7_takes kM_RX7_135 rfl (by decide) (c_fx (by decide)) (mX7_takes l (a1 := 44) (a2 := 44) q20) rfl dX7_readAll_75 rfl hl.1 (Nat.le_of_ble_eq_true rfl) ⟨Nat.le_of_ble_eq_true rfl, Nat.le_of_ble_eq_true rfl⟩ ⟨Nat.zero_le _, Nat.zero_le _⟩ (fun H locs hW => ?_)
    refine lv_istore_n (lv' := [(2, .int r21), (0, .ref (eA E 9))]) hx hb dX7_readAll_78 rfl hl (by decide) rfl (fun ls hl => ?_)
    refine lv_aload_n hx hb dX7_readAll_79 rfl (lv_at hl 1 rfl) ?_
    refine lv_aload_n hx hb dX7_readAll_80 rfl (lv_at hl 1 rfl) ?_
    refine lv_iconst (v := 0) hx hb dX7_readAll_81 (by decide) ?_
    refine lv_bipush (v := 48) hx hb dX7_readAll_82 (by decide) ?_
    obtain ⟨r24, u25, q23, hf⟩ := bd2_inv hf
    refine ss_callVi (As := [.int 0, .int 48]) hx hb hml hown hK hW kb_X7_takesNumber kM_RX7_145 rfl (by decide) (c_fx (by decide)) (mX7_takesNumber l (a1 := 0) (a2 := 48) q23) rfl dX7_readAll_84 rfl hl.1 (Nat.le_of_ble_eq_true rfl) ⟨Nat.le_of_ble_eq_true rfl, Nat.le_of_ble_eq_true rfl⟩ ⟨Nat.zero_le _, Nat.zero_le _⟩ (fun H locs hW => ?_)
    refine p_M_readNumber hx hb hown hK hW kF_RX7_151 dX7_readAll_87 (fun H locs hW => ?_)
    obtain ⟨u26, eu26⟩ : ∃ y : Sg, y = (up2 u25 20 16 r24) := ⟨_, rfl⟩
    have hf := nm_use eu26 hf
    rw [← eu26] at hW
    refine lv_aload_n hx hb dX7_readAll_90 rfl (lv_at hl 1 rfl) ?_
    refine lv_bipush (v := 58) hx hb dX7_readAll_91 (by decide) ?_
    refine lv_bipush (v := 58) hx hb dX7_readAll_93 (by decide) ?_
    obtain ⟨r28, u29, q27, hf⟩ := bd2_inv hf
    refine ss_callVi (As := [.int 58, .int 58]) hx hb hml hown hK hW kb_X7_takes kM_RX7_135 rfl (by decide) (c_fx (by decide)) (mX7_takes l (a1 := 58) (a2 := 58) q27) rfl dX7_readAll_95 rfl hl.1 (Nat.le_of_ble_eq_true rfl) ⟨Nat.le_of_ble_eq_true rfl, Nat.le_of_ble_eq_true rfl⟩ ⟨Nat.zero_le _, Nat.zero_le _⟩ (fun H locs hW => ?_)
    refine lv_istore_n (lv' := [(3, .int r28), (2, .int r21), (0, .ref (eA E 9))]) hx hb dX7_readAll_98 rfl hl (by decide) rfl (fun ls hl => ?_)
    exact h99 80 u29 _ _ _ hW (lv_sub hl [2] rfl) hf
  have h38 : ∀ (x1 : Int32) (k0 : Int32) (k1 : Int32) (μ : Sg) (H : Heap) (locs : List Loc) (ls : Array Slot), Wk E σ μ dg s H locs → lv_has ls 6 [(0, .ref (eA E 9)), (1, .int x1)] → fX7_readAll_b38 x1 k0 k1 μ = some μ' → W p l e (Rm 3 69) s m [.ref (eA E 9)].toArray below meth c H locs 0 0 (MQ below (Qv E σ μ' dg) [.ref (eA E 9)].toArray s 0 0 (eP E)) (F0 m 38 ls [.int k0, .int k1, .ref (eA E 9)]) := by
    intro x1 k0 k1 μ  H locs ls hW hl hf
    unfold fX7_readAll_b38 at hf
    refine lv_iadd hx hb dX7_readAll_38 ?_
    refine p_M_position hx hb hown hK hW kF_RX7_132 dX7_readAll_39 (fun H locs hW => ?_)
    obtain ⟨u30, eu30⟩ : ∃ y : Sg, y = (up2 μ 20 13 (k1 + k0)) := ⟨_, rfl⟩
    have hf := nm_use eu30 hf
    rw [← eu30] at hW
    refine lv_aload_n hx hb dX7_readAll_42 rfl (lv_at hl 0 rfl) ?_
    refine lv_iload_n hx hb dX7_readAll_43 rfl (lv_at hl 1 rfl) ?_
    refine lv_if_eq (tgt := 59) hx hb dX7_readAll_44 (by decide) (fun c31 => ?_) (fun c31 => ?_)
    · have hf := br_p c31 hf
      refine lv_aload_n hx hb dX7_readAll_59 rfl (lv_at hl 0 rfl) ?_
      refine lv_iconst (v := 0) hx hb dX7_readAll_60 (by decide) ?_
      refine lv_sipush (v := 2047) hx hb dX7_readAll_61 (by decide) ?_
      obtain ⟨r33, u34, q32, hf⟩ := bd2_inv hf
      refine ss_callVi (As := [.int 0, .int 2047]) hx hb hml hown hK hW kb_X7_takesNumber kM_RX7_145 rfl (by decide) (c_fx (by decide)) (mX7_takesNumber l (a1 := 0) (a2 := 2047) q32) rfl dX7_readAll_64 rfl hl.1 (Nat.le_of_ble_eq_true rfl) ⟨Nat.le_of_ble_eq_true rfl, Nat.le_of_ble_eq_true rfl⟩ ⟨Nat.zero_le _, Nat.zero_le _⟩ (fun H locs hW => ?_)
      exact h67 r33 u34 _ _ _ hW (lv_sub hl [0] rfl) hf
    · have hf := br_n c31 hf
      refine lv_aload_n hx hb dX7_readAll_47 rfl (lv_at hl 0 rfl) ?_
      refine lv_iconst (v := 1) hx hb dX7_readAll_48 (by decide) ?_
      refine lv_sipush (v := 2048) hx hb dX7_readAll_49 (by decide) ?_
      obtain ⟨r36, u37, q35, hf⟩ := bd2_inv hf
      refine ss_callVi (As := [.int 1, .int 2048]) hx hb hml hown hK hW kb_X7_takesNumber kM_RX7_145 rfl (by decide) (c_fx (by decide)) (mX7_takesNumber l (a1 := 1) (a2 := 2048) q35) rfl dX7_readAll_52 rfl hl.1 (Nat.le_of_ble_eq_true rfl) ⟨Nat.le_of_ble_eq_true rfl, Nat.le_of_ble_eq_true rfl⟩ ⟨Nat.zero_le _, Nat.zero_le _⟩ (fun H locs hW => ?_)
      refine lv_ineg hx hb dX7_readAll_55 ?_
      refine lv_goto (tgt := 67) hx hb dX7_readAll_56 (by decide) ?_
      exact h67 (-r36) u37 _ _ _ hW (lv_sub hl [0] rfl) hf
  refine lv_aload_n hx hb dX7_readAll_0 rfl (lv_at hl 0 rfl) ?_
  refine lv_iconst (v := 0) hx hb dX7_readAll_1 (by decide) ?_
  refine p_M_position hx hb hown hK hW kF_RX7_132 dX7_readAll_2 (fun H locs hW => ?_)
  obtain ⟨u38, eu38⟩ : ∃ y : Sg, y = (up2 μ 20 13 0) := ⟨_, rfl⟩
  have hf := nm_use eu38 hf
  rw [← eu38] at hW
  refine lv_aload_n hx hb dX7_readAll_5 rfl (lv_at hl 0 rfl) ?_
  refine lv_iconst (v := 0) hx hb dX7_readAll_6 (by decide) ?_
  refine p_M_isWrong hx hb hown hK hW (by decide) kF_RX7_128 dX7_readAll_7 (fun H locs hW => ?_)
  obtain ⟨u39, eu39⟩ : ∃ y : Sg, y = (up2 u38 20 14 0) := ⟨_, rfl⟩
  have hf := nm_use eu39 hf
  rw [← eu39] at hW
  refine lv_aload_n hx hb dX7_readAll_10 rfl (lv_at hl 0 rfl) ?_
  refine lv_iconst (v := 0) hx hb dX7_readAll_11 (by decide) ?_
  refine p_M_reads hx hb hown hK hW kF_RX7_142 dX7_readAll_12 (fun H locs hW => ?_)
  obtain ⟨u40, eu40⟩ : ∃ y : Sg, y = (up2 u39 20 18 0) := ⟨_, rfl⟩
  have hf := nm_use eu40 hf
  rw [← eu40] at hW
  refine lv_aload_n hx hb dX7_readAll_15 rfl (lv_at hl 0 rfl) ?_
  refine lv_bipush (v := 45) hx hb dX7_readAll_16 (by decide) ?_
  refine lv_bipush (v := 45) hx hb dX7_readAll_18 (by decide) ?_
  obtain ⟨r42, q41, hf⟩ := bd_inv hf
  refine ss_callVi (As := [.int 45, .int 45]) hx hb hml hown hK hW kb_X7_isNext kM_RX7_138 rfl (by decide) (c_fx (by decide)) (mX7_isNext l (a1 := 45) (a2 := 45) q41) rfl dX7_readAll_20 rfl hl.1 (Nat.le_of_ble_eq_true rfl) ⟨Nat.le_of_ble_eq_true rfl, Nat.le_of_ble_eq_true rfl⟩ ⟨Nat.zero_le _, Nat.zero_le _⟩ (fun H locs hW => ?_)
  refine lv_istore_n (lv' := [(1, .int r42), (0, .ref (eA E 9))]) hx hb dX7_readAll_23 rfl hl (by decide) rfl (fun ls hl => ?_)
  refine lv_aload_n hx hb dX7_readAll_24 rfl (lv_at hl 1 rfl) ?_
  refine lv_dup hx hb dX7_readAll_25 rfl ?_
  refine g_M_position hx hb hown hK hW kF_RX7_132 dX7_readAll_26 ?_
  refine lv_iload_n hx hb dX7_readAll_29 rfl (lv_at hl 0 rfl) ?_
  refine lv_if_eq (tgt := 37) hx hb dX7_readAll_30 (by decide) (fun c43 => ?_) (fun c43 => ?_)
  · have hf := br_p c43 hf
    refine lv_iconst (v := 0) hx hb dX7_readAll_37 (by decide) ?_
    exact h38 r42 0 (u40 20 13) u40 _ _ _ hW (lv_sub hl [1, 0] rfl) hf
  · have hf := br_n c43 hf
    refine lv_iconst (v := 1) hx hb dX7_readAll_33 (by decide) ?_
    refine lv_goto (tgt := 38) hx hb dX7_readAll_34 (by decide) ?_
    exact h38 r42 1 (u40 20 13) u40 _ _ _ hW (lv_sub hl [1, 0] rfl) hf
def fX7_firstError (μ : Sg) : Option (Int32 × Sg) := nm (up2 μ 20 0 0) fun u1 => bd (fX7_readAll u1) fun u3 => if (u3 20 14) = 0 then (some ((u3 20 7), u3)) else (some ((u3 20 13), u3))
set_option maxHeartbeats 4000000 in
set_option maxRecDepth 100000 in
theorem mX7_firstError (l : Launch) {E : En} {σ μ : Sg} {dg : Int64}   {r : Int32} {μ' : Sg} (hf : fX7_firstError μ = some (r, μ')) : Met l yX7_firstError [.code yX7_firstError cX7_firstError 1 (some .int)] (Rm 4 94) (va_Pc [.ref (eA E 9)] (Wd E σ μ dg)) (Qi E σ μ' dg r) 0 0 (eP E) := by
  refine ss_of (by decide) (Nat.le_of_ble_eq_true rfl) (fun p e s m below meth c hx hb hr hlk hml hown hK hW ls hl => ?_)
  have hown : s.vm.findClass RX7 = some m.cls := hown
  have hl : lv_has ls 1 [(0, .ref (eA E 9))] := hl
  unfold fX7_firstError at hf
  refine lv_aload_n hx hb dX7_firstError_0 rfl (lv_at hl 0 rfl) ?_
  refine lv_iconst (v := 0) hx hb dX7_firstError_1 (by decide) ?_
  refine p_M_thrown hx hb hown hK hW kF_RX7_44 dX7_firstError_2 (fun H locs hW => ?_)
  obtain ⟨u1, eu1⟩ : ∃ y : Sg, y = (up2 μ 20 0 0) := ⟨_, rfl⟩
  have hf := nm_use eu1 hf
  rw [← eu1] at hW
  refine lv_aload_n hx hb dX7_firstError_5 rfl (lv_at hl 0 rfl) ?_
  obtain ⟨u3, q2, hf⟩ := bd_inv hf
  refine ss_callVv (As := []) hx hb hml hown hK hW kb_X7_readAll kM_RX7_154 rfl (by decide) (c_fx (by decide)) (mX7_readAll l  q2) rfl dX7_firstError_6 rfl hl.1 (Nat.le_of_ble_eq_true rfl) ⟨Nat.le_of_ble_eq_true rfl, Nat.le_of_ble_eq_true rfl⟩ ⟨Nat.zero_le _, Nat.zero_le _⟩ (fun H locs hW => ?_)
  refine lv_aload_n hx hb dX7_firstError_9 rfl (lv_at hl 0 rfl) ?_
  refine g_M_isWrong hx hb hown hK hW kF_RX7_128 dX7_firstError_10 ?_
  refine lv_if_eq (tgt := 23) hx hb dX7_firstError_13 (by decide) (fun c4 => ?_) (fun c4 => ?_)
  · have hf := br_p c4 hf
    refine lv_aload_n hx hb dX7_firstError_23 rfl (lv_at hl 0 rfl) ?_
    refine g_M_length hx hb hown hK hW kF_RX7_125 dX7_firstError_24 ?_
    cases hf
    exact ss_iret hx hb hr hlk hW rfl dX7_firstError_27
  · have hf := br_n c4 hf
    refine lv_aload_n hx hb dX7_firstError_16 rfl (lv_at hl 0 rfl) ?_
    refine g_M_position hx hb hown hK hW kF_RX7_132 dX7_firstError_17 ?_
    refine lv_goto (tgt := 27) hx hb dX7_firstError_20 (by decide) ?_
    cases hf
    exact ss_iret hx hb hr hlk hW rfl dX7_firstError_27
def fX7_goBack_L42 (a1 : Int32) (n : Nat) (x2 : Int32) (μ : Sg) : Option (Int32 × Sg) := match n with
  | 0 => none
  | n + 1 => if 295 ≤ x2 then (some ((μ 0 0), μ)) else (gd (¬ (((295 * a1) + x2) < 0 ∨ 590 ≤ (((295 * a1) + x2)).toNatClampNeg)) <| gd (¬ (x2 < 0 ∨ 295 ≤ (x2).toNatClampNeg)) <| nm (up2 μ 0 ((x2).toNatClampNeg) (μ 2 (((295 * a1) + x2)).toNatClampNeg)) fun u4 => nm (x2 + 1) fun x2_5 => (fun x2 μ => fX7_goBack_L42 a1 n x2 μ) x2_5 u4)
def fX7_goBack_b28 (a1 : Int32) (k0 : Int32) (μ : Sg) : Option (Int32 × Sg) := bd2 (fX7_holds k0 μ) fun r7 u8 => if r7 = 0 then (some (0, u8)) else (bd (fX7_save u8) fun u11 => fX7_goBack_L42 a1 400 0 u11)
def fX7_goBack (a1 : Int32) (μ : Sg) : Option (Int32 × Sg) := bd (fX7_in a1 0 1) fun r13 => if r13 = 0 then (fX7_goBack_b28 a1 1 μ) else (gd (¬ (a1 < 0 ∨ 2 ≤ (a1).toNatClampNeg)) <| if (μ 3 (a1).toNatClampNeg) = 0 then (fX7_goBack_b28 a1 2 μ) else (fX7_goBack_b28 a1 0 μ))
set_option maxHeartbeats 4000000 in
set_option maxRecDepth 100000 in
theorem mX7_goBack (l : Launch) {E : En} {σ μ : Sg} {dg : Int64} {a1 : Int32}  {r : Int32} {μ' : Sg} (hf : fX7_goBack a1 μ = some (r, μ')) : Met l yX7_goBack [.code yX7_goBack cX7_goBack 3 (some .int)] (Rm 1 22) (va_Pc [.ref (eA E 9), .int a1] (Wd E σ μ dg)) (Qi E σ μ' dg r) 0 0 (eP E) := by
  refine ss_of (by decide) (Nat.le_of_ble_eq_true rfl) (fun p e s m below meth c hx hb hr hlk hml hown hK hW ls hl => ?_)
  have hown : s.vm.findClass RX7 = some m.cls := hown
  have hl : lv_has ls 3 [(0, .ref (eA E 9)), (1, .int a1)] := hl
  unfold fX7_goBack at hf
  have h42 : ∀ (n42 : Nat) (x2 : Int32) (μ : Sg) (H : Heap) (locs : List Loc) (ls : Array Slot), Wk E σ μ dg s H locs → lv_has ls 3 [(0, .ref (eA E 9)), (1, .int a1), (2, .int x2)] → fX7_goBack_L42 a1 n42 x2 μ = some (r, μ') → W p l e (Rm 1 22) s m [.ref (eA E 9), .int a1].toArray below meth c H locs 0 0 (MQ below (Qi E σ μ' dg r) [.ref (eA E 9), .int a1].toArray s 0 0 (eP E)) (F0 m 42 ls []) := by
    intro n42
    induction n42 with
    | zero =>
      intro x2 μ  H locs ls hW hl hf
      exact absurd hf (by simp [fX7_goBack_L42])
    | succ n42 ih42 =>
      intro x2 μ  H locs ls hW hl hf
      rw [fX7_goBack_L42] at hf
      refine lv_iload_n hx hb dX7_goBack_42 rfl (lv_at hl 2 rfl) ?_
      refine lv_sipush (v := 295) hx hb dX7_goBack_43 (by decide) ?_
      refine lv_icmp_ge (tgt := 73) hx hb dX7_goBack_46 (by decide) (fun c1 => ?_) (fun c1 => ?_)
      · have hf := br_p c1 hf
        refine lv_aload_n hx hb dX7_goBack_73 rfl (lv_at hl 0 rfl) ?_
        refine g_M_s hx hb hown hK hW kF_RX7_7 dX7_goBack_74 ?_
        refine lv_iconst (v := 0) hx hb dX7_goBack_77 (by decide) ?_
        refine l_M0 (k0 := 0) hx hb hK hW (by decide) (show ¬ ((0 : Int32) < 0 ∨ 295 ≤ (0 : Int32).toNatClampNeg) by decide) dX7_goBack_78 ?_
        cases hf
        exact ss_iret hx hb hr hlk hW rfl dX7_goBack_79
      · have hf := br_n c1 hf
        refine lv_aload_n hx hb dX7_goBack_49 rfl (lv_at hl 0 rfl) ?_
        refine g_M_s hx hb hown hK hW kF_RX7_7 dX7_goBack_50 ?_
        refine lv_iload_n hx hb dX7_goBack_53 rfl (lv_at hl 2 rfl) ?_
        refine lv_aload_n hx hb dX7_goBack_54 rfl (lv_at hl 0 rfl) ?_
        refine g_M_slots hx hb hown hK hW kF_RX7_16 dX7_goBack_55 ?_
        refine lv_sipush (v := 295) hx hb dX7_goBack_58 (by decide) ?_
        refine lv_iload_n hx hb dX7_goBack_61 rfl (lv_at hl 1 rfl) ?_
        refine lv_imul hx hb dX7_goBack_62 ?_
        refine lv_iload_n hx hb dX7_goBack_63 rfl (lv_at hl 2 rfl) ?_
        refine lv_iadd hx hb dX7_goBack_64 ?_
        obtain ⟨hk2, hf⟩ := gd_inv hf
        refine l_M2 hx hb hK hW rfl hk2 dX7_goBack_65 ?_
        obtain ⟨hk3, hf⟩ := gd_inv hf
        refine s_M0 hx hb hK hW rfl hk3 dX7_goBack_66 (fun H locs hW => ?_)
        obtain ⟨u4, eu4⟩ : ∃ y : Sg, y = (up2 μ 0 ((x2).toNatClampNeg) (μ 2 (((295 * a1) + x2)).toNatClampNeg)) := ⟨_, rfl⟩
        have hf := nm_use eu4 hf
        rw [← eu4] at hW
        obtain ⟨x2_5, ex2_5⟩ : ∃ y : Int32, y = (x2 + 1) := ⟨_, rfl⟩
        have hf := nm_use ex2_5 hf
        refine lv_iinc (v := x2_5) (lv' := [(2, .int x2_5), (0, .ref (eA E 9)), (1, .int a1)]) hx hb dX7_goBack_67 hl (k := 2) rfl (by rw [ex2_5]; rfl) (by decide) rfl (fun ls hl => ?_)
        refine lv_goto (tgt := 42) hx hb dX7_goBack_70 (by decide) ?_
        exact ih42 x2_5 u4 _ _ _ hW (lv_sub hl [1, 2, 0] rfl) hf
  have h28 : ∀ (k0 : Int32) (μ : Sg) (H : Heap) (locs : List Loc) (ls : Array Slot), Wk E σ μ dg s H locs → lv_has ls 3 [(0, .ref (eA E 9)), (1, .int a1)] → fX7_goBack_b28 a1 k0 μ = some (r, μ') → W p l e (Rm 1 22) s m [.ref (eA E 9), .int a1].toArray below meth c H locs 0 0 (MQ below (Qi E σ μ' dg r) [.ref (eA E 9), .int a1].toArray s 0 0 (eP E)) (F0 m 28 ls [.int k0, .ref (eA E 9)]) := by
    intro k0 μ  H locs ls hW hl hf
    unfold fX7_goBack_b28 at hf
    obtain ⟨r7, u8, q6, hf⟩ := bd2_inv hf
    refine ss_callVi (As := [.int k0]) hx hb hml hown hK hW kb_X7_holds kM_RX7_97 rfl (by decide) (c_fx (by decide)) (mX7_holds l (a1 := k0) q6) rfl dX7_goBack_28 rfl hl.1 (Nat.le_of_ble_eq_true rfl) ⟨Nat.le_of_ble_eq_true rfl, Nat.le_of_ble_eq_true rfl⟩ ⟨Nat.zero_le _, Nat.zero_le _⟩ (fun H locs hW => ?_)
    refine lv_if_ne (tgt := 36) hx hb dX7_goBack_31 (by decide) (fun c9 => ?_) (fun c9 => ?_)
    · have hf := br_n c9 hf
      refine lv_aload_n hx hb dX7_goBack_36 rfl (lv_at hl 0 rfl) ?_
      obtain ⟨u11, q10, hf⟩ := bd_inv hf
      refine ss_callVv (As := []) hx hb hml hown hK hW kb_X7_save kM_RX7_100 rfl (by decide) (c_fx (by decide)) (mX7_save l  q10) rfl dX7_goBack_37 rfl hl.1 (Nat.le_of_ble_eq_true rfl) ⟨Nat.le_of_ble_eq_true rfl, Nat.le_of_ble_eq_true rfl⟩ ⟨Nat.zero_le _, Nat.zero_le _⟩ (fun H locs hW => ?_)
      refine lv_iconst (v := 0) hx hb dX7_goBack_40 (by decide) ?_
      refine lv_istore_n (lv' := [(2, .int 0), (0, .ref (eA E 9)), (1, .int a1)]) hx hb dX7_goBack_41 rfl hl (by decide) rfl (fun ls hl => ?_)
      exact h42 400 0 u11 _ _ _ hW (lv_sub hl [1, 2, 0] rfl) hf
    · have hf := br_p c9 hf
      refine lv_iconst (v := 0) hx hb dX7_goBack_34 (by decide) ?_
      cases hf
      exact ss_iret hx hb hr hlk hW rfl dX7_goBack_35
  refine lv_aload_n hx hb dX7_goBack_0 rfl (lv_at hl 0 rfl) ?_
  refine lv_iload_n hx hb dX7_goBack_1 rfl (lv_at hl 1 rfl) ?_
  refine lv_iconst (v := 0) hx hb dX7_goBack_2 (by decide) ?_
  refine lv_iconst (v := 1) hx hb dX7_goBack_3 (by decide) ?_
  obtain ⟨r13, q12, hf⟩ := bd_inv hf
  refine ss_callSi (As := [.int a1, .int 0, .int 1]) hx hb hml hown hK hW kb_X7_in kM_RX7_51 (mX7_in l (a0 := a1) (a1 := 0) (a2 := 1) q12) rfl dX7_goBack_4 rfl hl.1 (Nat.le_of_ble_eq_true rfl) ⟨Nat.le_of_ble_eq_true rfl, Nat.le_of_ble_eq_true rfl⟩ ⟨Nat.zero_le _, Nat.zero_le _⟩ (fun H locs hW => ?_)
  refine lv_if_ne (tgt := 14) hx hb dX7_goBack_7 (by decide) (fun c14 => ?_) (fun c14 => ?_)
  · have hf := br_n c14 hf
    refine lv_aload_n hx hb dX7_goBack_14 rfl (lv_at hl 0 rfl) ?_
    refine g_M_isKept hx hb hown hK hW kF_RX7_19 dX7_goBack_15 ?_
    refine lv_iload_n hx hb dX7_goBack_18 rfl (lv_at hl 1 rfl) ?_
    obtain ⟨hk15, hf⟩ := gd_inv hf
    refine l_M3 hx hb hK hW rfl hk15 dX7_goBack_19 ?_
    refine lv_if_ne (tgt := 27) hx hb dX7_goBack_20 (by decide) (fun c16 => ?_) (fun c16 => ?_)
    · have hf := br_n c16 hf
      refine lv_iconst (v := 0) hx hb dX7_goBack_27 (by decide) ?_
      exact h28 0 μ _ _ _ hW (lv_sub hl [0, 1] rfl) hf
    · have hf := br_p c16 hf
      refine lv_iconst (v := 2) hx hb dX7_goBack_23 (by decide) ?_
      refine lv_goto (tgt := 28) hx hb dX7_goBack_24 (by decide) ?_
      exact h28 2 μ _ _ _ hW (lv_sub hl [0, 1] rfl) hf
  · have hf := br_p c14 hf
    refine lv_iconst (v := 1) hx hb dX7_goBack_10 (by decide) ?_
    refine lv_goto (tgt := 28) hx hb dX7_goBack_11 (by decide) ?_
    exact h28 1 μ _ _ _ hW (lv_sub hl [0, 1] rfl) hf
def fX7_ifBlock_b29 (a1 : Int32) (a2 : Int32) (a3 : Int32) (k0 : Int32) (μ : Sg) : Option (Int32 × Sg) := bd2 (fX7_holds k0 μ) fun r2 u3 => if r2 = 0 then (some (0, u3)) else (bd (fX7_errorOf a1 a2 a3 u3) fun r6 => some (r6, u3))
def fX7_ifBlock (a1 : Int32) (a2 : Int32) (a3 : Int32) (μ : Sg) : Option (Int32 × Sg) := bd (fX7_areSamples a1 a2 μ) fun r8 => if r8 = 0 then (fX7_ifBlock_b29 a1 a2 a3 1 μ) else (bd (fX7_in a3 0 48) fun r11 => if r11 = 0 then (fX7_ifBlock_b29 a1 a2 a3 2 μ) else (fX7_ifBlock_b29 a1 a2 a3 0 μ))
set_option maxHeartbeats 4000000 in
set_option maxRecDepth 100000 in
theorem mX7_ifBlock (l : Launch) {E : En} {σ μ : Sg} {dg : Int64} {a1 : Int32} {a2 : Int32} {a3 : Int32}  {r : Int32} {μ' : Sg} (hf : fX7_ifBlock a1 a2 a3 μ = some (r, μ')) : Met l yX7_ifBlock [.code yX7_ifBlock cX7_ifBlock 4 (some .int)] (Rm 3 73) (va_Pc [.ref (eA E 9), .int a1, .int a2, .int a3] (Wd E σ μ dg)) (Qi E σ μ' dg r) 0 0 (eP E) := by
  refine ss_of (by decide) (Nat.le_of_ble_eq_true rfl) (fun p e s m below meth c hx hb hr hlk hml hown hK hW ls hl => ?_)
  have hown : s.vm.findClass RX7 = some m.cls := hown
  have hl : lv_has ls 4 [(0, .ref (eA E 9)), (1, .int a1), (2, .int a2), (3, .int a3)] := hl
  unfold fX7_ifBlock at hf
  have h29 : ∀ (k0 : Int32) (μ : Sg) (H : Heap) (locs : List Loc) (ls : Array Slot), Wk E σ μ dg s H locs → lv_has ls 4 [(0, .ref (eA E 9)), (1, .int a1), (2, .int a2), (3, .int a3)] → fX7_ifBlock_b29 a1 a2 a3 k0 μ = some (r, μ') → W p l e (Rm 3 73) s m [.ref (eA E 9), .int a1, .int a2, .int a3].toArray below meth c H locs 0 0 (MQ below (Qi E σ μ' dg r) [.ref (eA E 9), .int a1, .int a2, .int a3].toArray s 0 0 (eP E)) (F0 m 29 ls [.int k0, .ref (eA E 9)]) := by
    intro k0 μ  H locs ls hW hl hf
    unfold fX7_ifBlock_b29 at hf
    obtain ⟨r2, u3, q1, hf⟩ := bd2_inv hf
    refine ss_callVi (As := [.int k0]) hx hb hml hown hK hW kb_X7_holds kM_RX7_97 rfl (by decide) (c_fx (by decide)) (mX7_holds l (a1 := k0) q1) rfl dX7_ifBlock_29 rfl hl.1 (Nat.le_of_ble_eq_true rfl) ⟨Nat.le_of_ble_eq_true rfl, Nat.le_of_ble_eq_true rfl⟩ ⟨Nat.zero_le _, Nat.zero_le _⟩ (fun H locs hW => ?_)
    refine lv_if_eq (tgt := 45) hx hb dX7_ifBlock_32 (by decide) (fun c4 => ?_) (fun c4 => ?_)
    · have hf := br_p c4 hf
      refine lv_iconst (v := 0) hx hb dX7_ifBlock_45 (by decide) ?_
      cases hf
      exact ss_iret hx hb hr hlk hW rfl dX7_ifBlock_46
    · have hf := br_n c4 hf
      refine lv_aload_n hx hb dX7_ifBlock_35 rfl (lv_at hl 0 rfl) ?_
      refine lv_iload_n hx hb dX7_ifBlock_36 rfl (lv_at hl 1 rfl) ?_
      refine lv_iload_n hx hb dX7_ifBlock_37 rfl (lv_at hl 2 rfl) ?_
      refine lv_iload_n hx hb dX7_ifBlock_38 rfl (lv_at hl 3 rfl) ?_
      obtain ⟨r6, q5, hf⟩ := bd_inv hf
      refine ss_callVi (As := [.int a1, .int a2, .int a3]) hx hb hml hown hK hW kb_X7_errorOf kM_RX7_85 rfl (by decide) (c_fx (by decide)) (mX7_errorOf l (a1 := a1) (a2 := a2) (a3 := a3) q5) rfl dX7_ifBlock_39 rfl hl.1 (Nat.le_of_ble_eq_true rfl) ⟨Nat.le_of_ble_eq_true rfl, Nat.le_of_ble_eq_true rfl⟩ ⟨Nat.zero_le _, Nat.zero_le _⟩ (fun H locs hW => ?_)
      refine lv_goto (tgt := 46) hx hb dX7_ifBlock_42 (by decide) ?_
      cases hf
      exact ss_iret hx hb hr hlk hW rfl dX7_ifBlock_46
  refine lv_aload_n hx hb dX7_ifBlock_0 rfl (lv_at hl 0 rfl) ?_
  refine lv_aload_n hx hb dX7_ifBlock_1 rfl (lv_at hl 0 rfl) ?_
  refine lv_iload_n hx hb dX7_ifBlock_2 rfl (lv_at hl 1 rfl) ?_
  refine lv_iload_n hx hb dX7_ifBlock_3 rfl (lv_at hl 2 rfl) ?_
  obtain ⟨r8, q7, hf⟩ := bd_inv hf
  refine ss_callVi (As := [.int a1, .int a2]) hx hb hml hown hK hW kb_X7_areSamples kM_RX7_191 rfl (by decide) (c_fx (by decide)) (mX7_areSamples l (a1 := a1) (a2 := a2) q7) rfl dX7_ifBlock_4 rfl hl.1 (Nat.le_of_ble_eq_true rfl) ⟨Nat.le_of_ble_eq_true rfl, Nat.le_of_ble_eq_true rfl⟩ ⟨Nat.zero_le _, Nat.zero_le _⟩ (fun H locs hW => ?_)
  refine lv_if_ne (tgt := 14) hx hb dX7_ifBlock_7 (by decide) (fun c9 => ?_) (fun c9 => ?_)
  · have hf := br_n c9 hf
    refine lv_iload_n hx hb dX7_ifBlock_14 rfl (lv_at hl 3 rfl) ?_
    refine lv_iconst (v := 0) hx hb dX7_ifBlock_15 (by decide) ?_
    refine lv_bipush (v := 48) hx hb dX7_ifBlock_16 (by decide) ?_
    obtain ⟨r11, q10, hf⟩ := bd_inv hf
    refine ss_callSi (As := [.int a3, .int 0, .int 48]) hx hb hml hown hK hW kb_X7_in kM_RX7_51 (mX7_in l (a0 := a3) (a1 := 0) (a2 := 48) q10) rfl dX7_ifBlock_18 rfl hl.1 (Nat.le_of_ble_eq_true rfl) ⟨Nat.le_of_ble_eq_true rfl, Nat.le_of_ble_eq_true rfl⟩ ⟨Nat.zero_le _, Nat.zero_le _⟩ (fun H locs hW => ?_)
    refine lv_if_ne (tgt := 28) hx hb dX7_ifBlock_21 (by decide) (fun c12 => ?_) (fun c12 => ?_)
    · have hf := br_n c12 hf
      refine lv_iconst (v := 0) hx hb dX7_ifBlock_28 (by decide) ?_
      exact h29 0 μ _ _ _ hW (lv_sub hl [0, 1, 2, 3] rfl) hf
    · have hf := br_p c12 hf
      refine lv_iconst (v := 2) hx hb dX7_ifBlock_24 (by decide) ?_
      refine lv_goto (tgt := 29) hx hb dX7_ifBlock_25 (by decide) ?_
      exact h29 2 μ _ _ _ hW (lv_sub hl [0, 1, 2, 3] rfl) hf
  · have hf := br_p c9 hf
    refine lv_iconst (v := 1) hx hb dX7_ifBlock_10 (by decide) ?_
    refine lv_goto (tgt := 29) hx hb dX7_ifBlock_11 (by decide) ?_
    exact h29 1 μ _ _ _ hW (lv_sub hl [0, 1, 2, 3] rfl) hf
def fX7_ifCoded_b64 (a1 : Int32) (a2 : Int32) (a3 : Int32) (a4 : Int32) (k0 : Int32) (μ : Sg) : Option (Int32 × Sg) := bd2 (fX7_holds k0 μ) fun r2 u3 => if r2 = 0 then (some (0, u3)) else (bd (fX7_codeFor a1 a2 a3 u3) fun r6 => if a4 = 0 then (some (r6, u3)) else (if a4 = 1 then (bd (fX7_nextGuess a1 a2 r6 u3) fun r12 => some ((r12 + 10000), u3)) else (bd (fX7_nextNumber a2 r6) fun r10 => some (r10, u3))))
def fX7_ifCoded_b51 (a1 : Int32) (a2 : Int32) (a3 : Int32) (a4 : Int32) (k0 : Int32) (μ : Sg) : Option (Int32 × Sg) := if k0 = 0 then (fX7_ifCoded_b64 a1 a2 a3 a4 1 μ) else (fX7_ifCoded_b64 a1 a2 a3 a4 0 μ)
def fX7_ifCoded_b50 (a1 : Int32) (a2 : Int32) (a3 : Int32) (a4 : Int32) (μ : Sg) : Option (Int32 × Sg) := fX7_ifCoded_b51 a1 a2 a3 a4 0 μ
def fX7_ifCoded (a1 : Int32) (a2 : Int32) (a3 : Int32) (a4 : Int32) (μ : Sg) : Option (Int32 × Sg) := bd (fX7_in a1 (-2048) 2047) fun r15 => if r15 = 0 then (fX7_ifCoded_b50 a1 a2 a3 a4 μ) else (bd (fX7_in a2 0 48) fun r18 => if r18 = 0 then (fX7_ifCoded_b50 a1 a2 a3 a4 μ) else (bd (fX7_in a3 (-2048) 2047) fun r21 => if r21 = 0 then (fX7_ifCoded_b50 a1 a2 a3 a4 μ) else (bd (fX7_in a4 0 2) fun r24 => if r24 = 0 then (fX7_ifCoded_b50 a1 a2 a3 a4 μ) else (fX7_ifCoded_b51 a1 a2 a3 a4 1 μ))))
set_option maxHeartbeats 4000000 in
set_option maxRecDepth 100000 in
theorem mX7_ifCoded (l : Launch) {E : En} {σ μ : Sg} {dg : Int64} {a1 : Int32} {a2 : Int32} {a3 : Int32} {a4 : Int32}  {r : Int32} {μ' : Sg} (hf : fX7_ifCoded a1 a2 a3 a4 μ = some (r, μ')) : Met l yX7_ifCoded [.code yX7_ifCoded cX7_ifCoded 7 (some .int)] (Rm 2 45) (va_Pc [.ref (eA E 9), .int a1, .int a2, .int a3, .int a4] (Wd E σ μ dg)) (Qi E σ μ' dg r) 0 0 (eP E) := by
  refine ss_of (by decide) (Nat.le_of_ble_eq_true rfl) (fun p e s m below meth c hx hb hr hlk hml hown hK hW ls hl => ?_)
  have hown : s.vm.findClass RX7 = some m.cls := hown
  have hl : lv_has ls 7 [(0, .ref (eA E 9)), (1, .int a1), (2, .int a2), (3, .int a3), (4, .int a4)] := hl
  unfold fX7_ifCoded at hf
  have h64 : ∀ (k0 : Int32) (μ : Sg) (H : Heap) (locs : List Loc) (ls : Array Slot), Wk E σ μ dg s H locs → lv_has ls 7 [(0, .ref (eA E 9)), (1, .int a1), (2, .int a2), (3, .int a3), (4, .int a4)] → fX7_ifCoded_b64 a1 a2 a3 a4 k0 μ = some (r, μ') → W p l e (Rm 2 45) s m [.ref (eA E 9), .int a1, .int a2, .int a3, .int a4].toArray below meth c H locs 0 0 (MQ below (Qi E σ μ' dg r) [.ref (eA E 9), .int a1, .int a2, .int a3, .int a4].toArray s 0 0 (eP E)) (F0 m 64 ls [.int k0, .ref (eA E 9)]) := by
    intro k0 μ  H locs ls hW hl hf
    unfold fX7_ifCoded_b64 at hf
    obtain ⟨r2, u3, q1, hf⟩ := bd2_inv hf
    refine ss_callVi (As := [.int k0]) hx hb hml hown hK hW kb_X7_holds kM_RX7_97 rfl (by decide) (c_fx (by decide)) (mX7_holds l (a1 := k0) q1) rfl dX7_ifCoded_64 rfl hl.1 (Nat.le_of_ble_eq_true rfl) ⟨Nat.le_of_ble_eq_true rfl, Nat.le_of_ble_eq_true rfl⟩ ⟨Nat.zero_le _, Nat.zero_le _⟩ (fun H locs hW => ?_)
    refine lv_if_ne (tgt := 72) hx hb dX7_ifCoded_67 (by decide) (fun c4 => ?_) (fun c4 => ?_)
    · have hf := br_n c4 hf
      refine lv_aload_n hx hb dX7_ifCoded_72 rfl (lv_at hl 0 rfl) ?_
      refine lv_iload_n hx hb dX7_ifCoded_73 rfl (lv_at hl 1 rfl) ?_
      refine lv_iload_n hx hb dX7_ifCoded_74 rfl (lv_at hl 2 rfl) ?_
      refine lv_iload_n hx hb dX7_ifCoded_75 rfl (lv_at hl 3 rfl) ?_
      obtain ⟨r6, q5, hf⟩ := bd_inv hf
      refine ss_callVi (As := [.int a1, .int a2, .int a3]) hx hb hml hown hK hW kb_X7_codeFor kM_RX7_71 rfl (by decide) (c_fx (by decide)) (mX7_codeFor l (a1 := a1) (a2 := a2) (a3 := a3) q5) rfl dX7_ifCoded_76 rfl hl.1 (Nat.le_of_ble_eq_true rfl) ⟨Nat.le_of_ble_eq_true rfl, Nat.le_of_ble_eq_true rfl⟩ ⟨Nat.zero_le _, Nat.zero_le _⟩ (fun H locs hW => ?_)
      refine lv_istore (lv' := [(6, .int r6), (0, .ref (eA E 9)), (1, .int a1), (2, .int a2), (3, .int a3), (4, .int a4)]) hx hb dX7_ifCoded_79 hl (by decide) rfl (fun ls hl => ?_)
      refine lv_iload hx hb dX7_ifCoded_81 (lv_at hl 5 rfl) ?_
      refine lv_if_ne (tgt := 91) hx hb dX7_ifCoded_83 (by decide) (fun c7 => ?_) (fun c7 => ?_)
      · have hf := br_n c7 hf
        refine lv_iload hx hb dX7_ifCoded_91 (lv_at hl 5 rfl) ?_
        refine lv_iconst (v := 1) hx hb dX7_ifCoded_93 (by decide) ?_
        refine lv_icmp_ne (tgt := 112) hx hb dX7_ifCoded_94 (by decide) (fun c8 => ?_) (fun c8 => ?_)
        · have hf := br_n c8 hf
          refine lv_iload_n hx hb dX7_ifCoded_112 rfl (lv_at hl 3 rfl) ?_
          refine lv_iload hx hb dX7_ifCoded_113 (lv_at hl 0 rfl) ?_
          obtain ⟨r10, q9, hf⟩ := bd_inv hf
          refine ss_callSi (As := [.int a2, .int r6]) hx hb hml hown hK hW kb_X7_nextNumber kM_RX7_78 (mX7_nextNumber l (a0 := a2) (a1 := r6) q9) rfl dX7_ifCoded_115 rfl hl.1 (Nat.le_of_ble_eq_true rfl) ⟨Nat.le_of_ble_eq_true rfl, Nat.le_of_ble_eq_true rfl⟩ ⟨Nat.zero_le _, Nat.zero_le _⟩ (fun H locs hW => ?_)
          cases hf
          exact ss_iret hx hb hr hlk hW rfl dX7_ifCoded_118
        · have hf := br_p c8 hf
          refine lv_aload_n hx hb dX7_ifCoded_97 rfl (lv_at hl 1 rfl) ?_
          refine lv_iload_n hx hb dX7_ifCoded_98 rfl (lv_at hl 2 rfl) ?_
          refine lv_iload_n hx hb dX7_ifCoded_99 rfl (lv_at hl 3 rfl) ?_
          refine lv_iload hx hb dX7_ifCoded_100 (lv_at hl 0 rfl) ?_
          obtain ⟨r12, q11, hf⟩ := bd_inv hf
          refine ss_callVi (As := [.int a1, .int a2, .int r6]) hx hb hml hown hK hW kb_X7_nextGuess kM_RX7_75 rfl (by decide) (c_fx (by decide)) (mX7_nextGuess l (a1 := a1) (a2 := a2) (a3 := r6) q11) rfl dX7_ifCoded_102 rfl hl.1 (Nat.le_of_ble_eq_true rfl) ⟨Nat.le_of_ble_eq_true rfl, Nat.le_of_ble_eq_true rfl⟩ ⟨Nat.zero_le _, Nat.zero_le _⟩ (fun H locs hW => ?_)
          refine lv_sipush (v := 10000) hx hb dX7_ifCoded_105 (by decide) ?_
          refine lv_iadd hx hb dX7_ifCoded_108 ?_
          refine lv_goto (tgt := 118) hx hb dX7_ifCoded_109 (by decide) ?_
          cases hf
          exact ss_iret hx hb hr hlk hW rfl dX7_ifCoded_118
      · have hf := br_p c7 hf
        refine lv_iload hx hb dX7_ifCoded_86 (lv_at hl 0 rfl) ?_
        refine lv_goto (tgt := 118) hx hb dX7_ifCoded_88 (by decide) ?_
        cases hf
        exact ss_iret hx hb hr hlk hW rfl dX7_ifCoded_118
    · have hf := br_p c4 hf
      refine lv_iconst (v := 0) hx hb dX7_ifCoded_70 (by decide) ?_
      cases hf
      exact ss_iret hx hb hr hlk hW rfl dX7_ifCoded_71
  have h51 : ∀ (k0 : Int32) (μ : Sg) (H : Heap) (locs : List Loc) (ls : Array Slot), Wk E σ μ dg s H locs → lv_has ls 7 [(0, .ref (eA E 9)), (1, .int a1), (2, .int a2), (3, .int a3), (4, .int a4)] → fX7_ifCoded_b51 a1 a2 a3 a4 k0 μ = some (r, μ') → W p l e (Rm 2 45) s m [.ref (eA E 9), .int a1, .int a2, .int a3, .int a4].toArray below meth c H locs 0 0 (MQ below (Qi E σ μ' dg r) [.ref (eA E 9), .int a1, .int a2, .int a3, .int a4].toArray s 0 0 (eP E)) (F0 m 51 ls [.int k0]) := by
    intro k0 μ  H locs ls hW hl hf
    unfold fX7_ifCoded_b51 at hf
    refine lv_istore (lv' := [(5, .int k0), (0, .ref (eA E 9)), (1, .int a1), (2, .int a2), (3, .int a3), (4, .int a4)]) hx hb dX7_ifCoded_51 hl (by decide) rfl (fun ls hl => ?_)
    refine lv_aload_n hx hb dX7_ifCoded_53 rfl (lv_at hl 1 rfl) ?_
    refine lv_iload hx hb dX7_ifCoded_54 (lv_at hl 0 rfl) ?_
    refine lv_if_eq (tgt := 63) hx hb dX7_ifCoded_56 (by decide) (fun c13 => ?_) (fun c13 => ?_)
    · have hf := br_p c13 hf
      refine lv_iconst (v := 1) hx hb dX7_ifCoded_63 (by decide) ?_
      exact h64 1 μ _ _ _ hW (lv_sub hl [1, 2, 3, 4, 5] rfl) hf
    · have hf := br_n c13 hf
      refine lv_iconst (v := 0) hx hb dX7_ifCoded_59 (by decide) ?_
      refine lv_goto (tgt := 64) hx hb dX7_ifCoded_60 (by decide) ?_
      exact h64 0 μ _ _ _ hW (lv_sub hl [1, 2, 3, 4, 5] rfl) hf
  have h50 : ∀ (μ : Sg) (H : Heap) (locs : List Loc) (ls : Array Slot), Wk E σ μ dg s H locs → lv_has ls 7 [(0, .ref (eA E 9)), (1, .int a1), (2, .int a2), (3, .int a3), (4, .int a4)] → fX7_ifCoded_b50 a1 a2 a3 a4 μ = some (r, μ') → W p l e (Rm 2 45) s m [.ref (eA E 9), .int a1, .int a2, .int a3, .int a4].toArray below meth c H locs 0 0 (MQ below (Qi E σ μ' dg r) [.ref (eA E 9), .int a1, .int a2, .int a3, .int a4].toArray s 0 0 (eP E)) (F0 m 50 ls []) := by
    intro μ  H locs ls hW hl hf
    unfold fX7_ifCoded_b50 at hf
    refine lv_iconst (v := 0) hx hb dX7_ifCoded_50 (by decide) ?_
    exact h51 0 μ _ _ _ hW (lv_sub hl [0, 1, 2, 3, 4] rfl) hf
  refine lv_iload_n hx hb dX7_ifCoded_0 rfl (lv_at hl 1 rfl) ?_
  refine lv_sipush (v := (-2048)) hx hb dX7_ifCoded_1 (by decide) ?_
  refine lv_sipush (v := 2047) hx hb dX7_ifCoded_4 (by decide) ?_
  obtain ⟨r15, q14, hf⟩ := bd_inv hf
  refine ss_callSi (As := [.int a1, .int (-2048), .int 2047]) hx hb hml hown hK hW kb_X7_in kM_RX7_51 (mX7_in l (a0 := a1) (a1 := (-2048)) (a2 := 2047) q14) rfl dX7_ifCoded_7 rfl hl.1 (Nat.le_of_ble_eq_true rfl) ⟨Nat.le_of_ble_eq_true rfl, Nat.le_of_ble_eq_true rfl⟩ ⟨Nat.zero_le _, Nat.zero_le _⟩ (fun H locs hW => ?_)
  refine lv_if_eq (tgt := 50) hx hb dX7_ifCoded_10 (by decide) (fun c16 => ?_) (fun c16 => ?_)
  · have hf := br_p c16 hf
    exact h50 μ _ _ _ hW (lv_sub hl [0, 1, 2, 3, 4] rfl) hf
  · have hf := br_n c16 hf
    refine lv_iload_n hx hb dX7_ifCoded_13 rfl (lv_at hl 2 rfl) ?_
    refine lv_iconst (v := 0) hx hb dX7_ifCoded_14 (by decide) ?_
    refine lv_bipush (v := 48) hx hb dX7_ifCoded_15 (by decide) ?_
    obtain ⟨r18, q17, hf⟩ := bd_inv hf
    refine ss_callSi (As := [.int a2, .int 0, .int 48]) hx hb hml hown hK hW kb_X7_in kM_RX7_51 (mX7_in l (a0 := a2) (a1 := 0) (a2 := 48) q17) rfl dX7_ifCoded_17 rfl hl.1 (Nat.le_of_ble_eq_true rfl) ⟨Nat.le_of_ble_eq_true rfl, Nat.le_of_ble_eq_true rfl⟩ ⟨Nat.zero_le _, Nat.zero_le _⟩ (fun H locs hW => ?_)
    refine lv_if_eq (tgt := 50) hx hb dX7_ifCoded_20 (by decide) (fun c19 => ?_) (fun c19 => ?_)
    · have hf := br_p c19 hf
      exact h50 μ _ _ _ hW (lv_sub hl [0, 1, 2, 3, 4] rfl) hf
    · have hf := br_n c19 hf
      refine lv_iload_n hx hb dX7_ifCoded_23 rfl (lv_at hl 3 rfl) ?_
      refine lv_sipush (v := (-2048)) hx hb dX7_ifCoded_24 (by decide) ?_
      refine lv_sipush (v := 2047) hx hb dX7_ifCoded_27 (by decide) ?_
      obtain ⟨r21, q20, hf⟩ := bd_inv hf
      refine ss_callSi (As := [.int a3, .int (-2048), .int 2047]) hx hb hml hown hK hW kb_X7_in kM_RX7_51 (mX7_in l (a0 := a3) (a1 := (-2048)) (a2 := 2047) q20) rfl dX7_ifCoded_30 rfl hl.1 (Nat.le_of_ble_eq_true rfl) ⟨Nat.le_of_ble_eq_true rfl, Nat.le_of_ble_eq_true rfl⟩ ⟨Nat.zero_le _, Nat.zero_le _⟩ (fun H locs hW => ?_)
      refine lv_if_eq (tgt := 50) hx hb dX7_ifCoded_33 (by decide) (fun c22 => ?_) (fun c22 => ?_)
      · have hf := br_p c22 hf
        exact h50 μ _ _ _ hW (lv_sub hl [0, 1, 2, 3, 4] rfl) hf
      · have hf := br_n c22 hf
        refine lv_iload hx hb dX7_ifCoded_36 (lv_at hl 4 rfl) ?_
        refine lv_iconst (v := 0) hx hb dX7_ifCoded_38 (by decide) ?_
        refine lv_iconst (v := 2) hx hb dX7_ifCoded_39 (by decide) ?_
        obtain ⟨r24, q23, hf⟩ := bd_inv hf
        refine ss_callSi (As := [.int a4, .int 0, .int 2]) hx hb hml hown hK hW kb_X7_in kM_RX7_51 (mX7_in l (a0 := a4) (a1 := 0) (a2 := 2) q23) rfl dX7_ifCoded_40 rfl hl.1 (Nat.le_of_ble_eq_true rfl) ⟨Nat.le_of_ble_eq_true rfl, Nat.le_of_ble_eq_true rfl⟩ ⟨Nat.zero_le _, Nat.zero_le _⟩ (fun H locs hW => ?_)
        refine lv_if_eq (tgt := 50) hx hb dX7_ifCoded_43 (by decide) (fun c25 => ?_) (fun c25 => ?_)
        · have hf := br_p c25 hf
          exact h50 μ _ _ _ hW (lv_sub hl [0, 1, 2, 3, 4] rfl) hf
        · have hf := br_n c25 hf
          refine lv_iconst (v := 1) hx hb dX7_ifCoded_46 (by decide) ?_
          refine lv_goto (tgt := 51) hx hb dX7_ifCoded_47 (by decide) ?_
          exact h51 1 μ _ _ _ hW (lv_sub hl [0, 1, 2, 3, 4] rfl) hf
def fX7_ifSpoiled_b27 (a1 : Int32) (a2 : Int32) (k0 : Int32) (μ : Sg) : Option (Int32 × Sg) := bd2 (fX7_holds k0 μ) fun r2 u3 => if r2 = 0 then (some (0, u3)) else (bd2 (fX7_spreads a1 a2 u3) fun r6 u7 => some (r6, u7))
def fX7_ifSpoiled (a1 : Int32) (a2 : Int32) (μ : Sg) : Option (Int32 × Sg) := bd (fX7_hasCode a1 μ) fun r9 => if r9 = 0 then (fX7_ifSpoiled_b27 a1 a2 1 μ) else (bd (fX7_in a2 0 3) fun r12 => if r12 = 0 then (fX7_ifSpoiled_b27 a1 a2 2 μ) else (fX7_ifSpoiled_b27 a1 a2 0 μ))
set_option maxHeartbeats 4000000 in
set_option maxRecDepth 100000 in
theorem mX7_ifSpoiled (l : Launch) {E : En} {σ μ : Sg} {dg : Int64} {a1 : Int32} {a2 : Int32}  {r : Int32} {μ' : Sg} (hf : fX7_ifSpoiled a1 a2 μ = some (r, μ')) : Met l yX7_ifSpoiled [.code yX7_ifSpoiled cX7_ifSpoiled 3 (some .int)] (Rm 5 115) (va_Pc [.ref (eA E 9), .int a1, .int a2] (Wd E σ μ dg)) (Qi E σ μ' dg r) 0 0 (eP E) := by
  refine ss_of (by decide) (Nat.le_of_ble_eq_true rfl) (fun p e s m below meth c hx hb hr hlk hml hown hK hW ls hl => ?_)
  have hown : s.vm.findClass RX7 = some m.cls := hown
  have hl : lv_has ls 3 [(0, .ref (eA E 9)), (1, .int a1), (2, .int a2)] := hl
  unfold fX7_ifSpoiled at hf
  have h27 : ∀ (k0 : Int32) (μ : Sg) (H : Heap) (locs : List Loc) (ls : Array Slot), Wk E σ μ dg s H locs → lv_has ls 3 [(0, .ref (eA E 9)), (1, .int a1), (2, .int a2)] → fX7_ifSpoiled_b27 a1 a2 k0 μ = some (r, μ') → W p l e (Rm 5 115) s m [.ref (eA E 9), .int a1, .int a2].toArray below meth c H locs 0 0 (MQ below (Qi E σ μ' dg r) [.ref (eA E 9), .int a1, .int a2].toArray s 0 0 (eP E)) (F0 m 27 ls [.int k0, .ref (eA E 9)]) := by
    intro k0 μ  H locs ls hW hl hf
    unfold fX7_ifSpoiled_b27 at hf
    obtain ⟨r2, u3, q1, hf⟩ := bd2_inv hf
    refine ss_callVi (As := [.int k0]) hx hb hml hown hK hW kb_X7_holds kM_RX7_97 rfl (by decide) (c_fx (by decide)) (mX7_holds l (a1 := k0) q1) rfl dX7_ifSpoiled_27 rfl hl.1 (Nat.le_of_ble_eq_true rfl) ⟨Nat.le_of_ble_eq_true rfl, Nat.le_of_ble_eq_true rfl⟩ ⟨Nat.zero_le _, Nat.zero_le _⟩ (fun H locs hW => ?_)
    refine lv_if_eq (tgt := 42) hx hb dX7_ifSpoiled_30 (by decide) (fun c4 => ?_) (fun c4 => ?_)
    · have hf := br_p c4 hf
      refine lv_iconst (v := 0) hx hb dX7_ifSpoiled_42 (by decide) ?_
      cases hf
      exact ss_iret hx hb hr hlk hW rfl dX7_ifSpoiled_43
    · have hf := br_n c4 hf
      refine lv_aload_n hx hb dX7_ifSpoiled_33 rfl (lv_at hl 0 rfl) ?_
      refine lv_iload_n hx hb dX7_ifSpoiled_34 rfl (lv_at hl 1 rfl) ?_
      refine lv_iload_n hx hb dX7_ifSpoiled_35 rfl (lv_at hl 2 rfl) ?_
      obtain ⟨r6, u7, q5, hf⟩ := bd2_inv hf
      refine ss_callVi (As := [.int a1, .int a2]) hx hb hml hown hK hW kb_X7_spreads kM_RX7_194 rfl (by decide) (c_fx (by decide)) (mX7_spreads l (a1 := a1) (a2 := a2) q5) rfl dX7_ifSpoiled_36 rfl hl.1 (Nat.le_of_ble_eq_true rfl) ⟨Nat.le_of_ble_eq_true rfl, Nat.le_of_ble_eq_true rfl⟩ ⟨Nat.zero_le _, Nat.zero_le _⟩ (fun H locs hW => ?_)
      refine lv_goto (tgt := 43) hx hb dX7_ifSpoiled_39 (by decide) ?_
      cases hf
      exact ss_iret hx hb hr hlk hW rfl dX7_ifSpoiled_43
  refine lv_aload_n hx hb dX7_ifSpoiled_0 rfl (lv_at hl 0 rfl) ?_
  refine lv_aload_n hx hb dX7_ifSpoiled_1 rfl (lv_at hl 0 rfl) ?_
  refine lv_iload_n hx hb dX7_ifSpoiled_2 rfl (lv_at hl 1 rfl) ?_
  obtain ⟨r9, q8, hf⟩ := bd_inv hf
  refine ss_callVi (As := [.int a1]) hx hb hml hown hK hW kb_X7_hasCode kM_RX7_122 rfl (by decide) (c_fx (by decide)) (mX7_hasCode l (a1 := a1) q8) rfl dX7_ifSpoiled_3 rfl hl.1 (Nat.le_of_ble_eq_true rfl) ⟨Nat.le_of_ble_eq_true rfl, Nat.le_of_ble_eq_true rfl⟩ ⟨Nat.zero_le _, Nat.zero_le _⟩ (fun H locs hW => ?_)
  refine lv_if_ne (tgt := 13) hx hb dX7_ifSpoiled_6 (by decide) (fun c10 => ?_) (fun c10 => ?_)
  · have hf := br_n c10 hf
    refine lv_iload_n hx hb dX7_ifSpoiled_13 rfl (lv_at hl 2 rfl) ?_
    refine lv_iconst (v := 0) hx hb dX7_ifSpoiled_14 (by decide) ?_
    refine lv_iconst (v := 3) hx hb dX7_ifSpoiled_15 (by decide) ?_
    obtain ⟨r12, q11, hf⟩ := bd_inv hf
    refine ss_callSi (As := [.int a2, .int 0, .int 3]) hx hb hml hown hK hW kb_X7_in kM_RX7_51 (mX7_in l (a0 := a2) (a1 := 0) (a2 := 3) q11) rfl dX7_ifSpoiled_16 rfl hl.1 (Nat.le_of_ble_eq_true rfl) ⟨Nat.le_of_ble_eq_true rfl, Nat.le_of_ble_eq_true rfl⟩ ⟨Nat.zero_le _, Nat.zero_le _⟩ (fun H locs hW => ?_)
    refine lv_if_ne (tgt := 26) hx hb dX7_ifSpoiled_19 (by decide) (fun c13 => ?_) (fun c13 => ?_)
    · have hf := br_n c13 hf
      refine lv_iconst (v := 0) hx hb dX7_ifSpoiled_26 (by decide) ?_
      exact h27 0 μ _ _ _ hW (lv_sub hl [0, 1, 2] rfl) hf
    · have hf := br_p c13 hf
      refine lv_iconst (v := 2) hx hb dX7_ifSpoiled_22 (by decide) ?_
      refine lv_goto (tgt := 27) hx hb dX7_ifSpoiled_23 (by decide) ?_
      exact h27 2 μ _ _ _ hW (lv_sub hl [0, 1, 2] rfl) hf
  · have hf := br_p c10 hf
    refine lv_iconst (v := 1) hx hb dX7_ifSpoiled_9 (by decide) ?_
    refine lv_goto (tgt := 27) hx hb dX7_ifSpoiled_10 (by decide) ?_
    exact h27 1 μ _ _ _ hW (lv_sub hl [0, 1, 2] rfl) hf
def fX7_keep_L25 (a1 : Int32) (n : Nat) (x2 : Int32) (μ : Sg) : Option (Int32 × Sg) := match n with
  | 0 => none
  | n + 1 => if 295 ≤ x2 then (gd (¬ (a1 < 0 ∨ 2 ≤ (a1).toNatClampNeg)) <| nm (up2 μ 3 ((a1).toNatClampNeg) 1) fun u3 => some ((u3 0 0), u3)) else (gd (¬ (x2 < 0 ∨ 295 ≤ (x2).toNatClampNeg)) <| gd (¬ (((295 * a1) + x2) < 0 ∨ 590 ≤ (((295 * a1) + x2)).toNatClampNeg)) <| nm (up2 μ 2 ((((295 * a1) + x2)).toNatClampNeg) (μ 0 (x2).toNatClampNeg)) fun u6 => nm (x2 + 1) fun x2_7 => (fun x2 μ => fX7_keep_L25 a1 n x2 μ) x2_7 u6)
def fX7_keep (a1 : Int32) (μ : Sg) : Option (Int32 × Sg) := bd (fX7_in a1 0 1) fun r9 => if r9 = 0 then (bd2 (fX7_holds 1 μ) fun r12 u13 => if r12 = 0 then (some (0, u13)) else (fX7_keep_L25 a1 400 0 u13)) else (bd2 (fX7_holds 0 μ) fun r16 u17 => if r16 = 0 then (some (0, u17)) else (fX7_keep_L25 a1 400 0 u17))
set_option maxHeartbeats 4000000 in
set_option maxRecDepth 100000 in
theorem mX7_keep (l : Launch) {E : En} {σ μ : Sg} {dg : Int64} {a1 : Int32}  {r : Int32} {μ' : Sg} (hf : fX7_keep a1 μ = some (r, μ')) : Met l yX7_keep [.code yX7_keep cX7_keep 3 (some .int)] (Rm 1 22) (va_Pc [.ref (eA E 9), .int a1] (Wd E σ μ dg)) (Qi E σ μ' dg r) 0 0 (eP E) := by
  refine ss_of (by decide) (Nat.le_of_ble_eq_true rfl) (fun p e s m below meth c hx hb hr hlk hml hown hK hW ls hl => ?_)
  have hown : s.vm.findClass RX7 = some m.cls := hown
  have hl : lv_has ls 3 [(0, .ref (eA E 9)), (1, .int a1)] := hl
  unfold fX7_keep at hf
  have h25 : ∀ (n25 : Nat) (x2 : Int32) (μ : Sg) (H : Heap) (locs : List Loc) (ls : Array Slot), Wk E σ μ dg s H locs → lv_has ls 3 [(0, .ref (eA E 9)), (1, .int a1), (2, .int x2)] → fX7_keep_L25 a1 n25 x2 μ = some (r, μ') → W p l e (Rm 1 22) s m [.ref (eA E 9), .int a1].toArray below meth c H locs 0 0 (MQ below (Qi E σ μ' dg r) [.ref (eA E 9), .int a1].toArray s 0 0 (eP E)) (F0 m 25 ls []) := by
    intro n25
    induction n25 with
    | zero =>
      intro x2 μ  H locs ls hW hl hf
      exact absurd hf (by simp [fX7_keep_L25])
    | succ n25 ih25 =>
      intro x2 μ  H locs ls hW hl hf
      rw [fX7_keep_L25] at hf
      refine lv_iload_n hx hb dX7_keep_25 rfl (lv_at hl 2 rfl) ?_
      refine lv_sipush (v := 295) hx hb dX7_keep_26 (by decide) ?_
      refine lv_icmp_ge (tgt := 56) hx hb dX7_keep_29 (by decide) (fun c1 => ?_) (fun c1 => ?_)
      · have hf := br_p c1 hf
        refine lv_aload_n hx hb dX7_keep_56 rfl (lv_at hl 0 rfl) ?_
        refine g_M_isKept hx hb hown hK hW kF_RX7_19 dX7_keep_57 ?_
        refine lv_iload_n hx hb dX7_keep_60 rfl (lv_at hl 1 rfl) ?_
        refine lv_iconst (v := 1) hx hb dX7_keep_61 (by decide) ?_
        obtain ⟨hk2, hf⟩ := gd_inv hf
        refine s_M3 hx hb hK hW rfl hk2 (by decide) dX7_keep_62 (fun H locs hW => ?_)
        obtain ⟨u3, eu3⟩ : ∃ y : Sg, y = (up2 μ 3 ((a1).toNatClampNeg) 1) := ⟨_, rfl⟩
        have hf := nm_use eu3 hf
        rw [← eu3] at hW
        refine lv_aload_n hx hb dX7_keep_63 rfl (lv_at hl 0 rfl) ?_
        refine g_M_s hx hb hown hK hW kF_RX7_7 dX7_keep_64 ?_
        refine lv_iconst (v := 0) hx hb dX7_keep_67 (by decide) ?_
        refine l_M0 (k0 := 0) hx hb hK hW (by decide) (show ¬ ((0 : Int32) < 0 ∨ 295 ≤ (0 : Int32).toNatClampNeg) by decide) dX7_keep_68 ?_
        cases hf
        exact ss_iret hx hb hr hlk hW rfl dX7_keep_69
      · have hf := br_n c1 hf
        refine lv_aload_n hx hb dX7_keep_32 rfl (lv_at hl 0 rfl) ?_
        refine g_M_slots hx hb hown hK hW kF_RX7_16 dX7_keep_33 ?_
        refine lv_sipush (v := 295) hx hb dX7_keep_36 (by decide) ?_
        refine lv_iload_n hx hb dX7_keep_39 rfl (lv_at hl 1 rfl) ?_
        refine lv_imul hx hb dX7_keep_40 ?_
        refine lv_iload_n hx hb dX7_keep_41 rfl (lv_at hl 2 rfl) ?_
        refine lv_iadd hx hb dX7_keep_42 ?_
        refine lv_aload_n hx hb dX7_keep_43 rfl (lv_at hl 0 rfl) ?_
        refine g_M_s hx hb hown hK hW kF_RX7_7 dX7_keep_44 ?_
        refine lv_iload_n hx hb dX7_keep_47 rfl (lv_at hl 2 rfl) ?_
        obtain ⟨hk4, hf⟩ := gd_inv hf
        refine l_M0 hx hb hK hW rfl hk4 dX7_keep_48 ?_
        obtain ⟨hk5, hf⟩ := gd_inv hf
        refine s_M2 hx hb hK hW rfl hk5 dX7_keep_49 (fun H locs hW => ?_)
        obtain ⟨u6, eu6⟩ : ∃ y : Sg, y = (up2 μ 2 ((((295 * a1) + x2)).toNatClampNeg) (μ 0 (x2).toNatClampNeg)) := ⟨_, rfl⟩
        have hf := nm_use eu6 hf
        rw [← eu6] at hW
        obtain ⟨x2_7, ex2_7⟩ : ∃ y : Int32, y = (x2 + 1) := ⟨_, rfl⟩
        have hf := nm_use ex2_7 hf
        refine lv_iinc (v := x2_7) (lv' := [(2, .int x2_7), (0, .ref (eA E 9)), (1, .int a1)]) hx hb dX7_keep_50 hl (k := 2) rfl (by rw [ex2_7]; rfl) (by decide) rfl (fun ls hl => ?_)
        refine lv_goto (tgt := 25) hx hb dX7_keep_53 (by decide) ?_
        exact ih25 x2_7 u6 _ _ _ hW (lv_sub hl [1, 2, 0] rfl) hf
  refine lv_aload_n hx hb dX7_keep_0 rfl (lv_at hl 0 rfl) ?_
  refine lv_iload_n hx hb dX7_keep_1 rfl (lv_at hl 1 rfl) ?_
  refine lv_iconst (v := 0) hx hb dX7_keep_2 (by decide) ?_
  refine lv_iconst (v := 1) hx hb dX7_keep_3 (by decide) ?_
  obtain ⟨r9, q8, hf⟩ := bd_inv hf
  refine ss_callSi (As := [.int a1, .int 0, .int 1]) hx hb hml hown hK hW kb_X7_in kM_RX7_51 (mX7_in l (a0 := a1) (a1 := 0) (a2 := 1) q8) rfl dX7_keep_4 rfl hl.1 (Nat.le_of_ble_eq_true rfl) ⟨Nat.le_of_ble_eq_true rfl, Nat.le_of_ble_eq_true rfl⟩ ⟨Nat.zero_le _, Nat.zero_le _⟩ (fun H locs hW => ?_)
  refine lv_if_eq (tgt := 14) hx hb dX7_keep_7 (by decide) (fun c10 => ?_) (fun c10 => ?_)
  · have hf := br_p c10 hf
    refine lv_iconst (v := 1) hx hb dX7_keep_14 (by decide) ?_
    obtain ⟨r12, u13, q11, hf⟩ := bd2_inv hf
    refine ss_callVi (As := [.int 1]) hx hb hml hown hK hW kb_X7_holds kM_RX7_97 rfl (by decide) (c_fx (by decide)) (mX7_holds l (a1 := 1) q11) rfl dX7_keep_15 rfl hl.1 (Nat.le_of_ble_eq_true rfl) ⟨Nat.le_of_ble_eq_true rfl, Nat.le_of_ble_eq_true rfl⟩ ⟨Nat.zero_le _, Nat.zero_le _⟩ (fun H locs hW => ?_)
    refine lv_if_ne (tgt := 23) hx hb dX7_keep_18 (by decide) (fun c14 => ?_) (fun c14 => ?_)
    · have hf := br_n c14 hf
      refine lv_iconst (v := 0) hx hb dX7_keep_23 (by decide) ?_
      refine lv_istore_n (lv' := [(2, .int 0), (0, .ref (eA E 9)), (1, .int a1)]) hx hb dX7_keep_24 rfl hl (by decide) rfl (fun ls hl => ?_)
      exact h25 400 0 u13 _ _ _ hW (lv_sub hl [1, 2, 0] rfl) hf
    · have hf := br_p c14 hf
      refine lv_iconst (v := 0) hx hb dX7_keep_21 (by decide) ?_
      cases hf
      exact ss_iret hx hb hr hlk hW rfl dX7_keep_22
  · have hf := br_n c10 hf
    refine lv_iconst (v := 0) hx hb dX7_keep_10 (by decide) ?_
    refine lv_goto (tgt := 15) hx hb dX7_keep_11 (by decide) ?_
    obtain ⟨r16, u17, q15, hf⟩ := bd2_inv hf
    refine ss_callVi (As := [.int 0]) hx hb hml hown hK hW kb_X7_holds kM_RX7_97 rfl (by decide) (c_fx (by decide)) (mX7_holds l (a1 := 0) q15) rfl dX7_keep_15 rfl hl.1 (Nat.le_of_ble_eq_true rfl) ⟨Nat.le_of_ble_eq_true rfl, Nat.le_of_ble_eq_true rfl⟩ ⟨Nat.zero_le _, Nat.zero_le _⟩ (fun H locs hW => ?_)
    refine lv_if_ne (tgt := 23) hx hb dX7_keep_18 (by decide) (fun c18 => ?_) (fun c18 => ?_)
    · have hf := br_n c18 hf
      refine lv_iconst (v := 0) hx hb dX7_keep_23 (by decide) ?_
      refine lv_istore_n (lv' := [(2, .int 0), (0, .ref (eA E 9)), (1, .int a1)]) hx hb dX7_keep_24 rfl hl (by decide) rfl (fun ls hl => ?_)
      exact h25 400 0 u17 _ _ _ hW (lv_sub hl [1, 2, 0] rfl) hf
    · have hf := br_p c18 hf
      refine lv_iconst (v := 0) hx hb dX7_keep_21 (by decide) ?_
      cases hf
      exact ss_iret hx hb hr hlk hW rfl dX7_keep_22
def fX7_load_L109 (a1 : Int32) (n : Nat) (x2 : Int32) (μ : Sg) : Option (Int32 × Sg) := match n with
  | 0 => none
  | n + 1 => if (μ 20 18) ≤ x2 then (nm (up2 μ 20 7 0) fun u2 => bd2 (fX7_others u2) fun r4 u5 => some (r4, u5)) else (gd (¬ (x2 < 0 ∨ 15 ≤ (x2).toNatClampNeg)) <| gd (¬ ((((71 + (a1 * (μ 0 2))) + 1) + x2) < 0 ∨ 295 ≤ ((((71 + (a1 * (μ 0 2))) + 1) + x2)).toNatClampNeg)) <| nm (up2 μ 0 (((((71 + (a1 * (μ 0 2))) + 1) + x2)).toNatClampNeg) (μ 10 (x2).toNatClampNeg)) fun u8 => nm (x2 + 1) fun x2_9 => (fun x2 μ => fX7_load_L109 a1 n x2 μ) x2_9 u8)
def fX7_load_b52 (a1 : Int32) (k0 : Int32) (μ : Sg) : Option (Int32 × Sg) := bd2 (fX7_holds k0 μ) fun r11 u12 => if r11 = 0 then (some (0, u12)) else (bd (fX7_save u12) fun u15 => bd (fX7_decodesBefore u15) fun u17 => gd (¬ ((199 + a1) < 0 ∨ 295 ≤ ((199 + a1)).toNatClampNeg)) <| nm (up2 u17 0 (((199 + a1)).toNatClampNeg) (u17 20 15)) fun u19 => gd (¬ ((231 + a1) < 0 ∨ 295 ≤ ((231 + a1)).toNatClampNeg)) <| nm (up2 u19 0 (((231 + a1)).toNatClampNeg) (u19 20 16)) fun u21 => gd (¬ ((263 + a1) < 0 ∨ 295 ≤ ((263 + a1)).toNatClampNeg)) <| nm (up2 u21 0 (((263 + a1)).toNatClampNeg) 0) fun u23 => fX7_load_L109 a1 80 0 u23)
def fX7_load_b47 (a1 : Int32) (μ : Sg) : Option (Int32 × Sg) := fX7_load_b52 a1 2 μ
def fX7_load (a1 : Int32) (μ : Sg) : Option (Int32 × Sg) := bd (fX7_readAll μ) fun u25 => bd (fX7_isBlock a1 u25) fun r27 => if r27 = 0 then (fX7_load_b52 a1 1 u25) else (if (u25 20 14) = 0 then (bd (fX7_endOf a1 u25) fun r31 => if (u25 20 18) = ((r31 - (a1 * (u25 0 2))) - 1) then (fX7_load_b52 a1 0 u25) else (fX7_load_b47 a1 u25)) else (fX7_load_b47 a1 u25))
set_option maxHeartbeats 4000000 in
set_option maxRecDepth 100000 in
theorem mX7_load (l : Launch) {E : En} {σ μ : Sg} {dg : Int64} {a1 : Int32}  {r : Int32} {μ' : Sg} (hf : fX7_load a1 μ = some (r, μ')) : Met l yX7_load [.code yX7_load cX7_load 3 (some .int)] (Rm 4 94) (va_Pc [.ref (eA E 9), .int a1] (Wd E σ μ dg)) (Qi E σ μ' dg r) 0 0 (eP E) := by
  refine ss_of (by decide) (Nat.le_of_ble_eq_true rfl) (fun p e s m below meth c hx hb hr hlk hml hown hK hW ls hl => ?_)
  have hown : s.vm.findClass RX7 = some m.cls := hown
  have hl : lv_has ls 3 [(0, .ref (eA E 9)), (1, .int a1)] := hl
  unfold fX7_load at hf
  have h109 : ∀ (n109 : Nat) (x2 : Int32) (μ : Sg) (H : Heap) (locs : List Loc) (ls : Array Slot), Wk E σ μ dg s H locs → lv_has ls 3 [(0, .ref (eA E 9)), (1, .int a1), (2, .int x2)] → fX7_load_L109 a1 n109 x2 μ = some (r, μ') → W p l e (Rm 4 94) s m [.ref (eA E 9), .int a1].toArray below meth c H locs 0 0 (MQ below (Qi E σ μ' dg r) [.ref (eA E 9), .int a1].toArray s 0 0 (eP E)) (F0 m 109 ls []) := by
    intro n109
    induction n109 with
    | zero =>
      intro x2 μ  H locs ls hW hl hf
      exact absurd hf (by simp [fX7_load_L109])
    | succ n109 ih109 =>
      intro x2 μ  H locs ls hW hl hf
      rw [fX7_load_L109] at hf
      refine lv_iload_n hx hb dX7_load_109 rfl (lv_at hl 2 rfl) ?_
      refine lv_aload_n hx hb dX7_load_110 rfl (lv_at hl 0 rfl) ?_
      refine g_M_reads hx hb hown hK hW kF_RX7_142 dX7_load_111 ?_
      refine lv_icmp_ge (tgt := 149) hx hb dX7_load_114 (by decide) (fun c1 => ?_) (fun c1 => ?_)
      · have hf := br_p c1 hf
        refine lv_aload_n hx hb dX7_load_149 rfl (lv_at hl 0 rfl) ?_
        refine lv_iconst (v := 0) hx hb dX7_load_150 (by decide) ?_
        refine p_M_length hx hb hown hK hW kF_RX7_125 dX7_load_151 (fun H locs hW => ?_)
        obtain ⟨u2, eu2⟩ : ∃ y : Sg, y = (up2 μ 20 7 0) := ⟨_, rfl⟩
        have hf := nm_use eu2 hf
        rw [← eu2] at hW
        refine lv_aload_n hx hb dX7_load_154 rfl (lv_at hl 0 rfl) ?_
        obtain ⟨r4, u5, q3, hf⟩ := bd2_inv hf
        refine ss_callVi (As := []) hx hb hml hown hK hW kb_X7_others kM_RX7_160 rfl (by decide) (c_fx (by decide)) (mX7_others l  q3) rfl dX7_load_155 rfl hl.1 (Nat.le_of_ble_eq_true rfl) ⟨Nat.le_of_ble_eq_true rfl, Nat.le_of_ble_eq_true rfl⟩ ⟨Nat.zero_le _, Nat.zero_le _⟩ (fun H locs hW => ?_)
        cases hf
        exact ss_iret hx hb hr hlk hW rfl dX7_load_158
      · have hf := br_n c1 hf
        refine lv_aload_n hx hb dX7_load_117 rfl (lv_at hl 0 rfl) ?_
        refine g_M_s hx hb hown hK hW kF_RX7_7 dX7_load_118 ?_
        refine lv_bipush (v := 71) hx hb dX7_load_121 (by decide) ?_
        refine lv_iload_n hx hb dX7_load_123 rfl (lv_at hl 1 rfl) ?_
        refine lv_aload_n hx hb dX7_load_124 rfl (lv_at hl 0 rfl) ?_
        refine g_M_s hx hb hown hK hW kF_RX7_7 dX7_load_125 ?_
        refine lv_iconst (v := 2) hx hb dX7_load_128 (by decide) ?_
        refine l_M0 (k0 := 2) hx hb hK hW (by decide) (show ¬ ((2 : Int32) < 0 ∨ 295 ≤ (2 : Int32).toNatClampNeg) by decide) dX7_load_129 ?_
        refine lv_imul hx hb dX7_load_130 ?_
        refine lv_iadd hx hb dX7_load_131 ?_
        refine lv_iconst (v := 1) hx hb dX7_load_132 (by decide) ?_
        refine lv_iadd hx hb dX7_load_133 ?_
        refine lv_iload_n hx hb dX7_load_134 rfl (lv_at hl 2 rfl) ?_
        refine lv_iadd hx hb dX7_load_135 ?_
        refine lv_aload_n hx hb dX7_load_136 rfl (lv_at hl 0 rfl) ?_
        refine g_M_readCodes hx hb hown hK hW kF_RX7_41 dX7_load_137 ?_
        refine lv_iload_n hx hb dX7_load_140 rfl (lv_at hl 2 rfl) ?_
        obtain ⟨hk6, hf⟩ := gd_inv hf
        refine l_M10 hx hb hK hW rfl hk6 dX7_load_141 ?_
        obtain ⟨hk7, hf⟩ := gd_inv hf
        refine s_M0 hx hb hK hW rfl hk7 dX7_load_142 (fun H locs hW => ?_)
        obtain ⟨u8, eu8⟩ : ∃ y : Sg, y = (up2 μ 0 (((((71 + (a1 * (μ 0 2))) + 1) + x2)).toNatClampNeg) (μ 10 (x2).toNatClampNeg)) := ⟨_, rfl⟩
        have hf := nm_use eu8 hf
        rw [← eu8] at hW
        obtain ⟨x2_9, ex2_9⟩ : ∃ y : Int32, y = (x2 + 1) := ⟨_, rfl⟩
        have hf := nm_use ex2_9 hf
        refine lv_iinc (v := x2_9) (lv' := [(2, .int x2_9), (0, .ref (eA E 9)), (1, .int a1)]) hx hb dX7_load_143 hl (k := 2) rfl (by rw [ex2_9]; rfl) (by decide) rfl (fun ls hl => ?_)
        refine lv_goto (tgt := 109) hx hb dX7_load_146 (by decide) ?_
        exact ih109 x2_9 u8 _ _ _ hW (lv_sub hl [1, 2, 0] rfl) hf
  have h52 : ∀ (k0 : Int32) (μ : Sg) (H : Heap) (locs : List Loc) (ls : Array Slot), Wk E σ μ dg s H locs → lv_has ls 3 [(0, .ref (eA E 9)), (1, .int a1)] → fX7_load_b52 a1 k0 μ = some (r, μ') → W p l e (Rm 4 94) s m [.ref (eA E 9), .int a1].toArray below meth c H locs 0 0 (MQ below (Qi E σ μ' dg r) [.ref (eA E 9), .int a1].toArray s 0 0 (eP E)) (F0 m 52 ls [.int k0, .ref (eA E 9)]) := by
    intro k0 μ  H locs ls hW hl hf
    unfold fX7_load_b52 at hf
    obtain ⟨r11, u12, q10, hf⟩ := bd2_inv hf
    refine ss_callVi (As := [.int k0]) hx hb hml hown hK hW kb_X7_holds kM_RX7_97 rfl (by decide) (c_fx (by decide)) (mX7_holds l (a1 := k0) q10) rfl dX7_load_52 rfl hl.1 (Nat.le_of_ble_eq_true rfl) ⟨Nat.le_of_ble_eq_true rfl, Nat.le_of_ble_eq_true rfl⟩ ⟨Nat.zero_le _, Nat.zero_le _⟩ (fun H locs hW => ?_)
    refine lv_if_ne (tgt := 60) hx hb dX7_load_55 (by decide) (fun c13 => ?_) (fun c13 => ?_)
    · have hf := br_n c13 hf
      refine lv_aload_n hx hb dX7_load_60 rfl (lv_at hl 0 rfl) ?_
      obtain ⟨u15, q14, hf⟩ := bd_inv hf
      refine ss_callVv (As := []) hx hb hml hown hK hW kb_X7_save kM_RX7_100 rfl (by decide) (c_fx (by decide)) (mX7_save l  q14) rfl dX7_load_61 rfl hl.1 (Nat.le_of_ble_eq_true rfl) ⟨Nat.le_of_ble_eq_true rfl, Nat.le_of_ble_eq_true rfl⟩ ⟨Nat.zero_le _, Nat.zero_le _⟩ (fun H locs hW => ?_)
      refine lv_aload_n hx hb dX7_load_64 rfl (lv_at hl 0 rfl) ?_
      obtain ⟨u17, q16, hf⟩ := bd_inv hf
      refine ss_callVv (As := []) hx hb hml hown hK hW kb_X7_decodesBefore kM_RX7_157 rfl (by decide) (c_fx (by decide)) (mX7_decodesBefore l  q16) rfl dX7_load_65 rfl hl.1 (Nat.le_of_ble_eq_true rfl) ⟨Nat.le_of_ble_eq_true rfl, Nat.le_of_ble_eq_true rfl⟩ ⟨Nat.zero_le _, Nat.zero_le _⟩ (fun H locs hW => ?_)
      refine lv_aload_n hx hb dX7_load_68 rfl (lv_at hl 0 rfl) ?_
      refine g_M_s hx hb hown hK hW kF_RX7_7 dX7_load_69 ?_
      refine lv_sipush (v := 199) hx hb dX7_load_72 (by decide) ?_
      refine lv_iload_n hx hb dX7_load_75 rfl (lv_at hl 1 rfl) ?_
      refine lv_iadd hx hb dX7_load_76 ?_
      refine lv_aload_n hx hb dX7_load_77 rfl (lv_at hl 0 rfl) ?_
      refine g_M_readFirst hx hb hown hK hW kF_RX7_148 dX7_load_78 ?_
      obtain ⟨hk18, hf⟩ := gd_inv hf
      refine s_M0 hx hb hK hW rfl hk18 dX7_load_81 (fun H locs hW => ?_)
      obtain ⟨u19, eu19⟩ : ∃ y : Sg, y = (up2 u17 0 (((199 + a1)).toNatClampNeg) (u17 20 15)) := ⟨_, rfl⟩
      have hf := nm_use eu19 hf
      rw [← eu19] at hW
      refine lv_aload_n hx hb dX7_load_82 rfl (lv_at hl 0 rfl) ?_
      refine g_M_s hx hb hown hK hW kF_RX7_7 dX7_load_83 ?_
      refine lv_sipush (v := 231) hx hb dX7_load_86 (by decide) ?_
      refine lv_iload_n hx hb dX7_load_89 rfl (lv_at hl 1 rfl) ?_
      refine lv_iadd hx hb dX7_load_90 ?_
      refine lv_aload_n hx hb dX7_load_91 rfl (lv_at hl 0 rfl) ?_
      refine g_M_readNumber hx hb hown hK hW kF_RX7_151 dX7_load_92 ?_
      obtain ⟨hk20, hf⟩ := gd_inv hf
      refine s_M0 hx hb hK hW rfl hk20 dX7_load_95 (fun H locs hW => ?_)
      obtain ⟨u21, eu21⟩ : ∃ y : Sg, y = (up2 u19 0 (((231 + a1)).toNatClampNeg) (u19 20 16)) := ⟨_, rfl⟩
      have hf := nm_use eu21 hf
      rw [← eu21] at hW
      refine lv_aload_n hx hb dX7_load_96 rfl (lv_at hl 0 rfl) ?_
      refine g_M_s hx hb hown hK hW kF_RX7_7 dX7_load_97 ?_
      refine lv_sipush (v := 263) hx hb dX7_load_100 (by decide) ?_
      refine lv_iload_n hx hb dX7_load_103 rfl (lv_at hl 1 rfl) ?_
      refine lv_iadd hx hb dX7_load_104 ?_
      refine lv_iconst (v := 0) hx hb dX7_load_105 (by decide) ?_
      obtain ⟨hk22, hf⟩ := gd_inv hf
      refine s_M0 hx hb hK hW rfl hk22 dX7_load_106 (fun H locs hW => ?_)
      obtain ⟨u23, eu23⟩ : ∃ y : Sg, y = (up2 u21 0 (((263 + a1)).toNatClampNeg) 0) := ⟨_, rfl⟩
      have hf := nm_use eu23 hf
      rw [← eu23] at hW
      refine lv_iconst (v := 0) hx hb dX7_load_107 (by decide) ?_
      refine lv_istore_n (lv' := [(2, .int 0), (0, .ref (eA E 9)), (1, .int a1)]) hx hb dX7_load_108 rfl hl (by decide) rfl (fun ls hl => ?_)
      exact h109 80 0 u23 _ _ _ hW (lv_sub hl [1, 2, 0] rfl) hf
    · have hf := br_p c13 hf
      refine lv_iconst (v := 0) hx hb dX7_load_58 (by decide) ?_
      cases hf
      exact ss_iret hx hb hr hlk hW rfl dX7_load_59
  have h47 : ∀ (μ : Sg) (H : Heap) (locs : List Loc) (ls : Array Slot), Wk E σ μ dg s H locs → lv_has ls 3 [(0, .ref (eA E 9)), (1, .int a1)] → fX7_load_b47 a1 μ = some (r, μ') → W p l e (Rm 4 94) s m [.ref (eA E 9), .int a1].toArray below meth c H locs 0 0 (MQ below (Qi E σ μ' dg r) [.ref (eA E 9), .int a1].toArray s 0 0 (eP E)) (F0 m 47 ls [.ref (eA E 9)]) := by
    intro μ  H locs ls hW hl hf
    unfold fX7_load_b47 at hf
    refine lv_iconst (v := 2) hx hb dX7_load_47 (by decide) ?_
    refine lv_goto (tgt := 52) hx hb dX7_load_48 (by decide) ?_
    exact h52 2 μ _ _ _ hW (lv_sub hl [0, 1] rfl) hf
  refine lv_aload_n hx hb dX7_load_0 rfl (lv_at hl 0 rfl) ?_
  obtain ⟨u25, q24, hf⟩ := bd_inv hf
  refine ss_callVv (As := []) hx hb hml hown hK hW kb_X7_readAll kM_RX7_154 rfl (by decide) (c_fx (by decide)) (mX7_readAll l  q24) rfl dX7_load_1 rfl hl.1 (Nat.le_of_ble_eq_true rfl) ⟨Nat.le_of_ble_eq_true rfl, Nat.le_of_ble_eq_true rfl⟩ ⟨Nat.zero_le _, Nat.zero_le _⟩ (fun H locs hW => ?_)
  refine lv_aload_n hx hb dX7_load_4 rfl (lv_at hl 0 rfl) ?_
  refine lv_aload_n hx hb dX7_load_5 rfl (lv_at hl 0 rfl) ?_
  refine lv_iload_n hx hb dX7_load_6 rfl (lv_at hl 1 rfl) ?_
  obtain ⟨r27, q26, hf⟩ := bd_inv hf
  refine ss_callVi (As := [.int a1]) hx hb hml hown hK hW kb_X7_isBlock kM_RX7_116 rfl (by decide) (c_fx (by decide)) (mX7_isBlock l (a1 := a1) q26) rfl dX7_load_7 rfl hl.1 (Nat.le_of_ble_eq_true rfl) ⟨Nat.le_of_ble_eq_true rfl, Nat.le_of_ble_eq_true rfl⟩ ⟨Nat.zero_le _, Nat.zero_le _⟩ (fun H locs hW => ?_)
  refine lv_if_ne (tgt := 17) hx hb dX7_load_10 (by decide) (fun c28 => ?_) (fun c28 => ?_)
  · have hf := br_n c28 hf
    refine lv_aload_n hx hb dX7_load_17 rfl (lv_at hl 0 rfl) ?_
    refine g_M_isWrong hx hb hown hK hW kF_RX7_128 dX7_load_18 ?_
    refine lv_if_ne (tgt := 47) hx hb dX7_load_21 (by decide) (fun c29 => ?_) (fun c29 => ?_)
    · have hf := br_n c29 hf
      exact h47 u25 _ _ _ hW (lv_sub hl [0, 1] rfl) hf
    · have hf := br_p c29 hf
      refine lv_aload_n hx hb dX7_load_24 rfl (lv_at hl 0 rfl) ?_
      refine g_M_reads hx hb hown hK hW kF_RX7_142 dX7_load_25 ?_
      refine lv_aload_n hx hb dX7_load_28 rfl (lv_at hl 0 rfl) ?_
      refine lv_iload_n hx hb dX7_load_29 rfl (lv_at hl 1 rfl) ?_
      obtain ⟨r31, q30, hf⟩ := bd_inv hf
      refine ss_callVi (As := [.int a1]) hx hb hml hown hK hW kb_X7_endOf kM_RX7_88 rfl (by decide) (c_fx (by decide)) (mX7_endOf l (a1 := a1) q30) rfl dX7_load_30 rfl hl.1 (Nat.le_of_ble_eq_true rfl) ⟨Nat.le_of_ble_eq_true rfl, Nat.le_of_ble_eq_true rfl⟩ ⟨Nat.zero_le _, Nat.zero_le _⟩ (fun H locs hW => ?_)
      refine lv_iload_n hx hb dX7_load_33 rfl (lv_at hl 1 rfl) ?_
      refine lv_aload_n hx hb dX7_load_34 rfl (lv_at hl 0 rfl) ?_
      refine g_M_s hx hb hown hK hW kF_RX7_7 dX7_load_35 ?_
      refine lv_iconst (v := 2) hx hb dX7_load_38 (by decide) ?_
      refine l_M0 (k0 := 2) hx hb hK hW (by decide) (show ¬ ((2 : Int32) < 0 ∨ 295 ≤ (2 : Int32).toNatClampNeg) by decide) dX7_load_39 ?_
      refine lv_imul hx hb dX7_load_40 ?_
      refine lv_isub hx hb dX7_load_41 ?_
      refine lv_iconst (v := 1) hx hb dX7_load_42 (by decide) ?_
      refine lv_isub hx hb dX7_load_43 ?_
      refine lv_icmp_eq (tgt := 51) hx hb dX7_load_44 (by decide) (fun c32 => ?_) (fun c32 => ?_)
      · have hf := br_p c32 hf
        refine lv_iconst (v := 0) hx hb dX7_load_51 (by decide) ?_
        exact h52 0 u25 _ _ _ hW (lv_sub hl [0, 1] rfl) hf
      · have hf := br_n c32 hf
        exact h47 u25 _ _ _ hW (lv_sub hl [0, 1] rfl) hf
  · have hf := br_p c28 hf
    refine lv_iconst (v := 1) hx hb dX7_load_13 (by decide) ?_
    refine lv_goto (tgt := 52) hx hb dX7_load_14 (by decide) ?_
    exact h52 1 u25 _ _ _ hW (lv_sub hl [0, 1] rfl) hf
def fX7_lose_b14 (a1 : Int32) (k0 : Int32) (μ : Sg) : Option (Int32 × Sg) := bd2 (fX7_holds k0 μ) fun r2 u3 => if r2 = 0 then (some (0, u3)) else (bd (fX7_save u3) fun u6 => gd (¬ ((263 + a1) < 0 ∨ 295 ≤ ((263 + a1)).toNatClampNeg)) <| gd (¬ ((263 + a1) < 0 ∨ 295 ≤ ((263 + a1)).toNatClampNeg)) <| nm (up2 u6 0 (((263 + a1)).toNatClampNeg) (1 - (u6 0 ((263 + a1)).toNatClampNeg))) fun u9 => bd (fX7_lost u9) fun r11 => some (r11, u9))
def fX7_lose (a1 : Int32) (μ : Sg) : Option (Int32 × Sg) := bd (fX7_isBlock a1 μ) fun r13 => if r13 = 0 then (fX7_lose_b14 a1 1 μ) else (fX7_lose_b14 a1 0 μ)
set_option maxHeartbeats 4000000 in
set_option maxRecDepth 100000 in
theorem mX7_lose (l : Launch) {E : En} {σ μ : Sg} {dg : Int64} {a1 : Int32}  {r : Int32} {μ' : Sg} (hf : fX7_lose a1 μ = some (r, μ')) : Met l yX7_lose [.code yX7_lose cX7_lose 2 (some .int)] (Rm 3 62) (va_Pc [.ref (eA E 9), .int a1] (Wd E σ μ dg)) (Qi E σ μ' dg r) 0 0 (eP E) := by
  refine ss_of (by decide) (Nat.le_of_ble_eq_true rfl) (fun p e s m below meth c hx hb hr hlk hml hown hK hW ls hl => ?_)
  have hown : s.vm.findClass RX7 = some m.cls := hown
  have hl : lv_has ls 2 [(0, .ref (eA E 9)), (1, .int a1)] := hl
  unfold fX7_lose at hf
  have h14 : ∀ (k0 : Int32) (μ : Sg) (H : Heap) (locs : List Loc) (ls : Array Slot), Wk E σ μ dg s H locs → lv_has ls 2 [(0, .ref (eA E 9)), (1, .int a1)] → fX7_lose_b14 a1 k0 μ = some (r, μ') → W p l e (Rm 3 62) s m [.ref (eA E 9), .int a1].toArray below meth c H locs 0 0 (MQ below (Qi E σ μ' dg r) [.ref (eA E 9), .int a1].toArray s 0 0 (eP E)) (F0 m 14 ls [.int k0, .ref (eA E 9)]) := by
    intro k0 μ  H locs ls hW hl hf
    unfold fX7_lose_b14 at hf
    obtain ⟨r2, u3, q1, hf⟩ := bd2_inv hf
    refine ss_callVi (As := [.int k0]) hx hb hml hown hK hW kb_X7_holds kM_RX7_97 rfl (by decide) (c_fx (by decide)) (mX7_holds l (a1 := k0) q1) rfl dX7_lose_14 rfl hl.1 (Nat.le_of_ble_eq_true rfl) ⟨Nat.le_of_ble_eq_true rfl, Nat.le_of_ble_eq_true rfl⟩ ⟨Nat.zero_le _, Nat.zero_le _⟩ (fun H locs hW => ?_)
    refine lv_if_ne (tgt := 22) hx hb dX7_lose_17 (by decide) (fun c4 => ?_) (fun c4 => ?_)
    · have hf := br_n c4 hf
      refine lv_aload_n hx hb dX7_lose_22 rfl (lv_at hl 0 rfl) ?_
      obtain ⟨u6, q5, hf⟩ := bd_inv hf
      refine ss_callVv (As := []) hx hb hml hown hK hW kb_X7_save kM_RX7_100 rfl (by decide) (c_fx (by decide)) (mX7_save l  q5) rfl dX7_lose_23 rfl hl.1 (Nat.le_of_ble_eq_true rfl) ⟨Nat.le_of_ble_eq_true rfl, Nat.le_of_ble_eq_true rfl⟩ ⟨Nat.zero_le _, Nat.zero_le _⟩ (fun H locs hW => ?_)
      refine lv_aload_n hx hb dX7_lose_26 rfl (lv_at hl 0 rfl) ?_
      refine g_M_s hx hb hown hK hW kF_RX7_7 dX7_lose_27 ?_
      refine lv_sipush (v := 263) hx hb dX7_lose_30 (by decide) ?_
      refine lv_iload_n hx hb dX7_lose_33 rfl (lv_at hl 1 rfl) ?_
      refine lv_iadd hx hb dX7_lose_34 ?_
      refine lv_iconst (v := 1) hx hb dX7_lose_35 (by decide) ?_
      refine lv_aload_n hx hb dX7_lose_36 rfl (lv_at hl 0 rfl) ?_
      refine g_M_s hx hb hown hK hW kF_RX7_7 dX7_lose_37 ?_
      refine lv_sipush (v := 263) hx hb dX7_lose_40 (by decide) ?_
      refine lv_iload_n hx hb dX7_lose_43 rfl (lv_at hl 1 rfl) ?_
      refine lv_iadd hx hb dX7_lose_44 ?_
      obtain ⟨hk7, hf⟩ := gd_inv hf
      refine l_M0 hx hb hK hW rfl hk7 dX7_lose_45 ?_
      refine lv_isub hx hb dX7_lose_46 ?_
      obtain ⟨hk8, hf⟩ := gd_inv hf
      refine s_M0 hx hb hK hW rfl hk8 dX7_lose_47 (fun H locs hW => ?_)
      obtain ⟨u9, eu9⟩ : ∃ y : Sg, y = (up2 u6 0 (((263 + a1)).toNatClampNeg) (1 - (u6 0 ((263 + a1)).toNatClampNeg))) := ⟨_, rfl⟩
      have hf := nm_use eu9 hf
      rw [← eu9] at hW
      refine lv_aload_n hx hb dX7_lose_48 rfl (lv_at hl 0 rfl) ?_
      obtain ⟨r11, q10, hf⟩ := bd_inv hf
      refine ss_callVi (As := []) hx hb hml hown hK hW kb_X7_lost kM_RX7_119 rfl (by decide) (c_fx (by decide)) (mX7_lost l  q10) rfl dX7_lose_49 rfl hl.1 (Nat.le_of_ble_eq_true rfl) ⟨Nat.le_of_ble_eq_true rfl, Nat.le_of_ble_eq_true rfl⟩ ⟨Nat.zero_le _, Nat.zero_le _⟩ (fun H locs hW => ?_)
      cases hf
      exact ss_iret hx hb hr hlk hW rfl dX7_lose_52
    · have hf := br_p c4 hf
      refine lv_iconst (v := 0) hx hb dX7_lose_20 (by decide) ?_
      cases hf
      exact ss_iret hx hb hr hlk hW rfl dX7_lose_21
  refine lv_aload_n hx hb dX7_lose_0 rfl (lv_at hl 0 rfl) ?_
  refine lv_aload_n hx hb dX7_lose_1 rfl (lv_at hl 0 rfl) ?_
  refine lv_iload_n hx hb dX7_lose_2 rfl (lv_at hl 1 rfl) ?_
  obtain ⟨r13, q12, hf⟩ := bd_inv hf
  refine ss_callVi (As := [.int a1]) hx hb hml hown hK hW kb_X7_isBlock kM_RX7_116 rfl (by decide) (c_fx (by decide)) (mX7_isBlock l (a1 := a1) q12) rfl dX7_lose_3 rfl hl.1 (Nat.le_of_ble_eq_true rfl) ⟨Nat.le_of_ble_eq_true rfl, Nat.le_of_ble_eq_true rfl⟩ ⟨Nat.zero_le _, Nat.zero_le _⟩ (fun H locs hW => ?_)
  refine lv_if_eq (tgt := 13) hx hb dX7_lose_6 (by decide) (fun c14 => ?_) (fun c14 => ?_)
  · have hf := br_p c14 hf
    refine lv_iconst (v := 1) hx hb dX7_lose_13 (by decide) ?_
    exact h14 1 μ _ _ _ hW (lv_sub hl [0, 1] rfl) hf
  · have hf := br_n c14 hf
    refine lv_iconst (v := 0) hx hb dX7_lose_9 (by decide) ?_
    refine lv_goto (tgt := 14) hx hb dX7_lose_10 (by decide) ?_
    exact h14 0 μ _ _ _ hW (lv_sub hl [0, 1] rfl) hf
def fX7_loudness (μ : Sg) : Option (UInt32 × Sg) := nm (up2 μ 20 0 0) fun u1 => bd2 (fX7_loud u1) fun r3 u4 => some (r3, u4)
set_option maxHeartbeats 4000000 in
set_option maxRecDepth 100000 in
theorem mX7_loudness (l : Launch) {E : En} {σ μ : Sg} {dg : Int64}   {r : UInt32} {μ' : Sg} (hf : fX7_loudness μ = some (r, μ')) : Met l yX7_loudness [.code yX7_loudness cX7_loudness 1 (some .float)] (Rm 5 113) (va_Pc [.ref (eA E 9)] (Wd E σ μ dg)) (Qf E σ μ' dg r) 0 0 (eP E) := by
  refine ss_of (by decide) (Nat.le_of_ble_eq_true rfl) (fun p e s m below meth c hx hb hr hlk hml hown hK hW ls hl => ?_)
  have hown : s.vm.findClass RX7 = some m.cls := hown
  have hl : lv_has ls 1 [(0, .ref (eA E 9))] := hl
  unfold fX7_loudness at hf
  refine lv_aload_n hx hb dX7_loudness_0 rfl (lv_at hl 0 rfl) ?_
  refine lv_iconst (v := 0) hx hb dX7_loudness_1 (by decide) ?_
  refine p_M_thrown hx hb hown hK hW kF_RX7_44 dX7_loudness_2 (fun H locs hW => ?_)
  obtain ⟨u1, eu1⟩ : ∃ y : Sg, y = (up2 μ 20 0 0) := ⟨_, rfl⟩
  have hf := nm_use eu1 hf
  rw [← eu1] at hW
  refine lv_aload_n hx hb dX7_loudness_5 rfl (lv_at hl 0 rfl) ?_
  obtain ⟨r3, u4, q2, hf⟩ := bd2_inv hf
  refine ss_callVf (As := []) hx hb hml hown hK hW kb_X7_loud kM_RX7_202 rfl (by decide) (c_fx (by decide)) (mX7_loud l  q2) rfl dX7_loudness_6 rfl hl.1 (Nat.le_of_ble_eq_true rfl) ⟨Nat.le_of_ble_eq_true rfl, Nat.le_of_ble_eq_true rfl⟩ ⟨Nat.zero_le _, Nat.zero_le _⟩ (fun H locs hW => ?_)
  cases hf
  exact ss_fret hx hb hr hlk hW rfl dX7_loudness_9
def fX7_meanSquare (μ : Sg) : Option (UInt64 × Sg) := nm (up2 μ 20 0 0) fun u1 => bd2 (fX7_mean u1) fun r3 u4 => some (r3, u4)
set_option maxHeartbeats 4000000 in
set_option maxRecDepth 100000 in
theorem mX7_meanSquare (l : Launch) {E : En} {σ μ : Sg} {dg : Int64}   {r : UInt64} {μ' : Sg} (hf : fX7_meanSquare μ = some (r, μ')) : Met l yX7_meanSquare [.code yX7_meanSquare cX7_meanSquare 1 (some .double)] (Rm 5 110) (va_Pc [.ref (eA E 9)] (Wd E σ μ dg)) (Qd E σ μ' dg r) 0 0 (eP E) := by
  refine ss_of (by decide) (Nat.le_of_ble_eq_true rfl) (fun p e s m below meth c hx hb hr hlk hml hown hK hW ls hl => ?_)
  have hown : s.vm.findClass RX7 = some m.cls := hown
  have hl : lv_has ls 1 [(0, .ref (eA E 9))] := hl
  unfold fX7_meanSquare at hf
  refine lv_aload_n hx hb dX7_meanSquare_0 rfl (lv_at hl 0 rfl) ?_
  refine lv_iconst (v := 0) hx hb dX7_meanSquare_1 (by decide) ?_
  refine p_M_thrown hx hb hown hK hW kF_RX7_44 dX7_meanSquare_2 (fun H locs hW => ?_)
  obtain ⟨u1, eu1⟩ : ∃ y : Sg, y = (up2 μ 20 0 0) := ⟨_, rfl⟩
  have hf := nm_use eu1 hf
  rw [← eu1] at hW
  refine lv_aload_n hx hb dX7_meanSquare_5 rfl (lv_at hl 0 rfl) ?_
  obtain ⟨r3, u4, q2, hf⟩ := bd2_inv hf
  refine ss_callVd (As := []) hx hb hml hown hK hW kb_X7_mean kM_RX7_197 rfl (by decide) (c_fx (by decide)) (mX7_mean l  q2) rfl dX7_meanSquare_6 rfl hl.1 (Nat.le_of_ble_eq_true rfl) ⟨Nat.le_of_ble_eq_true rfl, Nat.le_of_ble_eq_true rfl⟩ ⟨Nat.zero_le _, Nat.zero_le _⟩ (fun H locs hW => ?_)
  cases hf
  exact ss_dret hx hb hr hlk hW rfl dX7_meanSquare_9
def fX7_sample_b31 (a1 : Int32) (a2 : Int32) (k0 : Int32) (μ : Sg) : Option (Int32 × Sg) := bd2 (fX7_holds k0 μ) fun r2 u3 => if r2 = 0 then (some (0, u3)) else (bd (fX7_save u3) fun u6 => gd (¬ ((7 + a1) < 0 ∨ 295 ≤ ((7 + a1)).toNatClampNeg)) <| nm (u6 0 ((7 + a1)).toNatClampNeg) fun x3_8 => gd (¬ ((7 + a1) < 0 ∨ 295 ≤ ((7 + a1)).toNatClampNeg)) <| nm (up2 u6 0 (((7 + a1)).toNatClampNeg) a2) fun u10 => bd (fX7_notCoded u10) fun u12 => some ((x3_8 + 10000), u12))
def fX7_sample (a1 : Int32) (a2 : Int32) (μ : Sg) : Option (Int32 × Sg) := bd (fX7_isSample a1 μ) fun r14 => if r14 = 0 then (fX7_sample_b31 a1 a2 1 μ) else (bd (fX7_in a2 (-2048) 2047) fun r17 => if r17 = 0 then (fX7_sample_b31 a1 a2 2 μ) else (fX7_sample_b31 a1 a2 0 μ))
set_option maxHeartbeats 4000000 in
set_option maxRecDepth 100000 in
theorem mX7_sample (l : Launch) {E : En} {σ μ : Sg} {dg : Int64} {a1 : Int32} {a2 : Int32}  {r : Int32} {μ' : Sg} (hf : fX7_sample a1 a2 μ = some (r, μ')) : Met l yX7_sample [.code yX7_sample cX7_sample 4 (some .int)] (Rm 2 43) (va_Pc [.ref (eA E 9), .int a1, .int a2] (Wd E σ μ dg)) (Qi E σ μ' dg r) 0 0 (eP E) := by
  refine ss_of (by decide) (Nat.le_of_ble_eq_true rfl) (fun p e s m below meth c hx hb hr hlk hml hown hK hW ls hl => ?_)
  have hown : s.vm.findClass RX7 = some m.cls := hown
  have hl : lv_has ls 4 [(0, .ref (eA E 9)), (1, .int a1), (2, .int a2)] := hl
  unfold fX7_sample at hf
  have h31 : ∀ (k0 : Int32) (μ : Sg) (H : Heap) (locs : List Loc) (ls : Array Slot), Wk E σ μ dg s H locs → lv_has ls 4 [(0, .ref (eA E 9)), (1, .int a1), (2, .int a2)] → fX7_sample_b31 a1 a2 k0 μ = some (r, μ') → W p l e (Rm 2 43) s m [.ref (eA E 9), .int a1, .int a2].toArray below meth c H locs 0 0 (MQ below (Qi E σ μ' dg r) [.ref (eA E 9), .int a1, .int a2].toArray s 0 0 (eP E)) (F0 m 31 ls [.int k0, .ref (eA E 9)]) := by
    intro k0 μ  H locs ls hW hl hf
    unfold fX7_sample_b31 at hf
    obtain ⟨r2, u3, q1, hf⟩ := bd2_inv hf
    refine ss_callVi (As := [.int k0]) hx hb hml hown hK hW kb_X7_holds kM_RX7_97 rfl (by decide) (c_fx (by decide)) (mX7_holds l (a1 := k0) q1) rfl dX7_sample_31 rfl hl.1 (Nat.le_of_ble_eq_true rfl) ⟨Nat.le_of_ble_eq_true rfl, Nat.le_of_ble_eq_true rfl⟩ ⟨Nat.zero_le _, Nat.zero_le _⟩ (fun H locs hW => ?_)
    refine lv_if_ne (tgt := 39) hx hb dX7_sample_34 (by decide) (fun c4 => ?_) (fun c4 => ?_)
    · have hf := br_n c4 hf
      refine lv_aload_n hx hb dX7_sample_39 rfl (lv_at hl 0 rfl) ?_
      obtain ⟨u6, q5, hf⟩ := bd_inv hf
      refine ss_callVv (As := []) hx hb hml hown hK hW kb_X7_save kM_RX7_100 rfl (by decide) (c_fx (by decide)) (mX7_save l  q5) rfl dX7_sample_40 rfl hl.1 (Nat.le_of_ble_eq_true rfl) ⟨Nat.le_of_ble_eq_true rfl, Nat.le_of_ble_eq_true rfl⟩ ⟨Nat.zero_le _, Nat.zero_le _⟩ (fun H locs hW => ?_)
      refine lv_aload_n hx hb dX7_sample_43 rfl (lv_at hl 0 rfl) ?_
      refine g_M_s hx hb hown hK hW kF_RX7_7 dX7_sample_44 ?_
      refine lv_bipush (v := 7) hx hb dX7_sample_47 (by decide) ?_
      refine lv_iload_n hx hb dX7_sample_49 rfl (lv_at hl 1 rfl) ?_
      refine lv_iadd hx hb dX7_sample_50 ?_
      obtain ⟨hk7, hf⟩ := gd_inv hf
      refine l_M0 hx hb hK hW rfl hk7 dX7_sample_51 ?_
      refine lv_topi (fun x3_8 ex3_8 => ?_)
      have hf := nm_use ex3_8 hf
      refine lv_istore_n (lv' := [(3, .int x3_8), (0, .ref (eA E 9)), (1, .int a1), (2, .int a2)]) hx hb dX7_sample_52 rfl hl (by decide) rfl (fun ls hl => ?_)
      refine lv_aload_n hx hb dX7_sample_53 rfl (lv_at hl 1 rfl) ?_
      refine g_M_s hx hb hown hK hW kF_RX7_7 dX7_sample_54 ?_
      refine lv_bipush (v := 7) hx hb dX7_sample_57 (by decide) ?_
      refine lv_iload_n hx hb dX7_sample_59 rfl (lv_at hl 2 rfl) ?_
      refine lv_iadd hx hb dX7_sample_60 ?_
      refine lv_iload_n hx hb dX7_sample_61 rfl (lv_at hl 3 rfl) ?_
      obtain ⟨hk9, hf⟩ := gd_inv hf
      refine s_M0 hx hb hK hW rfl hk9 dX7_sample_62 (fun H locs hW => ?_)
      obtain ⟨u10, eu10⟩ : ∃ y : Sg, y = (up2 u6 0 (((7 + a1)).toNatClampNeg) a2) := ⟨_, rfl⟩
      have hf := nm_use eu10 hf
      rw [← eu10] at hW
      refine lv_aload_n hx hb dX7_sample_63 rfl (lv_at hl 1 rfl) ?_
      obtain ⟨u12, q11, hf⟩ := bd_inv hf
      refine ss_callVv (As := []) hx hb hml hown hK hW kb_X7_notCoded kM_RX7_103 rfl (by decide) (c_fx (by decide)) (mX7_notCoded l  q11) rfl dX7_sample_64 rfl hl.1 (Nat.le_of_ble_eq_true rfl) ⟨Nat.le_of_ble_eq_true rfl, Nat.le_of_ble_eq_true rfl⟩ ⟨Nat.zero_le _, Nat.zero_le _⟩ (fun H locs hW => ?_)
      refine lv_iload_n hx hb dX7_sample_67 rfl (lv_at hl 0 rfl) ?_
      refine lv_sipush (v := 10000) hx hb dX7_sample_68 (by decide) ?_
      refine lv_iadd hx hb dX7_sample_71 ?_
      cases hf
      exact ss_iret hx hb hr hlk hW rfl dX7_sample_72
    · have hf := br_p c4 hf
      refine lv_iconst (v := 0) hx hb dX7_sample_37 (by decide) ?_
      cases hf
      exact ss_iret hx hb hr hlk hW rfl dX7_sample_38
  refine lv_aload_n hx hb dX7_sample_0 rfl (lv_at hl 0 rfl) ?_
  refine lv_aload_n hx hb dX7_sample_1 rfl (lv_at hl 0 rfl) ?_
  refine lv_iload_n hx hb dX7_sample_2 rfl (lv_at hl 1 rfl) ?_
  obtain ⟨r14, q13, hf⟩ := bd_inv hf
  refine ss_callVi (As := [.int a1]) hx hb hml hown hK hW kb_X7_isSample kM_RX7_63 rfl (by decide) (c_fx (by decide)) (mX7_isSample l (a1 := a1) q13) rfl dX7_sample_3 rfl hl.1 (Nat.le_of_ble_eq_true rfl) ⟨Nat.le_of_ble_eq_true rfl, Nat.le_of_ble_eq_true rfl⟩ ⟨Nat.zero_le _, Nat.zero_le _⟩ (fun H locs hW => ?_)
  refine lv_if_ne (tgt := 13) hx hb dX7_sample_6 (by decide) (fun c15 => ?_) (fun c15 => ?_)
  · have hf := br_n c15 hf
    refine lv_iload_n hx hb dX7_sample_13 rfl (lv_at hl 2 rfl) ?_
    refine lv_sipush (v := (-2048)) hx hb dX7_sample_14 (by decide) ?_
    refine lv_sipush (v := 2047) hx hb dX7_sample_17 (by decide) ?_
    obtain ⟨r17, q16, hf⟩ := bd_inv hf
    refine ss_callSi (As := [.int a2, .int (-2048), .int 2047]) hx hb hml hown hK hW kb_X7_in kM_RX7_51 (mX7_in l (a0 := a2) (a1 := (-2048)) (a2 := 2047) q16) rfl dX7_sample_20 rfl hl.1 (Nat.le_of_ble_eq_true rfl) ⟨Nat.le_of_ble_eq_true rfl, Nat.le_of_ble_eq_true rfl⟩ ⟨Nat.zero_le _, Nat.zero_le _⟩ (fun H locs hW => ?_)
    refine lv_if_ne (tgt := 30) hx hb dX7_sample_23 (by decide) (fun c18 => ?_) (fun c18 => ?_)
    · have hf := br_n c18 hf
      refine lv_iconst (v := 0) hx hb dX7_sample_30 (by decide) ?_
      exact h31 0 μ _ _ _ hW (lv_sub hl [0, 1, 2] rfl) hf
    · have hf := br_p c18 hf
      refine lv_iconst (v := 2) hx hb dX7_sample_26 (by decide) ?_
      refine lv_goto (tgt := 31) hx hb dX7_sample_27 (by decide) ?_
      exact h31 2 μ _ _ _ hW (lv_sub hl [0, 1, 2] rfl) hf
  · have hf := br_p c15 hf
    refine lv_iconst (v := 1) hx hb dX7_sample_9 (by decide) ?_
    refine lv_goto (tgt := 31) hx hb dX7_sample_10 (by decide) ?_
    exact h31 1 μ _ _ _ hW (lv_sub hl [0, 1, 2] rfl) hf
def fX7_sampleOf_b27 (a1 : Int32) (a2 : Int32) (k0 : Int32) (μ : Sg) : Option (Int32 × Sg) := bd2 (fX7_holds k0 μ) fun r2 u3 => if r2 = 0 then (some (0, u3)) else (bd2 (fX7_toldOfSample a1 a2 u3) fun r6 u7 => some (r6, u7))
def fX7_sampleOf (a1 : Int32) (a2 : Int32) (μ : Sg) : Option (Int32 × Sg) := bd (fX7_isSample a1 μ) fun r9 => if r9 = 0 then (fX7_sampleOf_b27 a1 a2 1 μ) else (bd (fX7_in a2 0 5) fun r12 => if r12 = 0 then (fX7_sampleOf_b27 a1 a2 2 μ) else (fX7_sampleOf_b27 a1 a2 0 μ))
set_option maxHeartbeats 4000000 in
set_option maxRecDepth 100000 in
theorem mX7_sampleOf (l : Launch) {E : En} {σ μ : Sg} {dg : Int64} {a1 : Int32} {a2 : Int32}  {r : Int32} {μ' : Sg} (hf : fX7_sampleOf a1 a2 μ = some (r, μ')) : Met l yX7_sampleOf [.code yX7_sampleOf cX7_sampleOf 3 (some .int)] (Rm 4 92) (va_Pc [.ref (eA E 9), .int a1, .int a2] (Wd E σ μ dg)) (Qi E σ μ' dg r) 0 0 (eP E) := by
  refine ss_of (by decide) (Nat.le_of_ble_eq_true rfl) (fun p e s m below meth c hx hb hr hlk hml hown hK hW ls hl => ?_)
  have hown : s.vm.findClass RX7 = some m.cls := hown
  have hl : lv_has ls 3 [(0, .ref (eA E 9)), (1, .int a1), (2, .int a2)] := hl
  unfold fX7_sampleOf at hf
  have h27 : ∀ (k0 : Int32) (μ : Sg) (H : Heap) (locs : List Loc) (ls : Array Slot), Wk E σ μ dg s H locs → lv_has ls 3 [(0, .ref (eA E 9)), (1, .int a1), (2, .int a2)] → fX7_sampleOf_b27 a1 a2 k0 μ = some (r, μ') → W p l e (Rm 4 92) s m [.ref (eA E 9), .int a1, .int a2].toArray below meth c H locs 0 0 (MQ below (Qi E σ μ' dg r) [.ref (eA E 9), .int a1, .int a2].toArray s 0 0 (eP E)) (F0 m 27 ls [.int k0, .ref (eA E 9)]) := by
    intro k0 μ  H locs ls hW hl hf
    unfold fX7_sampleOf_b27 at hf
    obtain ⟨r2, u3, q1, hf⟩ := bd2_inv hf
    refine ss_callVi (As := [.int k0]) hx hb hml hown hK hW kb_X7_holds kM_RX7_97 rfl (by decide) (c_fx (by decide)) (mX7_holds l (a1 := k0) q1) rfl dX7_sampleOf_27 rfl hl.1 (Nat.le_of_ble_eq_true rfl) ⟨Nat.le_of_ble_eq_true rfl, Nat.le_of_ble_eq_true rfl⟩ ⟨Nat.zero_le _, Nat.zero_le _⟩ (fun H locs hW => ?_)
    refine lv_if_eq (tgt := 42) hx hb dX7_sampleOf_30 (by decide) (fun c4 => ?_) (fun c4 => ?_)
    · have hf := br_p c4 hf
      refine lv_iconst (v := 0) hx hb dX7_sampleOf_42 (by decide) ?_
      cases hf
      exact ss_iret hx hb hr hlk hW rfl dX7_sampleOf_43
    · have hf := br_n c4 hf
      refine lv_aload_n hx hb dX7_sampleOf_33 rfl (lv_at hl 0 rfl) ?_
      refine lv_iload_n hx hb dX7_sampleOf_34 rfl (lv_at hl 1 rfl) ?_
      refine lv_iload_n hx hb dX7_sampleOf_35 rfl (lv_at hl 2 rfl) ?_
      obtain ⟨r6, u7, q5, hf⟩ := bd2_inv hf
      refine ss_callVi (As := [.int a1, .int a2]) hx hb hml hown hK hW kb_X7_toldOfSample kM_RX7_170 rfl (by decide) (c_fx (by decide)) (mX7_toldOfSample l (a1 := a1) (a2 := a2) q5) rfl dX7_sampleOf_36 rfl hl.1 (Nat.le_of_ble_eq_true rfl) ⟨Nat.le_of_ble_eq_true rfl, Nat.le_of_ble_eq_true rfl⟩ ⟨Nat.zero_le _, Nat.zero_le _⟩ (fun H locs hW => ?_)
      refine lv_goto (tgt := 43) hx hb dX7_sampleOf_39 (by decide) ?_
      cases hf
      exact ss_iret hx hb hr hlk hW rfl dX7_sampleOf_43
  refine lv_aload_n hx hb dX7_sampleOf_0 rfl (lv_at hl 0 rfl) ?_
  refine lv_aload_n hx hb dX7_sampleOf_1 rfl (lv_at hl 0 rfl) ?_
  refine lv_iload_n hx hb dX7_sampleOf_2 rfl (lv_at hl 1 rfl) ?_
  obtain ⟨r9, q8, hf⟩ := bd_inv hf
  refine ss_callVi (As := [.int a1]) hx hb hml hown hK hW kb_X7_isSample kM_RX7_63 rfl (by decide) (c_fx (by decide)) (mX7_isSample l (a1 := a1) q8) rfl dX7_sampleOf_3 rfl hl.1 (Nat.le_of_ble_eq_true rfl) ⟨Nat.le_of_ble_eq_true rfl, Nat.le_of_ble_eq_true rfl⟩ ⟨Nat.zero_le _, Nat.zero_le _⟩ (fun H locs hW => ?_)
  refine lv_if_ne (tgt := 13) hx hb dX7_sampleOf_6 (by decide) (fun c10 => ?_) (fun c10 => ?_)
  · have hf := br_n c10 hf
    refine lv_iload_n hx hb dX7_sampleOf_13 rfl (lv_at hl 2 rfl) ?_
    refine lv_iconst (v := 0) hx hb dX7_sampleOf_14 (by decide) ?_
    refine lv_iconst (v := 5) hx hb dX7_sampleOf_15 (by decide) ?_
    obtain ⟨r12, q11, hf⟩ := bd_inv hf
    refine ss_callSi (As := [.int a2, .int 0, .int 5]) hx hb hml hown hK hW kb_X7_in kM_RX7_51 (mX7_in l (a0 := a2) (a1 := 0) (a2 := 5) q11) rfl dX7_sampleOf_16 rfl hl.1 (Nat.le_of_ble_eq_true rfl) ⟨Nat.le_of_ble_eq_true rfl, Nat.le_of_ble_eq_true rfl⟩ ⟨Nat.zero_le _, Nat.zero_le _⟩ (fun H locs hW => ?_)
    refine lv_if_ne (tgt := 26) hx hb dX7_sampleOf_19 (by decide) (fun c13 => ?_) (fun c13 => ?_)
    · have hf := br_n c13 hf
      refine lv_iconst (v := 0) hx hb dX7_sampleOf_26 (by decide) ?_
      exact h27 0 μ _ _ _ hW (lv_sub hl [0, 1, 2] rfl) hf
    · have hf := br_p c13 hf
      refine lv_iconst (v := 2) hx hb dX7_sampleOf_22 (by decide) ?_
      refine lv_goto (tgt := 27) hx hb dX7_sampleOf_23 (by decide) ?_
      exact h27 2 μ _ _ _ hW (lv_sub hl [0, 1, 2] rfl) hf
  · have hf := br_p c10 hf
    refine lv_iconst (v := 1) hx hb dX7_sampleOf_9 (by decide) ?_
    refine lv_goto (tgt := 27) hx hb dX7_sampleOf_10 (by decide) ?_
    exact h27 1 μ _ _ _ hW (lv_sub hl [0, 1, 2] rfl) hf
def fX7_set_b47 (a1 : Int32) (a2 : Int32) (k0 : Int32) (μ : Sg) : Option (Int32 × Sg) := bd2 (fX7_holds k0 μ) fun r2 u3 => if r2 = 0 then (some (0, u3)) else (bd (fX7_save u3) fun u6 => gd (¬ ((2 + a1) < 0 ∨ 295 ≤ ((2 + a1)).toNatClampNeg)) <| nm (u6 0 ((2 + a1)).toNatClampNeg) fun x4_8 => gd (¬ ((2 + a1) < 0 ∨ 295 ≤ ((2 + a1)).toNatClampNeg)) <| nm (up2 u6 0 (((2 + a1)).toNatClampNeg) a2) fun u10 => if 2 ≤ a1 then (some (x4_8, u10)) else (bd (fX7_notCoded u10) fun u13 => some (x4_8, u13)))
def fX7_set_b20 (a1 : Int32) (a2 : Int32) (k0 : Int32) (k1 : Int32) (k2 : Int32) (μ : Sg) : Option (Int32 × Sg) := bd (fX7_in k2 k1 k0) fun r15 => bd (fX7_in a1 0 2) fun r17 => if r17 = 0 then (fX7_set_b47 a1 a2 1 μ) else (if r15 = 0 then (fX7_set_b47 a1 a2 2 μ) else (fX7_set_b47 a1 a2 0 μ))
def fX7_set_b10 (a1 : Int32) (a2 : Int32) (k0 : Int32) (k1 : Int32) (μ : Sg) : Option (Int32 × Sg) := if a1 = 0 then (fX7_set_b20 a1 a2 16 k0 k1 μ) else (fX7_set_b20 a1 a2 a1 k0 k1 μ)
def fX7_set (a1 : Int32) (a2 : Int32) (μ : Sg) : Option (Int32 × Sg) := if a1 = 0 then (fX7_set_b10 a1 a2 2 a2 μ) else (fX7_set_b10 a1 a2 0 a2 μ)
set_option maxHeartbeats 4000000 in
set_option maxRecDepth 100000 in
theorem mX7_set (l : Launch) {E : En} {σ μ : Sg} {dg : Int64} {a1 : Int32} {a2 : Int32}  {r : Int32} {μ' : Sg} (hf : fX7_set a1 a2 μ = some (r, μ')) : Met l yX7_set [.code yX7_set cX7_set 5 (some .int)] (Rm 1 22) (va_Pc [.ref (eA E 9), .int a1, .int a2] (Wd E σ μ dg)) (Qi E σ μ' dg r) 0 0 (eP E) := by
  refine ss_of (by decide) (Nat.le_of_ble_eq_true rfl) (fun p e s m below meth c hx hb hr hlk hml hown hK hW ls hl => ?_)
  have hown : s.vm.findClass RX7 = some m.cls := hown
  have hl : lv_has ls 5 [(0, .ref (eA E 9)), (1, .int a1), (2, .int a2)] := hl
  unfold fX7_set at hf
  have h47 : ∀ (k0 : Int32) (μ : Sg) (H : Heap) (locs : List Loc) (ls : Array Slot), Wk E σ μ dg s H locs → lv_has ls 5 [(0, .ref (eA E 9)), (1, .int a1), (2, .int a2)] → fX7_set_b47 a1 a2 k0 μ = some (r, μ') → W p l e (Rm 1 22) s m [.ref (eA E 9), .int a1, .int a2].toArray below meth c H locs 0 0 (MQ below (Qi E σ μ' dg r) [.ref (eA E 9), .int a1, .int a2].toArray s 0 0 (eP E)) (F0 m 47 ls [.int k0, .ref (eA E 9)]) := by
    intro k0 μ  H locs ls hW hl hf
    unfold fX7_set_b47 at hf
    obtain ⟨r2, u3, q1, hf⟩ := bd2_inv hf
    refine ss_callVi (As := [.int k0]) hx hb hml hown hK hW kb_X7_holds kM_RX7_97 rfl (by decide) (c_fx (by decide)) (mX7_holds l (a1 := k0) q1) rfl dX7_set_47 rfl hl.1 (Nat.le_of_ble_eq_true rfl) ⟨Nat.le_of_ble_eq_true rfl, Nat.le_of_ble_eq_true rfl⟩ ⟨Nat.zero_le _, Nat.zero_le _⟩ (fun H locs hW => ?_)
    refine lv_if_ne (tgt := 55) hx hb dX7_set_50 (by decide) (fun c4 => ?_) (fun c4 => ?_)
    · have hf := br_n c4 hf
      refine lv_aload_n hx hb dX7_set_55 rfl (lv_at hl 0 rfl) ?_
      obtain ⟨u6, q5, hf⟩ := bd_inv hf
      refine ss_callVv (As := []) hx hb hml hown hK hW kb_X7_save kM_RX7_100 rfl (by decide) (c_fx (by decide)) (mX7_save l  q5) rfl dX7_set_56 rfl hl.1 (Nat.le_of_ble_eq_true rfl) ⟨Nat.le_of_ble_eq_true rfl, Nat.le_of_ble_eq_true rfl⟩ ⟨Nat.zero_le _, Nat.zero_le _⟩ (fun H locs hW => ?_)
      refine lv_aload_n hx hb dX7_set_59 rfl (lv_at hl 0 rfl) ?_
      refine g_M_s hx hb hown hK hW kF_RX7_7 dX7_set_60 ?_
      refine lv_iconst (v := 2) hx hb dX7_set_63 (by decide) ?_
      refine lv_iload_n hx hb dX7_set_64 rfl (lv_at hl 1 rfl) ?_
      refine lv_iadd hx hb dX7_set_65 ?_
      obtain ⟨hk7, hf⟩ := gd_inv hf
      refine l_M0 hx hb hK hW rfl hk7 dX7_set_66 ?_
      refine lv_topi (fun x4_8 ex4_8 => ?_)
      have hf := nm_use ex4_8 hf
      refine lv_istore (lv' := [(4, .int x4_8), (0, .ref (eA E 9)), (1, .int a1), (2, .int a2)]) hx hb dX7_set_67 hl (by decide) rfl (fun ls hl => ?_)
      refine lv_aload_n hx hb dX7_set_69 rfl (lv_at hl 1 rfl) ?_
      refine g_M_s hx hb hown hK hW kF_RX7_7 dX7_set_70 ?_
      refine lv_iconst (v := 2) hx hb dX7_set_73 (by decide) ?_
      refine lv_iload_n hx hb dX7_set_74 rfl (lv_at hl 2 rfl) ?_
      refine lv_iadd hx hb dX7_set_75 ?_
      refine lv_iload_n hx hb dX7_set_76 rfl (lv_at hl 3 rfl) ?_
      obtain ⟨hk9, hf⟩ := gd_inv hf
      refine s_M0 hx hb hK hW rfl hk9 dX7_set_77 (fun H locs hW => ?_)
      obtain ⟨u10, eu10⟩ : ∃ y : Sg, y = (up2 u6 0 (((2 + a1)).toNatClampNeg) a2) := ⟨_, rfl⟩
      have hf := nm_use eu10 hf
      rw [← eu10] at hW
      refine lv_iload_n hx hb dX7_set_78 rfl (lv_at hl 2 rfl) ?_
      refine lv_iconst (v := 2) hx hb dX7_set_79 (by decide) ?_
      refine lv_icmp_ge (tgt := 87) hx hb dX7_set_80 (by decide) (fun c11 => ?_) (fun c11 => ?_)
      · have hf := br_p c11 hf
        refine lv_iload hx hb dX7_set_87 (lv_at hl 0 rfl) ?_
        cases hf
        exact ss_iret hx hb hr hlk hW rfl dX7_set_89
      · have hf := br_n c11 hf
        refine lv_aload_n hx hb dX7_set_83 rfl (lv_at hl 1 rfl) ?_
        obtain ⟨u13, q12, hf⟩ := bd_inv hf
        refine ss_callVv (As := []) hx hb hml hown hK hW kb_X7_notCoded kM_RX7_103 rfl (by decide) (c_fx (by decide)) (mX7_notCoded l  q12) rfl dX7_set_84 rfl hl.1 (Nat.le_of_ble_eq_true rfl) ⟨Nat.le_of_ble_eq_true rfl, Nat.le_of_ble_eq_true rfl⟩ ⟨Nat.zero_le _, Nat.zero_le _⟩ (fun H locs hW => ?_)
        refine lv_iload hx hb dX7_set_87 (lv_at hl 0 rfl) ?_
        cases hf
        exact ss_iret hx hb hr hlk hW rfl dX7_set_89
    · have hf := br_p c4 hf
      refine lv_iconst (v := 0) hx hb dX7_set_53 (by decide) ?_
      cases hf
      exact ss_iret hx hb hr hlk hW rfl dX7_set_54
  have h20 : ∀ (k0 : Int32) (k1 : Int32) (k2 : Int32) (μ : Sg) (H : Heap) (locs : List Loc) (ls : Array Slot), Wk E σ μ dg s H locs → lv_has ls 5 [(0, .ref (eA E 9)), (1, .int a1), (2, .int a2)] → fX7_set_b20 a1 a2 k0 k1 k2 μ = some (r, μ') → W p l e (Rm 1 22) s m [.ref (eA E 9), .int a1, .int a2].toArray below meth c H locs 0 0 (MQ below (Qi E σ μ' dg r) [.ref (eA E 9), .int a1, .int a2].toArray s 0 0 (eP E)) (F0 m 20 ls [.int k0, .int k1, .int k2]) := by
    intro k0 k1 k2 μ  H locs ls hW hl hf
    unfold fX7_set_b20 at hf
    obtain ⟨r15, q14, hf⟩ := bd_inv hf
    refine ss_callSi (As := [.int k2, .int k1, .int k0]) hx hb hml hown hK hW kb_X7_in kM_RX7_51 (mX7_in l (a0 := k2) (a1 := k1) (a2 := k0) q14) rfl dX7_set_20 rfl hl.1 (Nat.le_of_ble_eq_true rfl) ⟨Nat.le_of_ble_eq_true rfl, Nat.le_of_ble_eq_true rfl⟩ ⟨Nat.zero_le _, Nat.zero_le _⟩ (fun H locs hW => ?_)
    refine lv_istore_n (lv' := [(3, .int r15), (0, .ref (eA E 9)), (1, .int a1), (2, .int a2)]) hx hb dX7_set_23 rfl hl (by decide) rfl (fun ls hl => ?_)
    refine lv_aload_n hx hb dX7_set_24 rfl (lv_at hl 1 rfl) ?_
    refine lv_iload_n hx hb dX7_set_25 rfl (lv_at hl 2 rfl) ?_
    refine lv_iconst (v := 0) hx hb dX7_set_26 (by decide) ?_
    refine lv_iconst (v := 2) hx hb dX7_set_27 (by decide) ?_
    obtain ⟨r17, q16, hf⟩ := bd_inv hf
    refine ss_callSi (As := [.int a1, .int 0, .int 2]) hx hb hml hown hK hW kb_X7_in kM_RX7_51 (mX7_in l (a0 := a1) (a1 := 0) (a2 := 2) q16) rfl dX7_set_28 rfl hl.1 (Nat.le_of_ble_eq_true rfl) ⟨Nat.le_of_ble_eq_true rfl, Nat.le_of_ble_eq_true rfl⟩ ⟨Nat.zero_le _, Nat.zero_le _⟩ (fun H locs hW => ?_)
    refine lv_if_ne (tgt := 38) hx hb dX7_set_31 (by decide) (fun c18 => ?_) (fun c18 => ?_)
    · have hf := br_n c18 hf
      refine lv_iload_n hx hb dX7_set_38 rfl (lv_at hl 0 rfl) ?_
      refine lv_if_ne (tgt := 46) hx hb dX7_set_39 (by decide) (fun c19 => ?_) (fun c19 => ?_)
      · have hf := br_n c19 hf
        refine lv_iconst (v := 0) hx hb dX7_set_46 (by decide) ?_
        exact h47 0 μ _ _ _ hW (lv_sub hl [1, 2, 3] rfl) hf
      · have hf := br_p c19 hf
        refine lv_iconst (v := 2) hx hb dX7_set_42 (by decide) ?_
        refine lv_goto (tgt := 47) hx hb dX7_set_43 (by decide) ?_
        exact h47 2 μ _ _ _ hW (lv_sub hl [1, 2, 3] rfl) hf
    · have hf := br_p c18 hf
      refine lv_iconst (v := 1) hx hb dX7_set_34 (by decide) ?_
      refine lv_goto (tgt := 47) hx hb dX7_set_35 (by decide) ?_
      exact h47 1 μ _ _ _ hW (lv_sub hl [1, 2, 3] rfl) hf
  have h10 : ∀ (k0 : Int32) (k1 : Int32) (μ : Sg) (H : Heap) (locs : List Loc) (ls : Array Slot), Wk E σ μ dg s H locs → lv_has ls 5 [(0, .ref (eA E 9)), (1, .int a1), (2, .int a2)] → fX7_set_b10 a1 a2 k0 k1 μ = some (r, μ') → W p l e (Rm 1 22) s m [.ref (eA E 9), .int a1, .int a2].toArray below meth c H locs 0 0 (MQ below (Qi E σ μ' dg r) [.ref (eA E 9), .int a1, .int a2].toArray s 0 0 (eP E)) (F0 m 10 ls [.int k0, .int k1]) := by
    intro k0 k1 μ  H locs ls hW hl hf
    unfold fX7_set_b10 at hf
    refine lv_iload_n hx hb dX7_set_10 rfl (lv_at hl 1 rfl) ?_
    refine lv_if_ne (tgt := 19) hx hb dX7_set_11 (by decide) (fun c20 => ?_) (fun c20 => ?_)
    · have hf := br_n c20 hf
      refine lv_iload_n hx hb dX7_set_19 rfl (lv_at hl 1 rfl) ?_
      exact h20 a1 k0 k1 μ _ _ _ hW (lv_sub hl [0, 1, 2] rfl) hf
    · have hf := br_p c20 hf
      refine lv_bipush (v := 16) hx hb dX7_set_14 (by decide) ?_
      refine lv_goto (tgt := 20) hx hb dX7_set_16 (by decide) ?_
      exact h20 16 k0 k1 μ _ _ _ hW (lv_sub hl [0, 1, 2] rfl) hf
  refine lv_iload_n hx hb dX7_set_0 rfl (lv_at hl 2 rfl) ?_
  refine lv_iload_n hx hb dX7_set_1 rfl (lv_at hl 1 rfl) ?_
  refine lv_if_ne (tgt := 9) hx hb dX7_set_2 (by decide) (fun c21 => ?_) (fun c21 => ?_)
  · have hf := br_n c21 hf
    refine lv_iconst (v := 0) hx hb dX7_set_9 (by decide) ?_
    exact h10 0 a2 μ _ _ _ hW (lv_sub hl [0, 1, 2] rfl) hf
  · have hf := br_p c21 hf
    refine lv_iconst (v := 2) hx hb dX7_set_5 (by decide) ?_
    refine lv_goto (tgt := 10) hx hb dX7_set_6 (by decide) ?_
    exact h10 2 a2 μ _ _ _ hW (lv_sub hl [0, 1, 2] rfl) hf
def fX7_setting_b15 (a1 : Int32) (k0 : Int32) (μ : Sg) : Option (Int32 × Sg) := bd2 (fX7_holds k0 μ) fun r2 u3 => if r2 = 0 then (some (0, u3)) else (gd (¬ ((2 + a1) < 0 ∨ 295 ≤ ((2 + a1)).toNatClampNeg)) <| some ((u3 0 ((2 + a1)).toNatClampNeg), u3))
def fX7_setting (a1 : Int32) (μ : Sg) : Option (Int32 × Sg) := bd (fX7_in a1 0 2) fun r7 => if r7 = 0 then (fX7_setting_b15 a1 1 μ) else (fX7_setting_b15 a1 0 μ)
set_option maxHeartbeats 4000000 in
set_option maxRecDepth 100000 in
theorem mX7_setting (l : Launch) {E : En} {σ μ : Sg} {dg : Int64} {a1 : Int32}  {r : Int32} {μ' : Sg} (hf : fX7_setting a1 μ = some (r, μ')) : Met l yX7_setting [.code yX7_setting cX7_setting 2 (some .int)] (Rm 1 22) (va_Pc [.ref (eA E 9), .int a1] (Wd E σ μ dg)) (Qi E σ μ' dg r) 0 0 (eP E) := by
  refine ss_of (by decide) (Nat.le_of_ble_eq_true rfl) (fun p e s m below meth c hx hb hr hlk hml hown hK hW ls hl => ?_)
  have hown : s.vm.findClass RX7 = some m.cls := hown
  have hl : lv_has ls 2 [(0, .ref (eA E 9)), (1, .int a1)] := hl
  unfold fX7_setting at hf
  have h15 : ∀ (k0 : Int32) (μ : Sg) (H : Heap) (locs : List Loc) (ls : Array Slot), Wk E σ μ dg s H locs → lv_has ls 2 [(0, .ref (eA E 9)), (1, .int a1)] → fX7_setting_b15 a1 k0 μ = some (r, μ') → W p l e (Rm 1 22) s m [.ref (eA E 9), .int a1].toArray below meth c H locs 0 0 (MQ below (Qi E σ μ' dg r) [.ref (eA E 9), .int a1].toArray s 0 0 (eP E)) (F0 m 15 ls [.int k0, .ref (eA E 9)]) := by
    intro k0 μ  H locs ls hW hl hf
    unfold fX7_setting_b15 at hf
    obtain ⟨r2, u3, q1, hf⟩ := bd2_inv hf
    refine ss_callVi (As := [.int k0]) hx hb hml hown hK hW kb_X7_holds kM_RX7_97 rfl (by decide) (c_fx (by decide)) (mX7_holds l (a1 := k0) q1) rfl dX7_setting_15 rfl hl.1 (Nat.le_of_ble_eq_true rfl) ⟨Nat.le_of_ble_eq_true rfl, Nat.le_of_ble_eq_true rfl⟩ ⟨Nat.zero_le _, Nat.zero_le _⟩ (fun H locs hW => ?_)
    refine lv_if_eq (tgt := 32) hx hb dX7_setting_18 (by decide) (fun c4 => ?_) (fun c4 => ?_)
    · have hf := br_p c4 hf
      refine lv_iconst (v := 0) hx hb dX7_setting_32 (by decide) ?_
      cases hf
      exact ss_iret hx hb hr hlk hW rfl dX7_setting_33
    · have hf := br_n c4 hf
      refine lv_aload_n hx hb dX7_setting_21 rfl (lv_at hl 0 rfl) ?_
      refine g_M_s hx hb hown hK hW kF_RX7_7 dX7_setting_22 ?_
      refine lv_iconst (v := 2) hx hb dX7_setting_25 (by decide) ?_
      refine lv_iload_n hx hb dX7_setting_26 rfl (lv_at hl 1 rfl) ?_
      refine lv_iadd hx hb dX7_setting_27 ?_
      obtain ⟨hk5, hf⟩ := gd_inv hf
      refine l_M0 hx hb hK hW rfl hk5 dX7_setting_28 ?_
      refine lv_goto (tgt := 33) hx hb dX7_setting_29 (by decide) ?_
      cases hf
      exact ss_iret hx hb hr hlk hW rfl dX7_setting_33
  refine lv_aload_n hx hb dX7_setting_0 rfl (lv_at hl 0 rfl) ?_
  refine lv_iload_n hx hb dX7_setting_1 rfl (lv_at hl 1 rfl) ?_
  refine lv_iconst (v := 0) hx hb dX7_setting_2 (by decide) ?_
  refine lv_iconst (v := 2) hx hb dX7_setting_3 (by decide) ?_
  obtain ⟨r7, q6, hf⟩ := bd_inv hf
  refine ss_callSi (As := [.int a1, .int 0, .int 2]) hx hb hml hown hK hW kb_X7_in kM_RX7_51 (mX7_in l (a0 := a1) (a1 := 0) (a2 := 2) q6) rfl dX7_setting_4 rfl hl.1 (Nat.le_of_ble_eq_true rfl) ⟨Nat.le_of_ble_eq_true rfl, Nat.le_of_ble_eq_true rfl⟩ ⟨Nat.zero_le _, Nat.zero_le _⟩ (fun H locs hW => ?_)
  refine lv_if_eq (tgt := 14) hx hb dX7_setting_7 (by decide) (fun c8 => ?_) (fun c8 => ?_)
  · have hf := br_p c8 hf
    refine lv_iconst (v := 1) hx hb dX7_setting_14 (by decide) ?_
    exact h15 1 μ _ _ _ hW (lv_sub hl [0, 1] rfl) hf
  · have hf := br_n c8 hf
    refine lv_iconst (v := 0) hx hb dX7_setting_10 (by decide) ?_
    refine lv_goto (tgt := 15) hx hb dX7_setting_11 (by decide) ?_
    exact h15 0 μ _ _ _ hW (lv_sub hl [0, 1] rfl) hf
def fX7_spoil_b27 (a1 : Int32) (a2 : Int32) (k0 : Int32) (μ : Sg) : Option (Int32 × Sg) := bd2 (fX7_holds k0 μ) fun r2 u3 => if r2 = 0 then (some (0, u3)) else (bd (fX7_save u3) fun u6 => gd (¬ ((71 + a1) < 0 ∨ 295 ≤ ((71 + a1)).toNatClampNeg)) <| gd (¬ ((71 + a1) < 0 ∨ 295 ≤ ((71 + a1)).toNatClampNeg)) <| nm (up2 u6 0 (((71 + a1)).toNatClampNeg) ((u6 0 ((71 + a1)).toNatClampNeg) ^^^ (1 <<< (a2 &&& 31)))) fun u9 => nm (up2 u9 0 6 ((u9 0 6) + 1)) fun u10 => gd (¬ ((71 + a1) < 0 ∨ 295 ≤ ((71 + a1)).toNatClampNeg)) <| some ((u10 0 ((71 + a1)).toNatClampNeg), u10))
def fX7_spoil (a1 : Int32) (a2 : Int32) (μ : Sg) : Option (Int32 × Sg) := bd (fX7_hasCode a1 μ) fun r13 => if r13 = 0 then (fX7_spoil_b27 a1 a2 1 μ) else (bd (fX7_in a2 0 3) fun r16 => if r16 = 0 then (fX7_spoil_b27 a1 a2 2 μ) else (fX7_spoil_b27 a1 a2 0 μ))
set_option maxHeartbeats 4000000 in
set_option maxRecDepth 100000 in
theorem mX7_spoil (l : Launch) {E : En} {σ μ : Sg} {dg : Int64} {a1 : Int32} {a2 : Int32}  {r : Int32} {μ' : Sg} (hf : fX7_spoil a1 a2 μ = some (r, μ')) : Met l yX7_spoil [.code yX7_spoil cX7_spoil 3 (some .int)] (Rm 3 64) (va_Pc [.ref (eA E 9), .int a1, .int a2] (Wd E σ μ dg)) (Qi E σ μ' dg r) 0 0 (eP E) := by
  refine ss_of (by decide) (Nat.le_of_ble_eq_true rfl) (fun p e s m below meth c hx hb hr hlk hml hown hK hW ls hl => ?_)
  have hown : s.vm.findClass RX7 = some m.cls := hown
  have hl : lv_has ls 3 [(0, .ref (eA E 9)), (1, .int a1), (2, .int a2)] := hl
  unfold fX7_spoil at hf
  have h27 : ∀ (k0 : Int32) (μ : Sg) (H : Heap) (locs : List Loc) (ls : Array Slot), Wk E σ μ dg s H locs → lv_has ls 3 [(0, .ref (eA E 9)), (1, .int a1), (2, .int a2)] → fX7_spoil_b27 a1 a2 k0 μ = some (r, μ') → W p l e (Rm 3 64) s m [.ref (eA E 9), .int a1, .int a2].toArray below meth c H locs 0 0 (MQ below (Qi E σ μ' dg r) [.ref (eA E 9), .int a1, .int a2].toArray s 0 0 (eP E)) (F0 m 27 ls [.int k0, .ref (eA E 9)]) := by
    intro k0 μ  H locs ls hW hl hf
    unfold fX7_spoil_b27 at hf
    obtain ⟨r2, u3, q1, hf⟩ := bd2_inv hf
    refine ss_callVi (As := [.int k0]) hx hb hml hown hK hW kb_X7_holds kM_RX7_97 rfl (by decide) (c_fx (by decide)) (mX7_holds l (a1 := k0) q1) rfl dX7_spoil_27 rfl hl.1 (Nat.le_of_ble_eq_true rfl) ⟨Nat.le_of_ble_eq_true rfl, Nat.le_of_ble_eq_true rfl⟩ ⟨Nat.zero_le _, Nat.zero_le _⟩ (fun H locs hW => ?_)
    refine lv_if_ne (tgt := 35) hx hb dX7_spoil_30 (by decide) (fun c4 => ?_) (fun c4 => ?_)
    · have hf := br_n c4 hf
      refine lv_aload_n hx hb dX7_spoil_35 rfl (lv_at hl 0 rfl) ?_
      obtain ⟨u6, q5, hf⟩ := bd_inv hf
      refine ss_callVv (As := []) hx hb hml hown hK hW kb_X7_save kM_RX7_100 rfl (by decide) (c_fx (by decide)) (mX7_save l  q5) rfl dX7_spoil_36 rfl hl.1 (Nat.le_of_ble_eq_true rfl) ⟨Nat.le_of_ble_eq_true rfl, Nat.le_of_ble_eq_true rfl⟩ ⟨Nat.zero_le _, Nat.zero_le _⟩ (fun H locs hW => ?_)
      refine lv_aload_n hx hb dX7_spoil_39 rfl (lv_at hl 0 rfl) ?_
      refine g_M_s hx hb hown hK hW kF_RX7_7 dX7_spoil_40 ?_
      refine lv_bipush (v := 71) hx hb dX7_spoil_43 (by decide) ?_
      refine lv_iload_n hx hb dX7_spoil_45 rfl (lv_at hl 1 rfl) ?_
      refine lv_iadd hx hb dX7_spoil_46 ?_
      refine lv_dup2_11 hx hb dX7_spoil_47 rfl rfl ?_
      obtain ⟨hk7, hf⟩ := gd_inv hf
      refine l_M0 hx hb hK hW rfl hk7 dX7_spoil_48 ?_
      refine lv_iconst (v := 1) hx hb dX7_spoil_49 (by decide) ?_
      refine lv_iload_n hx hb dX7_spoil_50 rfl (lv_at hl 2 rfl) ?_
      refine lv_ishl hx hb dX7_spoil_51 ?_
      refine lv_ixor hx hb dX7_spoil_52 ?_
      obtain ⟨hk8, hf⟩ := gd_inv hf
      refine s_M0 hx hb hK hW rfl hk8 dX7_spoil_53 (fun H locs hW => ?_)
      obtain ⟨u9, eu9⟩ : ∃ y : Sg, y = (up2 u6 0 (((71 + a1)).toNatClampNeg) ((u6 0 ((71 + a1)).toNatClampNeg) ^^^ (1 <<< (a2 &&& 31)))) := ⟨_, rfl⟩
      have hf := nm_use eu9 hf
      rw [← eu9] at hW
      refine lv_aload_n hx hb dX7_spoil_54 rfl (lv_at hl 0 rfl) ?_
      refine g_M_s hx hb hown hK hW kF_RX7_7 dX7_spoil_55 ?_
      refine lv_bipush (v := 6) hx hb dX7_spoil_58 (by decide) ?_
      refine lv_dup2_11 hx hb dX7_spoil_60 rfl rfl ?_
      refine l_M0 (k0 := 6) hx hb hK hW (by decide) (show ¬ ((6 : Int32) < 0 ∨ 295 ≤ (6 : Int32).toNatClampNeg) by decide) dX7_spoil_61 ?_
      refine lv_iconst (v := 1) hx hb dX7_spoil_62 (by decide) ?_
      refine lv_iadd hx hb dX7_spoil_63 ?_
      refine s_M0 (k0 := 6) hx hb hK hW (by decide) (show ¬ ((6 : Int32) < 0 ∨ 295 ≤ (6 : Int32).toNatClampNeg) by decide) dX7_spoil_64 (fun H locs hW => ?_)
      obtain ⟨u10, eu10⟩ : ∃ y : Sg, y = (up2 u9 0 6 ((u9 0 6) + 1)) := ⟨_, rfl⟩
      have hf := nm_use eu10 hf
      rw [← eu10] at hW
      refine lv_aload_n hx hb dX7_spoil_65 rfl (lv_at hl 0 rfl) ?_
      refine g_M_s hx hb hown hK hW kF_RX7_7 dX7_spoil_66 ?_
      refine lv_bipush (v := 71) hx hb dX7_spoil_69 (by decide) ?_
      refine lv_iload_n hx hb dX7_spoil_71 rfl (lv_at hl 1 rfl) ?_
      refine lv_iadd hx hb dX7_spoil_72 ?_
      obtain ⟨hk11, hf⟩ := gd_inv hf
      refine l_M0 hx hb hK hW rfl hk11 dX7_spoil_73 ?_
      cases hf
      exact ss_iret hx hb hr hlk hW rfl dX7_spoil_74
    · have hf := br_p c4 hf
      refine lv_iconst (v := 0) hx hb dX7_spoil_33 (by decide) ?_
      cases hf
      exact ss_iret hx hb hr hlk hW rfl dX7_spoil_34
  refine lv_aload_n hx hb dX7_spoil_0 rfl (lv_at hl 0 rfl) ?_
  refine lv_aload_n hx hb dX7_spoil_1 rfl (lv_at hl 0 rfl) ?_
  refine lv_iload_n hx hb dX7_spoil_2 rfl (lv_at hl 1 rfl) ?_
  obtain ⟨r13, q12, hf⟩ := bd_inv hf
  refine ss_callVi (As := [.int a1]) hx hb hml hown hK hW kb_X7_hasCode kM_RX7_122 rfl (by decide) (c_fx (by decide)) (mX7_hasCode l (a1 := a1) q12) rfl dX7_spoil_3 rfl hl.1 (Nat.le_of_ble_eq_true rfl) ⟨Nat.le_of_ble_eq_true rfl, Nat.le_of_ble_eq_true rfl⟩ ⟨Nat.zero_le _, Nat.zero_le _⟩ (fun H locs hW => ?_)
  refine lv_if_ne (tgt := 13) hx hb dX7_spoil_6 (by decide) (fun c14 => ?_) (fun c14 => ?_)
  · have hf := br_n c14 hf
    refine lv_iload_n hx hb dX7_spoil_13 rfl (lv_at hl 2 rfl) ?_
    refine lv_iconst (v := 0) hx hb dX7_spoil_14 (by decide) ?_
    refine lv_iconst (v := 3) hx hb dX7_spoil_15 (by decide) ?_
    obtain ⟨r16, q15, hf⟩ := bd_inv hf
    refine ss_callSi (As := [.int a2, .int 0, .int 3]) hx hb hml hown hK hW kb_X7_in kM_RX7_51 (mX7_in l (a0 := a2) (a1 := 0) (a2 := 3) q15) rfl dX7_spoil_16 rfl hl.1 (Nat.le_of_ble_eq_true rfl) ⟨Nat.le_of_ble_eq_true rfl, Nat.le_of_ble_eq_true rfl⟩ ⟨Nat.zero_le _, Nat.zero_le _⟩ (fun H locs hW => ?_)
    refine lv_if_ne (tgt := 26) hx hb dX7_spoil_19 (by decide) (fun c17 => ?_) (fun c17 => ?_)
    · have hf := br_n c17 hf
      refine lv_iconst (v := 0) hx hb dX7_spoil_26 (by decide) ?_
      exact h27 0 μ _ _ _ hW (lv_sub hl [0, 1, 2] rfl) hf
    · have hf := br_p c17 hf
      refine lv_iconst (v := 2) hx hb dX7_spoil_22 (by decide) ?_
      refine lv_goto (tgt := 27) hx hb dX7_spoil_23 (by decide) ?_
      exact h27 2 μ _ _ _ hW (lv_sub hl [0, 1, 2] rfl) hf
  · have hf := br_p c14 hf
    refine lv_iconst (v := 1) hx hb dX7_spoil_9 (by decide) ?_
    refine lv_goto (tgt := 27) hx hb dX7_spoil_10 (by decide) ?_
    exact h27 1 μ _ _ _ hW (lv_sub hl [0, 1, 2] rfl) hf
def fX7_step_b16 (a1 : Int32) (k0 : Int32) (μ : Sg) : Option (Int32 × Sg) := bd2 (fX7_holds k0 μ) fun r2 u3 => if r2 = 0 then (some (0, u3)) else (gd (¬ (a1 < 0 ∨ 49 ≤ (a1).toNatClampNeg)) <| some ((u3 5 (a1).toNatClampNeg), u3))
def fX7_step (a1 : Int32) (μ : Sg) : Option (Int32 × Sg) := bd (fX7_in a1 0 48) fun r7 => if r7 = 0 then (fX7_step_b16 a1 1 μ) else (fX7_step_b16 a1 0 μ)
set_option maxHeartbeats 4000000 in
set_option maxRecDepth 100000 in
theorem mX7_step (l : Launch) {E : En} {σ μ : Sg} {dg : Int64} {a1 : Int32}  {r : Int32} {μ' : Sg} (hf : fX7_step a1 μ = some (r, μ')) : Met l yX7_step [.code yX7_step cX7_step 2 (some .int)] (Rm 1 22) (va_Pc [.ref (eA E 9), .int a1] (Wd E σ μ dg)) (Qi E σ μ' dg r) 0 0 (eP E) := by
  refine ss_of (by decide) (Nat.le_of_ble_eq_true rfl) (fun p e s m below meth c hx hb hr hlk hml hown hK hW ls hl => ?_)
  have hown : s.vm.findClass RX7 = some m.cls := hown
  have hl : lv_has ls 2 [(0, .ref (eA E 9)), (1, .int a1)] := hl
  unfold fX7_step at hf
  have h16 : ∀ (k0 : Int32) (μ : Sg) (H : Heap) (locs : List Loc) (ls : Array Slot), Wk E σ μ dg s H locs → lv_has ls 2 [(0, .ref (eA E 9)), (1, .int a1)] → fX7_step_b16 a1 k0 μ = some (r, μ') → W p l e (Rm 1 22) s m [.ref (eA E 9), .int a1].toArray below meth c H locs 0 0 (MQ below (Qi E σ μ' dg r) [.ref (eA E 9), .int a1].toArray s 0 0 (eP E)) (F0 m 16 ls [.int k0, .ref (eA E 9)]) := by
    intro k0 μ  H locs ls hW hl hf
    unfold fX7_step_b16 at hf
    obtain ⟨r2, u3, q1, hf⟩ := bd2_inv hf
    refine ss_callVi (As := [.int k0]) hx hb hml hown hK hW kb_X7_holds kM_RX7_97 rfl (by decide) (c_fx (by decide)) (mX7_holds l (a1 := k0) q1) rfl dX7_step_16 rfl hl.1 (Nat.le_of_ble_eq_true rfl) ⟨Nat.le_of_ble_eq_true rfl, Nat.le_of_ble_eq_true rfl⟩ ⟨Nat.zero_le _, Nat.zero_le _⟩ (fun H locs hW => ?_)
    refine lv_if_eq (tgt := 31) hx hb dX7_step_19 (by decide) (fun c4 => ?_) (fun c4 => ?_)
    · have hf := br_p c4 hf
      refine lv_iconst (v := 0) hx hb dX7_step_31 (by decide) ?_
      cases hf
      exact ss_iret hx hb hr hlk hW rfl dX7_step_32
    · have hf := br_n c4 hf
      refine lv_aload_n hx hb dX7_step_22 rfl (lv_at hl 0 rfl) ?_
      refine g_M_table hx hb hown hK hW kF_RX7_26 dX7_step_23 ?_
      refine lv_iload_n hx hb dX7_step_26 rfl (lv_at hl 1 rfl) ?_
      obtain ⟨hk5, hf⟩ := gd_inv hf
      refine l_M5 hx hb hK hW rfl hk5 dX7_step_27 ?_
      refine lv_goto (tgt := 32) hx hb dX7_step_28 (by decide) ?_
      cases hf
      exact ss_iret hx hb hr hlk hW rfl dX7_step_32
  refine lv_aload_n hx hb dX7_step_0 rfl (lv_at hl 0 rfl) ?_
  refine lv_iload_n hx hb dX7_step_1 rfl (lv_at hl 1 rfl) ?_
  refine lv_iconst (v := 0) hx hb dX7_step_2 (by decide) ?_
  refine lv_bipush (v := 48) hx hb dX7_step_3 (by decide) ?_
  obtain ⟨r7, q6, hf⟩ := bd_inv hf
  refine ss_callSi (As := [.int a1, .int 0, .int 48]) hx hb hml hown hK hW kb_X7_in kM_RX7_51 (mX7_in l (a0 := a1) (a1 := 0) (a2 := 48) q6) rfl dX7_step_5 rfl hl.1 (Nat.le_of_ble_eq_true rfl) ⟨Nat.le_of_ble_eq_true rfl, Nat.le_of_ble_eq_true rfl⟩ ⟨Nat.zero_le _, Nat.zero_le _⟩ (fun H locs hW => ?_)
  refine lv_if_eq (tgt := 15) hx hb dX7_step_8 (by decide) (fun c8 => ?_) (fun c8 => ?_)
  · have hf := br_p c8 hf
    refine lv_iconst (v := 1) hx hb dX7_step_15 (by decide) ?_
    exact h16 1 μ _ _ _ hW (lv_sub hl [0, 1] rfl) hf
  · have hf := br_n c8 hf
    refine lv_iconst (v := 0) hx hb dX7_step_11 (by decide) ?_
    refine lv_goto (tgt := 16) hx hb dX7_step_12 (by decide) ?_
    exact h16 0 μ _ _ _ hW (lv_sub hl [0, 1] rfl) hf
def fX7_take_b67 (k33 : Int32 → Int32 → Sg → Option (Int32 × Sg)) (x2 : Int32) (k0 : Int32) (k1 : Int32) (μ : Sg) : Option (Int32 × Sg) := nm (k1 + k0) fun x1_1 => gd (¬ (x2 < 0 ∨ 64 ≤ (x2).toNatClampNeg)) <| gd (¬ ((7 + x2) < 0 ∨ 295 ≤ ((7 + x2)).toNatClampNeg)) <| nm (up2 μ 0 (((7 + x2)).toNatClampNeg) (μ 6 (x2).toNatClampNeg)) fun u4 => nm (x2 + 1) fun x2_5 => k33 x1_1 x2_5 u4
def fX7_take_L33  (n : Nat) (x1 : Int32) (x2 : Int32) (μ : Sg) : Option (Int32 × Sg) := match n with
  | 0 => none
  | n + 1 => if (μ 0 0) ≤ x2 then (bd (fX7_notCoded μ) fun u8 => some (x1, u8)) else (gd (¬ ((7 + x2) < 0 ∨ 295 ≤ ((7 + x2)).toNatClampNeg)) <| gd (¬ (x2 < 0 ∨ 64 ≤ (x2).toNatClampNeg)) <| if (μ 0 ((7 + x2)).toNatClampNeg) = (μ 6 (x2).toNatClampNeg) then (fX7_take_b67 (fun x1 x2 μ => fX7_take_L33 n x1 x2 μ) x2 0 x1 μ) else (fX7_take_b67 (fun x1 x2 μ => fX7_take_L33 n x1 x2 μ) x2 1 x1 μ))
def fX7_take_b13  (k0 : Int32) (μ : Sg) : Option (Int32 × Sg) := bd2 (fX7_holds k0 μ) fun r13 u14 => if r13 = 0 then (some (0, u14)) else (bd (fX7_save u14) fun u17 => bd (fX7_decodes u17) fun u19 => fX7_take_L33 80 0 0 u19)
def fX7_take (μ : Sg) : Option (Int32 × Sg) := bd (fX7_isCoded μ) fun r21 => if r21 = 0 then (fX7_take_b13 1 μ) else (fX7_take_b13 0 μ)
set_option maxHeartbeats 4000000 in
set_option maxRecDepth 100000 in
theorem mX7_take (l : Launch) {E : En} {σ μ : Sg} {dg : Int64}   {r : Int32} {μ' : Sg} (hf : fX7_take μ = some (r, μ')) : Met l yX7_take [.code yX7_take cX7_take 3 (some .int)] (Rm 3 70) (va_Pc [.ref (eA E 9)] (Wd E σ μ dg)) (Qi E σ μ' dg r) 0 0 (eP E) := by
  refine ss_of (by decide) (Nat.le_of_ble_eq_true rfl) (fun p e s m below meth c hx hb hr hlk hml hown hK hW ls hl => ?_)
  have hown : s.vm.findClass RX7 = some m.cls := hown
  have hl : lv_has ls 3 [(0, .ref (eA E 9))] := hl
  unfold fX7_take at hf
  have h33 : ∀ (n33 : Nat) (x1 : Int32) (x2 : Int32) (μ : Sg) (H : Heap) (locs : List Loc) (ls : Array Slot), Wk E σ μ dg s H locs → lv_has ls 3 [(0, .ref (eA E 9)), (1, .int x1), (2, .int x2)] → fX7_take_L33 n33 x1 x2 μ = some (r, μ') → W p l e (Rm 3 70) s m [.ref (eA E 9)].toArray below meth c H locs 0 0 (MQ below (Qi E σ μ' dg r) [.ref (eA E 9)].toArray s 0 0 (eP E)) (F0 m 33 ls []) := by
    intro n33
    induction n33 with
    | zero =>
      intro x1 x2 μ  H locs ls hW hl hf
      exact absurd hf (by simp [fX7_take_L33])
    | succ n33 ih33 =>
      have h67 : ∀ (x2 : Int32) (k0 : Int32) (k1 : Int32) (μ : Sg) (H : Heap) (locs : List Loc) (ls : Array Slot), Wk E σ μ dg s H locs → lv_has ls 3 [(0, .ref (eA E 9)), (2, .int x2)] → fX7_take_b67 (fun x1 x2 μ => fX7_take_L33 n33 x1 x2 μ) x2 k0 k1 μ = some (r, μ') → W p l e (Rm 3 70) s m [.ref (eA E 9)].toArray below meth c H locs 0 0 (MQ below (Qi E σ μ' dg r) [.ref (eA E 9)].toArray s 0 0 (eP E)) (F0 m 67 ls [.int k0, .int k1]) := by
        intro x2 k0 k1 μ  H locs ls hW hl hf
        unfold fX7_take_b67 at hf
        refine lv_iadd hx hb dX7_take_67 ?_
        refine lv_topi (fun x1_1 ex1_1 => ?_)
        have hf := nm_use ex1_1 hf
        refine lv_istore_n (lv' := [(1, .int x1_1), (0, .ref (eA E 9)), (2, .int x2)]) hx hb dX7_take_68 rfl hl (by decide) rfl (fun ls hl => ?_)
        refine lv_aload_n hx hb dX7_take_69 rfl (lv_at hl 1 rfl) ?_
        refine g_M_s hx hb hown hK hW kF_RX7_7 dX7_take_70 ?_
        refine lv_bipush (v := 7) hx hb dX7_take_73 (by decide) ?_
        refine lv_iload_n hx hb dX7_take_75 rfl (lv_at hl 2 rfl) ?_
        refine lv_iadd hx hb dX7_take_76 ?_
        refine lv_aload_n hx hb dX7_take_77 rfl (lv_at hl 1 rfl) ?_
        refine g_M_made hx hb hown hK hW kF_RX7_29 dX7_take_78 ?_
        refine lv_iload_n hx hb dX7_take_81 rfl (lv_at hl 2 rfl) ?_
        obtain ⟨hk2, hf⟩ := gd_inv hf
        refine l_M6 hx hb hK hW rfl hk2 dX7_take_82 ?_
        obtain ⟨hk3, hf⟩ := gd_inv hf
        refine s_M0 hx hb hK hW rfl hk3 dX7_take_83 (fun H locs hW => ?_)
        obtain ⟨u4, eu4⟩ : ∃ y : Sg, y = (up2 μ 0 (((7 + x2)).toNatClampNeg) (μ 6 (x2).toNatClampNeg)) := ⟨_, rfl⟩
        have hf := nm_use eu4 hf
        rw [← eu4] at hW
        obtain ⟨x2_5, ex2_5⟩ : ∃ y : Int32, y = (x2 + 1) := ⟨_, rfl⟩
        have hf := nm_use ex2_5 hf
        refine lv_iinc (v := x2_5) (lv' := [(2, .int x2_5), (1, .int x1_1), (0, .ref (eA E 9))]) hx hb dX7_take_84 hl (k := 2) rfl (by rw [ex2_5]; rfl) (by decide) rfl (fun ls hl => ?_)
        refine lv_goto (tgt := 33) hx hb dX7_take_87 (by decide) ?_
        exact ih33 x1_1 x2_5 u4 _ _ _ hW (lv_sub hl [2, 1, 0] rfl) hf
      intro x1 x2 μ  H locs ls hW hl hf
      rw [fX7_take_L33] at hf
      refine lv_iload_n hx hb dX7_take_33 rfl (lv_at hl 2 rfl) ?_
      refine lv_aload_n hx hb dX7_take_34 rfl (lv_at hl 0 rfl) ?_
      refine g_M_s hx hb hown hK hW kF_RX7_7 dX7_take_35 ?_
      refine lv_iconst (v := 0) hx hb dX7_take_38 (by decide) ?_
      refine l_M0 (k0 := 0) hx hb hK hW (by decide) (show ¬ ((0 : Int32) < 0 ∨ 295 ≤ (0 : Int32).toNatClampNeg) by decide) dX7_take_39 ?_
      refine lv_icmp_ge (tgt := 90) hx hb dX7_take_40 (by decide) (fun c6 => ?_) (fun c6 => ?_)
      · have hf := br_p c6 hf
        refine lv_aload_n hx hb dX7_take_90 rfl (lv_at hl 0 rfl) ?_
        obtain ⟨u8, q7, hf⟩ := bd_inv hf
        refine ss_callVv (As := []) hx hb hml hown hK hW kb_X7_notCoded kM_RX7_103 rfl (by decide) (c_fx (by decide)) (mX7_notCoded l  q7) rfl dX7_take_91 rfl hl.1 (Nat.le_of_ble_eq_true rfl) ⟨Nat.le_of_ble_eq_true rfl, Nat.le_of_ble_eq_true rfl⟩ ⟨Nat.zero_le _, Nat.zero_le _⟩ (fun H locs hW => ?_)
        refine lv_iload_n hx hb dX7_take_94 rfl (lv_at hl 1 rfl) ?_
        cases hf
        exact ss_iret hx hb hr hlk hW rfl dX7_take_95
      · have hf := br_n c6 hf
        refine lv_iload_n hx hb dX7_take_43 rfl (lv_at hl 1 rfl) ?_
        refine lv_aload_n hx hb dX7_take_44 rfl (lv_at hl 0 rfl) ?_
        refine g_M_s hx hb hown hK hW kF_RX7_7 dX7_take_45 ?_
        refine lv_bipush (v := 7) hx hb dX7_take_48 (by decide) ?_
        refine lv_iload_n hx hb dX7_take_50 rfl (lv_at hl 2 rfl) ?_
        refine lv_iadd hx hb dX7_take_51 ?_
        obtain ⟨hk9, hf⟩ := gd_inv hf
        refine l_M0 hx hb hK hW rfl hk9 dX7_take_52 ?_
        refine lv_aload_n hx hb dX7_take_53 rfl (lv_at hl 0 rfl) ?_
        refine g_M_made hx hb hown hK hW kF_RX7_29 dX7_take_54 ?_
        refine lv_iload_n hx hb dX7_take_57 rfl (lv_at hl 2 rfl) ?_
        obtain ⟨hk10, hf⟩ := gd_inv hf
        refine l_M6 hx hb hK hW rfl hk10 dX7_take_58 ?_
        refine lv_icmp_ne (tgt := 66) hx hb dX7_take_59 (by decide) (fun c11 => ?_) (fun c11 => ?_)
        · have hf := br_n c11 hf
          refine lv_iconst (v := 1) hx hb dX7_take_66 (by decide) ?_
          exact h67 x2 1 x1 μ _ _ _ hW (lv_sub hl [0, 2] rfl) hf
        · have hf := br_p c11 hf
          refine lv_iconst (v := 0) hx hb dX7_take_62 (by decide) ?_
          refine lv_goto (tgt := 67) hx hb dX7_take_63 (by decide) ?_
          exact h67 x2 0 x1 μ _ _ _ hW (lv_sub hl [0, 2] rfl) hf
  have h13 : ∀ (k0 : Int32) (μ : Sg) (H : Heap) (locs : List Loc) (ls : Array Slot), Wk E σ μ dg s H locs → lv_has ls 3 [(0, .ref (eA E 9))] → fX7_take_b13 k0 μ = some (r, μ') → W p l e (Rm 3 70) s m [.ref (eA E 9)].toArray below meth c H locs 0 0 (MQ below (Qi E σ μ' dg r) [.ref (eA E 9)].toArray s 0 0 (eP E)) (F0 m 13 ls [.int k0, .ref (eA E 9)]) := by
    intro k0 μ  H locs ls hW hl hf
    unfold fX7_take_b13 at hf
    obtain ⟨r13, u14, q12, hf⟩ := bd2_inv hf
    refine ss_callVi (As := [.int k0]) hx hb hml hown hK hW kb_X7_holds kM_RX7_97 rfl (by decide) (c_fx (by decide)) (mX7_holds l (a1 := k0) q12) rfl dX7_take_13 rfl hl.1 (Nat.le_of_ble_eq_true rfl) ⟨Nat.le_of_ble_eq_true rfl, Nat.le_of_ble_eq_true rfl⟩ ⟨Nat.zero_le _, Nat.zero_le _⟩ (fun H locs hW => ?_)
    refine lv_if_ne (tgt := 21) hx hb dX7_take_16 (by decide) (fun c15 => ?_) (fun c15 => ?_)
    · have hf := br_n c15 hf
      refine lv_aload_n hx hb dX7_take_21 rfl (lv_at hl 0 rfl) ?_
      obtain ⟨u17, q16, hf⟩ := bd_inv hf
      refine ss_callVv (As := []) hx hb hml hown hK hW kb_X7_save kM_RX7_100 rfl (by decide) (c_fx (by decide)) (mX7_save l  q16) rfl dX7_take_22 rfl hl.1 (Nat.le_of_ble_eq_true rfl) ⟨Nat.le_of_ble_eq_true rfl, Nat.le_of_ble_eq_true rfl⟩ ⟨Nat.zero_le _, Nat.zero_le _⟩ (fun H locs hW => ?_)
      refine lv_aload_n hx hb dX7_take_25 rfl (lv_at hl 0 rfl) ?_
      obtain ⟨u19, q18, hf⟩ := bd_inv hf
      refine ss_callVv (As := []) hx hb hml hown hK hW kb_X7_decodes kM_RX7_94 rfl (by decide) (c_fx (by decide)) (mX7_decodes l  q18) rfl dX7_take_26 rfl hl.1 (Nat.le_of_ble_eq_true rfl) ⟨Nat.le_of_ble_eq_true rfl, Nat.le_of_ble_eq_true rfl⟩ ⟨Nat.zero_le _, Nat.zero_le _⟩ (fun H locs hW => ?_)
      refine lv_iconst (v := 0) hx hb dX7_take_29 (by decide) ?_
      refine lv_istore_n (lv' := [(1, .int 0), (0, .ref (eA E 9))]) hx hb dX7_take_30 rfl hl (by decide) rfl (fun ls hl => ?_)
      refine lv_iconst (v := 0) hx hb dX7_take_31 (by decide) ?_
      refine lv_istore_n (lv' := [(2, .int 0), (1, .int 0), (0, .ref (eA E 9))]) hx hb dX7_take_32 rfl hl (by decide) rfl (fun ls hl => ?_)
      exact h33 80 0 0 u19 _ _ _ hW (lv_sub hl [2, 1, 0] rfl) hf
    · have hf := br_p c15 hf
      refine lv_iconst (v := 0) hx hb dX7_take_19 (by decide) ?_
      cases hf
      exact ss_iret hx hb hr hlk hW rfl dX7_take_20
  refine lv_aload_n hx hb dX7_take_0 rfl (lv_at hl 0 rfl) ?_
  refine lv_aload_n hx hb dX7_take_1 rfl (lv_at hl 0 rfl) ?_
  obtain ⟨r21, q20, hf⟩ := bd_inv hf
  refine ss_callVi (As := []) hx hb hml hown hK hW kb_X7_isCoded kM_RX7_55 rfl (by decide) (c_fx (by decide)) (mX7_isCoded l  q20) rfl dX7_take_2 rfl hl.1 (Nat.le_of_ble_eq_true rfl) ⟨Nat.le_of_ble_eq_true rfl, Nat.le_of_ble_eq_true rfl⟩ ⟨Nat.zero_le _, Nat.zero_le _⟩ (fun H locs hW => ?_)
  refine lv_if_eq (tgt := 12) hx hb dX7_take_5 (by decide) (fun c22 => ?_) (fun c22 => ?_)
  · have hf := br_p c22 hf
    refine lv_iconst (v := 1) hx hb dX7_take_12 (by decide) ?_
    exact h13 1 μ _ _ _ hW (lv_sub hl [0] rfl) hf
  · have hf := br_n c22 hf
    refine lv_iconst (v := 0) hx hb dX7_take_8 (by decide) ?_
    refine lv_goto (tgt := 13) hx hb dX7_take_9 (by decide) ?_
    exact h13 0 μ _ _ _ hW (lv_sub hl [0] rfl) hf
def fX7_thrown (μ : Sg) : Option Int32 := some (μ 20 0)
set_option maxHeartbeats 4000000 in
set_option maxRecDepth 100000 in
theorem mX7_thrown (l : Launch) {E : En} {σ μ : Sg} {dg : Int64}   {r : Int32} (hf : fX7_thrown μ = some r) : Met l yX7_thrown [.code yX7_thrown cX7_thrown 1 (some .int)] (Rm 0 0) (va_Pc [.ref (eA E 9)] (Wd E σ μ dg)) (Qi E σ μ dg r) 0 0 (eP E) := by
  refine ss_of (by decide) (Nat.le_of_ble_eq_true rfl) (fun p e s m below meth c hx hb hr hlk hml hown hK hW ls hl => ?_)
  have hown : s.vm.findClass RX7 = some m.cls := hown
  have hl : lv_has ls 1 [(0, .ref (eA E 9))] := hl
  unfold fX7_thrown at hf
  refine lv_aload_n hx hb dX7_thrown_0 rfl (lv_at hl 0 rfl) ?_
  refine g_M_thrown hx hb hown hK hW kF_RX7_44 dX7_thrown_1 ?_
  exact ss_iret hx hb hr hlk hW (Option.some.inj hf) dX7_thrown_4
def fX7_undo_L33  (n : Nat) (x1 : Int32) (μ : Sg) : Option (Int32 × Sg) := match n with
  | 0 => none
  | n + 1 => if 295 ≤ x1 then (some ((μ 20 3), μ)) else (gd (¬ (((295 * (μ 20 3)) + x1) < 0 ∨ 1770 ≤ (((295 * (μ 20 3)) + x1)).toNatClampNeg)) <| gd (¬ (x1 < 0 ∨ 295 ≤ (x1).toNatClampNeg)) <| nm (up2 μ 0 ((x1).toNatClampNeg) (μ 1 (((295 * (μ 20 3)) + x1)).toNatClampNeg)) fun u4 => nm (x1 + 1) fun x1_5 => (fun x1 μ => fX7_undo_L33 n x1 μ) x1_5 u4)
def fX7_undo_b13  (k0 : Int32) (μ : Sg) : Option (Int32 × Sg) := bd2 (fX7_holds k0 μ) fun r7 u8 => if r7 = 0 then (some (0, u8)) else (nm (up2 u8 20 3 ((u8 20 3) - 1)) fun u10 => fX7_undo_L33 400 0 u10)
def fX7_undo (μ : Sg) : Option (Int32 × Sg) := if (μ 20 3) ≤ 0 then (fX7_undo_b13 1 μ) else (fX7_undo_b13 0 μ)
set_option maxHeartbeats 4000000 in
set_option maxRecDepth 100000 in
theorem mX7_undo (l : Launch) {E : En} {σ μ : Sg} {dg : Int64}   {r : Int32} {μ' : Sg} (hf : fX7_undo μ = some (r, μ')) : Met l yX7_undo [.code yX7_undo cX7_undo 2 (some .int)] (Rm 1 21) (va_Pc [.ref (eA E 9)] (Wd E σ μ dg)) (Qi E σ μ' dg r) 0 0 (eP E) := by
  refine ss_of (by decide) (Nat.le_of_ble_eq_true rfl) (fun p e s m below meth c hx hb hr hlk hml hown hK hW ls hl => ?_)
  have hown : s.vm.findClass RX7 = some m.cls := hown
  have hl : lv_has ls 2 [(0, .ref (eA E 9))] := hl
  unfold fX7_undo at hf
  have h33 : ∀ (n33 : Nat) (x1 : Int32) (μ : Sg) (H : Heap) (locs : List Loc) (ls : Array Slot), Wk E σ μ dg s H locs → lv_has ls 2 [(0, .ref (eA E 9)), (1, .int x1)] → fX7_undo_L33 n33 x1 μ = some (r, μ') → W p l e (Rm 1 21) s m [.ref (eA E 9)].toArray below meth c H locs 0 0 (MQ below (Qi E σ μ' dg r) [.ref (eA E 9)].toArray s 0 0 (eP E)) (F0 m 33 ls []) := by
    intro n33
    induction n33 with
    | zero =>
      intro x1 μ  H locs ls hW hl hf
      exact absurd hf (by simp [fX7_undo_L33])
    | succ n33 ih33 =>
      intro x1 μ  H locs ls hW hl hf
      rw [fX7_undo_L33] at hf
      refine lv_iload_n hx hb dX7_undo_33 rfl (lv_at hl 1 rfl) ?_
      refine lv_sipush (v := 295) hx hb dX7_undo_34 (by decide) ?_
      refine lv_icmp_ge (tgt := 67) hx hb dX7_undo_37 (by decide) (fun c1 => ?_) (fun c1 => ?_)
      · have hf := br_p c1 hf
        refine lv_aload_n hx hb dX7_undo_67 rfl (lv_at hl 0 rfl) ?_
        refine g_M_savedMany hx hb hown hK hW kF_RX7_48 dX7_undo_68 ?_
        cases hf
        exact ss_iret hx hb hr hlk hW rfl dX7_undo_71
      · have hf := br_n c1 hf
        refine lv_aload_n hx hb dX7_undo_40 rfl (lv_at hl 0 rfl) ?_
        refine g_M_s hx hb hown hK hW kF_RX7_7 dX7_undo_41 ?_
        refine lv_iload_n hx hb dX7_undo_44 rfl (lv_at hl 1 rfl) ?_
        refine lv_aload_n hx hb dX7_undo_45 rfl (lv_at hl 0 rfl) ?_
        refine g_M_saved hx hb hown hK hW kF_RX7_13 dX7_undo_46 ?_
        refine lv_sipush (v := 295) hx hb dX7_undo_49 (by decide) ?_
        refine lv_aload_n hx hb dX7_undo_52 rfl (lv_at hl 0 rfl) ?_
        refine g_M_savedMany hx hb hown hK hW kF_RX7_48 dX7_undo_53 ?_
        refine lv_imul hx hb dX7_undo_56 ?_
        refine lv_iload_n hx hb dX7_undo_57 rfl (lv_at hl 1 rfl) ?_
        refine lv_iadd hx hb dX7_undo_58 ?_
        obtain ⟨hk2, hf⟩ := gd_inv hf
        refine l_M1 hx hb hK hW rfl hk2 dX7_undo_59 ?_
        obtain ⟨hk3, hf⟩ := gd_inv hf
        refine s_M0 hx hb hK hW rfl hk3 dX7_undo_60 (fun H locs hW => ?_)
        obtain ⟨u4, eu4⟩ : ∃ y : Sg, y = (up2 μ 0 ((x1).toNatClampNeg) (μ 1 (((295 * (μ 20 3)) + x1)).toNatClampNeg)) := ⟨_, rfl⟩
        have hf := nm_use eu4 hf
        rw [← eu4] at hW
        obtain ⟨x1_5, ex1_5⟩ : ∃ y : Int32, y = (x1 + 1) := ⟨_, rfl⟩
        have hf := nm_use ex1_5 hf
        refine lv_iinc (v := x1_5) (lv' := [(1, .int x1_5), (0, .ref (eA E 9))]) hx hb dX7_undo_61 hl (k := 1) rfl (by rw [ex1_5]; rfl) (by decide) rfl (fun ls hl => ?_)
        refine lv_goto (tgt := 33) hx hb dX7_undo_64 (by decide) ?_
        exact ih33 x1_5 u4 _ _ _ hW (lv_sub hl [1, 0] rfl) hf
  have h13 : ∀ (k0 : Int32) (μ : Sg) (H : Heap) (locs : List Loc) (ls : Array Slot), Wk E σ μ dg s H locs → lv_has ls 2 [(0, .ref (eA E 9))] → fX7_undo_b13 k0 μ = some (r, μ') → W p l e (Rm 1 21) s m [.ref (eA E 9)].toArray below meth c H locs 0 0 (MQ below (Qi E σ μ' dg r) [.ref (eA E 9)].toArray s 0 0 (eP E)) (F0 m 13 ls [.int k0, .ref (eA E 9)]) := by
    intro k0 μ  H locs ls hW hl hf
    unfold fX7_undo_b13 at hf
    obtain ⟨r7, u8, q6, hf⟩ := bd2_inv hf
    refine ss_callVi (As := [.int k0]) hx hb hml hown hK hW kb_X7_holds kM_RX7_97 rfl (by decide) (c_fx (by decide)) (mX7_holds l (a1 := k0) q6) rfl dX7_undo_13 rfl hl.1 (Nat.le_of_ble_eq_true rfl) ⟨Nat.le_of_ble_eq_true rfl, Nat.le_of_ble_eq_true rfl⟩ ⟨Nat.zero_le _, Nat.zero_le _⟩ (fun H locs hW => ?_)
    refine lv_if_ne (tgt := 21) hx hb dX7_undo_16 (by decide) (fun c9 => ?_) (fun c9 => ?_)
    · have hf := br_n c9 hf
      refine lv_aload_n hx hb dX7_undo_21 rfl (lv_at hl 0 rfl) ?_
      refine lv_dup hx hb dX7_undo_22 rfl ?_
      refine g_M_savedMany hx hb hown hK hW kF_RX7_48 dX7_undo_23 ?_
      refine lv_iconst (v := 1) hx hb dX7_undo_26 (by decide) ?_
      refine lv_isub hx hb dX7_undo_27 ?_
      refine p_M_savedMany hx hb hown hK hW kF_RX7_48 dX7_undo_28 (fun H locs hW => ?_)
      obtain ⟨u10, eu10⟩ : ∃ y : Sg, y = (up2 u8 20 3 ((u8 20 3) - 1)) := ⟨_, rfl⟩
      have hf := nm_use eu10 hf
      rw [← eu10] at hW
      refine lv_iconst (v := 0) hx hb dX7_undo_31 (by decide) ?_
      refine lv_istore_n (lv' := [(1, .int 0), (0, .ref (eA E 9))]) hx hb dX7_undo_32 rfl hl (by decide) rfl (fun ls hl => ?_)
      exact h33 400 0 u10 _ _ _ hW (lv_sub hl [1, 0] rfl) hf
    · have hf := br_p c9 hf
      refine lv_iconst (v := 0) hx hb dX7_undo_19 (by decide) ?_
      cases hf
      exact ss_iret hx hb hr hlk hW rfl dX7_undo_20
  refine lv_aload_n hx hb dX7_undo_0 rfl (lv_at hl 0 rfl) ?_
  refine lv_aload_n hx hb dX7_undo_1 rfl (lv_at hl 0 rfl) ?_
  refine g_M_savedMany hx hb hown hK hW kF_RX7_48 dX7_undo_2 ?_
  refine lv_if_le (tgt := 12) hx hb dX7_undo_5 (by decide) (fun c11 => ?_) (fun c11 => ?_)
  · have hf := br_p c11 hf
    refine lv_iconst (v := 1) hx hb dX7_undo_12 (by decide) ?_
    exact h13 1 μ _ _ _ hW (lv_sub hl [0] rfl) hf
  · have hf := br_n c11 hf
    refine lv_iconst (v := 0) hx hb dX7_undo_8 (by decide) ?_
    refine lv_goto (tgt := 13) hx hb dX7_undo_9 (by decide) ?_
    exact h13 0 μ _ _ _ hW (lv_sub hl [0] rfl) hf
def fX7_wave_L44  (n : Nat) (x2 : Int32) (x3 : Int32) (μ : Sg) : Option (Int32 × Sg) := match n with
  | 0 => none
  | n + 1 => if 64 ≤ x3 then (bd (fX7_notCoded μ) fun u3 => some (x2, u3)) else (gd (¬ ((7 + x3) < 0 ∨ 295 ≤ ((7 + x3)).toNatClampNeg)) <| nm (up2 μ 0 (((7 + x3)).toNatClampNeg) 0) fun u5 => nm (x3 + 1) fun x3_6 => (fun x2 x3 μ => fX7_wave_L44 n x2 x3 μ) x2 x3_6 u5)
def fX7_wave_b16 (a1 : Int32) (k0 : Int32) (μ : Sg) : Option (Int32 × Sg) := bd2 (fX7_holds k0 μ) fun r8 u9 => if r8 = 0 then (some (0, u9)) else (bd (fX7_save u9) fun u12 => nm (u12 0 0) fun x2_13 => nm (up2 u12 0 0 a1) fun u14 => fX7_wave_L44 80 x2_13 0 u14)
def fX7_wave (a1 : Int32) (μ : Sg) : Option (Int32 × Sg) := bd (fX7_in a1 1 64) fun r16 => if r16 = 0 then (fX7_wave_b16 a1 1 μ) else (fX7_wave_b16 a1 0 μ)
set_option maxHeartbeats 4000000 in
set_option maxRecDepth 100000 in
theorem mX7_wave (l : Launch) {E : En} {σ μ : Sg} {dg : Int64} {a1 : Int32}  {r : Int32} {μ' : Sg} (hf : fX7_wave a1 μ = some (r, μ')) : Met l yX7_wave [.code yX7_wave cX7_wave 4 (some .int)] (Rm 1 22) (va_Pc [.ref (eA E 9), .int a1] (Wd E σ μ dg)) (Qi E σ μ' dg r) 0 0 (eP E) := by
  refine ss_of (by decide) (Nat.le_of_ble_eq_true rfl) (fun p e s m below meth c hx hb hr hlk hml hown hK hW ls hl => ?_)
  have hown : s.vm.findClass RX7 = some m.cls := hown
  have hl : lv_has ls 4 [(0, .ref (eA E 9)), (1, .int a1)] := hl
  unfold fX7_wave at hf
  have h44 : ∀ (n44 : Nat) (x2 : Int32) (x3 : Int32) (μ : Sg) (H : Heap) (locs : List Loc) (ls : Array Slot), Wk E σ μ dg s H locs → lv_has ls 4 [(0, .ref (eA E 9)), (2, .int x2), (3, .int x3)] → fX7_wave_L44 n44 x2 x3 μ = some (r, μ') → W p l e (Rm 1 22) s m [.ref (eA E 9), .int a1].toArray below meth c H locs 0 0 (MQ below (Qi E σ μ' dg r) [.ref (eA E 9), .int a1].toArray s 0 0 (eP E)) (F0 m 44 ls []) := by
    intro n44
    induction n44 with
    | zero =>
      intro x2 x3 μ  H locs ls hW hl hf
      exact absurd hf (by simp [fX7_wave_L44])
    | succ n44 ih44 =>
      intro x2 x3 μ  H locs ls hW hl hf
      rw [fX7_wave_L44] at hf
      refine lv_iload_n hx hb dX7_wave_44 rfl (lv_at hl 2 rfl) ?_
      refine lv_bipush (v := 64) hx hb dX7_wave_45 (by decide) ?_
      refine lv_icmp_ge (tgt := 66) hx hb dX7_wave_47 (by decide) (fun c1 => ?_) (fun c1 => ?_)
      · have hf := br_p c1 hf
        refine lv_aload_n hx hb dX7_wave_66 rfl (lv_at hl 0 rfl) ?_
        obtain ⟨u3, q2, hf⟩ := bd_inv hf
        refine ss_callVv (As := []) hx hb hml hown hK hW kb_X7_notCoded kM_RX7_103 rfl (by decide) (c_fx (by decide)) (mX7_notCoded l  q2) rfl dX7_wave_67 rfl hl.1 (Nat.le_of_ble_eq_true rfl) ⟨Nat.le_of_ble_eq_true rfl, Nat.le_of_ble_eq_true rfl⟩ ⟨Nat.zero_le _, Nat.zero_le _⟩ (fun H locs hW => ?_)
        refine lv_iload_n hx hb dX7_wave_70 rfl (lv_at hl 1 rfl) ?_
        cases hf
        exact ss_iret hx hb hr hlk hW rfl dX7_wave_71
      · have hf := br_n c1 hf
        refine lv_aload_n hx hb dX7_wave_50 rfl (lv_at hl 0 rfl) ?_
        refine g_M_s hx hb hown hK hW kF_RX7_7 dX7_wave_51 ?_
        refine lv_bipush (v := 7) hx hb dX7_wave_54 (by decide) ?_
        refine lv_iload_n hx hb dX7_wave_56 rfl (lv_at hl 2 rfl) ?_
        refine lv_iadd hx hb dX7_wave_57 ?_
        refine lv_iconst (v := 0) hx hb dX7_wave_58 (by decide) ?_
        obtain ⟨hk4, hf⟩ := gd_inv hf
        refine s_M0 hx hb hK hW rfl hk4 dX7_wave_59 (fun H locs hW => ?_)
        obtain ⟨u5, eu5⟩ : ∃ y : Sg, y = (up2 μ 0 (((7 + x3)).toNatClampNeg) 0) := ⟨_, rfl⟩
        have hf := nm_use eu5 hf
        rw [← eu5] at hW
        obtain ⟨x3_6, ex3_6⟩ : ∃ y : Int32, y = (x3 + 1) := ⟨_, rfl⟩
        have hf := nm_use ex3_6 hf
        refine lv_iinc (v := x3_6) (lv' := [(3, .int x3_6), (0, .ref (eA E 9)), (2, .int x2)]) hx hb dX7_wave_60 hl (k := 2) rfl (by rw [ex3_6]; rfl) (by decide) rfl (fun ls hl => ?_)
        refine lv_goto (tgt := 44) hx hb dX7_wave_63 (by decide) ?_
        exact ih44 x2 x3_6 u5 _ _ _ hW (lv_sub hl [1, 2, 0] rfl) hf
  have h16 : ∀ (k0 : Int32) (μ : Sg) (H : Heap) (locs : List Loc) (ls : Array Slot), Wk E σ μ dg s H locs → lv_has ls 4 [(0, .ref (eA E 9)), (1, .int a1)] → fX7_wave_b16 a1 k0 μ = some (r, μ') → W p l e (Rm 1 22) s m [.ref (eA E 9), .int a1].toArray below meth c H locs 0 0 (MQ below (Qi E σ μ' dg r) [.ref (eA E 9), .int a1].toArray s 0 0 (eP E)) (F0 m 16 ls [.int k0, .ref (eA E 9)]) := by
    intro k0 μ  H locs ls hW hl hf
    unfold fX7_wave_b16 at hf
    obtain ⟨r8, u9, q7, hf⟩ := bd2_inv hf
    refine ss_callVi (As := [.int k0]) hx hb hml hown hK hW kb_X7_holds kM_RX7_97 rfl (by decide) (c_fx (by decide)) (mX7_holds l (a1 := k0) q7) rfl dX7_wave_16 rfl hl.1 (Nat.le_of_ble_eq_true rfl) ⟨Nat.le_of_ble_eq_true rfl, Nat.le_of_ble_eq_true rfl⟩ ⟨Nat.zero_le _, Nat.zero_le _⟩ (fun H locs hW => ?_)
    refine lv_if_ne (tgt := 24) hx hb dX7_wave_19 (by decide) (fun c10 => ?_) (fun c10 => ?_)
    · have hf := br_n c10 hf
      refine lv_aload_n hx hb dX7_wave_24 rfl (lv_at hl 0 rfl) ?_
      obtain ⟨u12, q11, hf⟩ := bd_inv hf
      refine ss_callVv (As := []) hx hb hml hown hK hW kb_X7_save kM_RX7_100 rfl (by decide) (c_fx (by decide)) (mX7_save l  q11) rfl dX7_wave_25 rfl hl.1 (Nat.le_of_ble_eq_true rfl) ⟨Nat.le_of_ble_eq_true rfl, Nat.le_of_ble_eq_true rfl⟩ ⟨Nat.zero_le _, Nat.zero_le _⟩ (fun H locs hW => ?_)
      refine lv_aload_n hx hb dX7_wave_28 rfl (lv_at hl 0 rfl) ?_
      refine g_M_s hx hb hown hK hW kF_RX7_7 dX7_wave_29 ?_
      refine lv_iconst (v := 0) hx hb dX7_wave_32 (by decide) ?_
      refine l_M0 (k0 := 0) hx hb hK hW (by decide) (show ¬ ((0 : Int32) < 0 ∨ 295 ≤ (0 : Int32).toNatClampNeg) by decide) dX7_wave_33 ?_
      refine lv_topi (fun x2_13 ex2_13 => ?_)
      have hf := nm_use ex2_13 hf
      refine lv_istore_n (lv' := [(2, .int x2_13), (0, .ref (eA E 9)), (1, .int a1)]) hx hb dX7_wave_34 rfl hl (by decide) rfl (fun ls hl => ?_)
      refine lv_aload_n hx hb dX7_wave_35 rfl (lv_at hl 1 rfl) ?_
      refine g_M_s hx hb hown hK hW kF_RX7_7 dX7_wave_36 ?_
      refine lv_iconst (v := 0) hx hb dX7_wave_39 (by decide) ?_
      refine lv_iload_n hx hb dX7_wave_40 rfl (lv_at hl 2 rfl) ?_
      refine s_M0 (k0 := 0) hx hb hK hW (by decide) (show ¬ ((0 : Int32) < 0 ∨ 295 ≤ (0 : Int32).toNatClampNeg) by decide) dX7_wave_41 (fun H locs hW => ?_)
      obtain ⟨u14, eu14⟩ : ∃ y : Sg, y = (up2 u12 0 0 a1) := ⟨_, rfl⟩
      have hf := nm_use eu14 hf
      rw [← eu14] at hW
      refine lv_iconst (v := 0) hx hb dX7_wave_42 (by decide) ?_
      refine lv_istore_n (lv' := [(3, .int 0), (2, .int x2_13), (0, .ref (eA E 9)), (1, .int a1)]) hx hb dX7_wave_43 rfl hl (by decide) rfl (fun ls hl => ?_)
      exact h44 80 x2_13 0 u14 _ _ _ hW (lv_sub hl [2, 1, 0] rfl) hf
    · have hf := br_p c10 hf
      refine lv_iconst (v := 0) hx hb dX7_wave_22 (by decide) ?_
      cases hf
      exact ss_iret hx hb hr hlk hW rfl dX7_wave_23
  refine lv_aload_n hx hb dX7_wave_0 rfl (lv_at hl 0 rfl) ?_
  refine lv_iload_n hx hb dX7_wave_1 rfl (lv_at hl 1 rfl) ?_
  refine lv_iconst (v := 1) hx hb dX7_wave_2 (by decide) ?_
  refine lv_bipush (v := 64) hx hb dX7_wave_3 (by decide) ?_
  obtain ⟨r16, q15, hf⟩ := bd_inv hf
  refine ss_callSi (As := [.int a1, .int 1, .int 64]) hx hb hml hown hK hW kb_X7_in kM_RX7_51 (mX7_in l (a0 := a1) (a1 := 1) (a2 := 64) q15) rfl dX7_wave_5 rfl hl.1 (Nat.le_of_ble_eq_true rfl) ⟨Nat.le_of_ble_eq_true rfl, Nat.le_of_ble_eq_true rfl⟩ ⟨Nat.zero_le _, Nat.zero_le _⟩ (fun H locs hW => ?_)
  refine lv_if_eq (tgt := 15) hx hb dX7_wave_8 (by decide) (fun c17 => ?_) (fun c17 => ?_)
  · have hf := br_p c17 hf
    refine lv_iconst (v := 1) hx hb dX7_wave_15 (by decide) ?_
    exact h16 1 μ _ _ _ hW (lv_sub hl [0, 1] rfl) hf
  · have hf := br_n c17 hf
    refine lv_iconst (v := 0) hx hb dX7_wave_11 (by decide) ?_
    refine lv_goto (tgt := 16) hx hb dX7_wave_12 (by decide) ?_
    exact h16 0 μ _ _ _ hW (lv_sub hl [0, 1] rfl) hf
def fX7_writes (a1 : Int32) (μ : Sg) : Option Sg := gd (¬ ((μ 20 7) < 0 ∨ 40 ≤ ((μ 20 7)).toNatClampNeg)) <| nm (up2 μ 4 (((μ 20 7)).toNatClampNeg) a1) fun u2 => nm (up2 u2 20 7 ((u2 20 7) + 1)) fun u3 => some u3
set_option maxHeartbeats 4000000 in
set_option maxRecDepth 100000 in
theorem mX7_writes (l : Launch) {E : En} {σ μ : Sg} {dg : Int64} {a1 : Int32}  {μ' : Sg} (hf : fX7_writes a1 μ = some μ') : Met l yX7_writes [.code yX7_writes cX7_writes 2 none] (Rm 0 0) (va_Pc [.ref (eA E 9), .int a1] (Wd E σ μ dg)) (Qv E σ μ' dg) 0 0 (eP E) := by
  refine ss_of (by decide) (Nat.le_of_ble_eq_true rfl) (fun p e s m below meth c hx hb hr hlk hml hown hK hW ls hl => ?_)
  have hown : s.vm.findClass RX7 = some m.cls := hown
  have hl : lv_has ls 2 [(0, .ref (eA E 9)), (1, .int a1)] := hl
  unfold fX7_writes at hf
  refine lv_aload_n hx hb dX7_writes_0 rfl (lv_at hl 0 rfl) ?_
  refine g_M_text hx hb hown hK hW kF_RX7_23 dX7_writes_1 ?_
  refine lv_aload_n hx hb dX7_writes_4 rfl (lv_at hl 0 rfl) ?_
  refine g_M_length hx hb hown hK hW kF_RX7_125 dX7_writes_5 ?_
  refine lv_iload_n hx hb dX7_writes_8 rfl (lv_at hl 1 rfl) ?_
  obtain ⟨hk1, hf⟩ := gd_inv hf
  refine s_M4 hx hb hK hW rfl hk1 dX7_writes_9 (fun H locs hW => ?_)
  obtain ⟨u2, eu2⟩ : ∃ y : Sg, y = (up2 μ 4 (((μ 20 7)).toNatClampNeg) a1) := ⟨_, rfl⟩
  have hf := nm_use eu2 hf
  rw [← eu2] at hW
  refine lv_aload_n hx hb dX7_writes_10 rfl (lv_at hl 0 rfl) ?_
  refine lv_dup hx hb dX7_writes_11 rfl ?_
  refine g_M_length hx hb hown hK hW kF_RX7_125 dX7_writes_12 ?_
  refine lv_iconst (v := 1) hx hb dX7_writes_15 (by decide) ?_
  refine lv_iadd hx hb dX7_writes_16 ?_
  refine p_M_length hx hb hown hK hW kF_RX7_125 dX7_writes_17 (fun H locs hW => ?_)
  obtain ⟨u3, eu3⟩ : ∃ y : Sg, y = (up2 u2 20 7 ((u2 20 7) + 1)) := ⟨_, rfl⟩
  have hf := nm_use eu3 hf
  rw [← eu3] at hW
  cases hf
  exact ss_vret hx hb hr hlk hW dX7_writes_20
def fX7_writesNumber_L37 (a1 : Int32) (n : Nat) (x2 : Int32) (μ : Sg) : Option Sg := match n with
  | 0 => none
  | n + 1 => if x2 ≤ 0 then (some μ) else (gd (¬ x2 = 0) <| bd (fX7_writes (48 + ((a1 / x2) - (a1 / x2) / 10 * 10)) μ) fun u4 => nm (x2 / 10) fun x2_5 => (fun x2 μ => fX7_writesNumber_L37 a1 n x2 μ) x2_5 u4)
def fX7_writesNumber (a1 : Int32) (μ : Sg) : Option Sg := if a1 ≤ 999 then (if a1 ≤ 99 then (if a1 ≤ 9 then (fX7_writesNumber_L37 a1 80 1 μ) else (fX7_writesNumber_L37 a1 80 10 μ)) else (fX7_writesNumber_L37 a1 80 100 μ)) else (fX7_writesNumber_L37 a1 80 1000 μ)
set_option maxHeartbeats 4000000 in
set_option maxRecDepth 100000 in
theorem mX7_writesNumber (l : Launch) {E : En} {σ μ : Sg} {dg : Int64} {a1 : Int32}  {μ' : Sg} (hf : fX7_writesNumber a1 μ = some μ') : Met l yX7_writesNumber [.code yX7_writesNumber cX7_writesNumber 3 none] (Rm 1 21) (va_Pc [.ref (eA E 9), .int a1] (Wd E σ μ dg)) (Qv E σ μ' dg) 0 0 (eP E) := by
  refine ss_of (by decide) (Nat.le_of_ble_eq_true rfl) (fun p e s m below meth c hx hb hr hlk hml hown hK hW ls hl => ?_)
  have hown : s.vm.findClass RX7 = some m.cls := hown
  have hl : lv_has ls 3 [(0, .ref (eA E 9)), (1, .int a1)] := hl
  unfold fX7_writesNumber at hf
  have h37 : ∀ (n37 : Nat) (x2 : Int32) (μ : Sg) (H : Heap) (locs : List Loc) (ls : Array Slot), Wk E σ μ dg s H locs → lv_has ls 3 [(0, .ref (eA E 9)), (1, .int a1), (2, .int x2)] → fX7_writesNumber_L37 a1 n37 x2 μ = some μ' → W p l e (Rm 1 21) s m [.ref (eA E 9), .int a1].toArray below meth c H locs 0 0 (MQ below (Qv E σ μ' dg) [.ref (eA E 9), .int a1].toArray s 0 0 (eP E)) (F0 m 37 ls []) := by
    intro n37
    induction n37 with
    | zero =>
      intro x2 μ  H locs ls hW hl hf
      exact absurd hf (by simp [fX7_writesNumber_L37])
    | succ n37 ih37 =>
      intro x2 μ  H locs ls hW hl hf
      rw [fX7_writesNumber_L37] at hf
      refine lv_iload_n hx hb dX7_writesNumber_37 rfl (lv_at hl 2 rfl) ?_
      refine lv_if_le (tgt := 62) hx hb dX7_writesNumber_38 (by decide) (fun c1 => ?_) (fun c1 => ?_)
      · have hf := br_p c1 hf
        cases hf
        exact ss_vret hx hb hr hlk hW dX7_writesNumber_62
      · have hf := br_n c1 hf
        refine lv_aload_n hx hb dX7_writesNumber_41 rfl (lv_at hl 0 rfl) ?_
        refine lv_bipush (v := 48) hx hb dX7_writesNumber_42 (by decide) ?_
        refine lv_iload_n hx hb dX7_writesNumber_44 rfl (lv_at hl 1 rfl) ?_
        refine lv_iload_n hx hb dX7_writesNumber_45 rfl (lv_at hl 2 rfl) ?_
        obtain ⟨hz2, hf⟩ := gd_inv hf
        refine lv_idiv hx hb dX7_writesNumber_46 hz2 ?_
        refine lv_bipush (v := 10) hx hb dX7_writesNumber_47 (by decide) ?_
        refine lv_irem hx hb dX7_writesNumber_49 (by decide) ?_
        refine lv_iadd hx hb dX7_writesNumber_50 ?_
        obtain ⟨u4, q3, hf⟩ := bd_inv hf
        refine ss_callVv (As := [.int (48 + ((a1 / x2) - (a1 / x2) / 10 * 10))]) hx hb hml hown hK hW kb_X7_writes kM_RX7_163 rfl (by decide) (c_fx (by decide)) (mX7_writes l (a1 := (48 + ((a1 / x2) - (a1 / x2) / 10 * 10))) q3) rfl dX7_writesNumber_51 rfl hl.1 (Nat.le_of_ble_eq_true rfl) ⟨Nat.le_of_ble_eq_true rfl, Nat.le_of_ble_eq_true rfl⟩ ⟨Nat.zero_le _, Nat.zero_le _⟩ (fun H locs hW => ?_)
        refine lv_iload_n hx hb dX7_writesNumber_54 rfl (lv_at hl 2 rfl) ?_
        refine lv_bipush (v := 10) hx hb dX7_writesNumber_55 (by decide) ?_
        refine lv_idiv hx hb dX7_writesNumber_57 (by decide) ?_
        refine lv_topi (fun x2_5 ex2_5 => ?_)
        have hf := nm_use ex2_5 hf
        refine lv_istore_n (lv' := [(2, .int x2_5), (0, .ref (eA E 9)), (1, .int a1)]) hx hb dX7_writesNumber_58 rfl hl (by decide) rfl (fun ls hl => ?_)
        refine lv_goto (tgt := 37) hx hb dX7_writesNumber_59 (by decide) ?_
        exact ih37 x2_5 u4 _ _ _ hW (lv_sub hl [1, 2, 0] rfl) hf
  refine lv_iload_n hx hb dX7_writesNumber_0 rfl (lv_at hl 1 rfl) ?_
  refine lv_sipush (v := 999) hx hb dX7_writesNumber_1 (by decide) ?_
  refine lv_icmp_le (tgt := 13) hx hb dX7_writesNumber_4 (by decide) (fun c6 => ?_) (fun c6 => ?_)
  · have hf := br_p c6 hf
    refine lv_iload_n hx hb dX7_writesNumber_13 rfl (lv_at hl 1 rfl) ?_
    refine lv_bipush (v := 99) hx hb dX7_writesNumber_14 (by decide) ?_
    refine lv_icmp_le (tgt := 24) hx hb dX7_writesNumber_16 (by decide) (fun c7 => ?_) (fun c7 => ?_)
    · have hf := br_p c7 hf
      refine lv_iload_n hx hb dX7_writesNumber_24 rfl (lv_at hl 1 rfl) ?_
      refine lv_bipush (v := 9) hx hb dX7_writesNumber_25 (by decide) ?_
      refine lv_icmp_le (tgt := 35) hx hb dX7_writesNumber_27 (by decide) (fun c8 => ?_) (fun c8 => ?_)
      · have hf := br_p c8 hf
        refine lv_iconst (v := 1) hx hb dX7_writesNumber_35 (by decide) ?_
        refine lv_istore_n (lv' := [(2, .int 1), (0, .ref (eA E 9)), (1, .int a1)]) hx hb dX7_writesNumber_36 rfl hl (by decide) rfl (fun ls hl => ?_)
        exact h37 80 1 μ _ _ _ hW (lv_sub hl [1, 2, 0] rfl) hf
      · have hf := br_n c8 hf
        refine lv_bipush (v := 10) hx hb dX7_writesNumber_30 (by decide) ?_
        refine lv_goto (tgt := 36) hx hb dX7_writesNumber_32 (by decide) ?_
        refine lv_istore_n (lv' := [(2, .int 10), (0, .ref (eA E 9)), (1, .int a1)]) hx hb dX7_writesNumber_36 rfl hl (by decide) rfl (fun ls hl => ?_)
        exact h37 80 10 μ _ _ _ hW (lv_sub hl [1, 2, 0] rfl) hf
    · have hf := br_n c7 hf
      refine lv_bipush (v := 100) hx hb dX7_writesNumber_19 (by decide) ?_
      refine lv_goto (tgt := 36) hx hb dX7_writesNumber_21 (by decide) ?_
      refine lv_istore_n (lv' := [(2, .int 100), (0, .ref (eA E 9)), (1, .int a1)]) hx hb dX7_writesNumber_36 rfl hl (by decide) rfl (fun ls hl => ?_)
      exact h37 80 100 μ _ _ _ hW (lv_sub hl [1, 2, 0] rfl) hf
  · have hf := br_n c6 hf
    refine lv_sipush (v := 1000) hx hb dX7_writesNumber_7 (by decide) ?_
    refine lv_goto (tgt := 36) hx hb dX7_writesNumber_10 (by decide) ?_
    refine lv_istore_n (lv' := [(2, .int 1000), (0, .ref (eA E 9)), (1, .int a1)]) hx hb dX7_writesNumber_36 rfl hl (by decide) rfl (fun ls hl => ?_)
    exact h37 80 1000 μ _ _ _ hW (lv_sub hl [1, 2, 0] rfl) hf
def fX7_write_L99 (a1 : Int32) (n : Nat) (x3 : Int32) (μ : Sg) : Option (Int32 × Sg) := match n with
  | 0 => none
  | n + 1 => bd (fX7_endOf a1 μ) fun r2 => if r2 ≤ x3 then (some ((μ 20 7), μ)) else (gd (¬ ((71 + x3) < 0 ∨ 295 ≤ ((71 + x3)).toNatClampNeg)) <| if 10 ≤ (μ 0 ((71 + x3)).toNatClampNeg) then (gd (¬ ((71 + x3) < 0 ∨ 295 ≤ ((71 + x3)).toNatClampNeg)) <| bd (fX7_writes ((97 + (μ 0 ((71 + x3)).toNatClampNeg)) - 10) μ) fun u8 => nm (x3 + 1) fun x3_9 => (fun x3 μ => fX7_write_L99 a1 n x3 μ) x3_9 u8) else (gd (¬ ((71 + x3) < 0 ∨ 295 ≤ ((71 + x3)).toNatClampNeg)) <| bd (fX7_writes (48 + (μ 0 ((71 + x3)).toNatClampNeg)) μ) fun u12 => nm (x3 + 1) fun x3_13 => (fun x3 μ => fX7_write_L99 a1 n x3 μ) x3_13 u12))
def fX7_write_b59 (a1 : Int32) (k0 : Int32) (μ : Sg) : Option (Int32 × Sg) := bd (fX7_writesNumber k0 μ) fun u15 => bd (fX7_writes 44 u15) fun u17 => gd (¬ ((231 + a1) < 0 ∨ 295 ≤ ((231 + a1)).toNatClampNeg)) <| bd (fX7_writesNumber (u17 0 ((231 + a1)).toNatClampNeg) u17) fun u20 => bd (fX7_writes 58 u20) fun u22 => nm ((a1 * (u22 0 2)) + 1) fun x3_23 => fX7_write_L99 a1 80 x3_23 u22
def fX7_write_b48 (a1 : Int32) (x2 : Int32) (μ : Sg) : Option (Int32 × Sg) := if 0 ≤ x2 then (fX7_write_b59 a1 x2 μ) else (fX7_write_b59 a1 (-x2) μ)
def fX7_write_b14 (a1 : Int32) (k0 : Int32) (μ : Sg) : Option (Int32 × Sg) := bd2 (fX7_holds k0 μ) fun r26 u27 => if r26 = 0 then (some (0, u27)) else (nm (up2 u27 20 7 0) fun u29 => gd (¬ ((199 + a1) < 0 ∨ 295 ≤ ((199 + a1)).toNatClampNeg)) <| nm (u29 0 ((199 + a1)).toNatClampNeg) fun x2_31 => if 0 ≤ x2_31 then (fX7_write_b48 a1 x2_31 u29) else (bd (fX7_writes 45 u29) fun u34 => fX7_write_b48 a1 x2_31 u34))
def fX7_write (a1 : Int32) (μ : Sg) : Option (Int32 × Sg) := bd (fX7_isBlock a1 μ) fun r36 => if r36 = 0 then (fX7_write_b14 a1 1 μ) else (fX7_write_b14 a1 0 μ)
set_option maxHeartbeats 4000000 in
set_option maxRecDepth 100000 in
theorem mX7_write (l : Launch) {E : En} {σ μ : Sg} {dg : Int64} {a1 : Int32}  {r : Int32} {μ' : Sg} (hf : fX7_write a1 μ = some (r, μ')) : Met l yX7_write [.code yX7_write cX7_write 4 (some .int)] (Rm 3 61) (va_Pc [.ref (eA E 9), .int a1] (Wd E σ μ dg)) (Qi E σ μ' dg r) 0 0 (eP E) := by
  refine ss_of (by decide) (Nat.le_of_ble_eq_true rfl) (fun p e s m below meth c hx hb hr hlk hml hown hK hW ls hl => ?_)
  have hown : s.vm.findClass RX7 = some m.cls := hown
  have hl : lv_has ls 4 [(0, .ref (eA E 9)), (1, .int a1)] := hl
  unfold fX7_write at hf
  have h99 : ∀ (n99 : Nat) (x3 : Int32) (μ : Sg) (H : Heap) (locs : List Loc) (ls : Array Slot), Wk E σ μ dg s H locs → lv_has ls 4 [(0, .ref (eA E 9)), (1, .int a1), (3, .int x3)] → fX7_write_L99 a1 n99 x3 μ = some (r, μ') → W p l e (Rm 3 61) s m [.ref (eA E 9), .int a1].toArray below meth c H locs 0 0 (MQ below (Qi E σ μ' dg r) [.ref (eA E 9), .int a1].toArray s 0 0 (eP E)) (F0 m 99 ls []) := by
    intro n99
    induction n99 with
    | zero =>
      intro x3 μ  H locs ls hW hl hf
      exact absurd hf (by simp [fX7_write_L99])
    | succ n99 ih99 =>
      intro x3 μ  H locs ls hW hl hf
      rw [fX7_write_L99] at hf
      refine lv_iload_n hx hb dX7_write_99 rfl (lv_at hl 2 rfl) ?_
      refine lv_aload_n hx hb dX7_write_100 rfl (lv_at hl 0 rfl) ?_
      refine lv_iload_n hx hb dX7_write_101 rfl (lv_at hl 1 rfl) ?_
      obtain ⟨r2, q1, hf⟩ := bd_inv hf
      refine ss_callVi (As := [.int a1]) hx hb hml hown hK hW kb_X7_endOf kM_RX7_88 rfl (by decide) (c_fx (by decide)) (mX7_endOf l (a1 := a1) q1) rfl dX7_write_102 rfl hl.1 (Nat.le_of_ble_eq_true rfl) ⟨Nat.le_of_ble_eq_true rfl, Nat.le_of_ble_eq_true rfl⟩ ⟨Nat.zero_le _, Nat.zero_le _⟩ (fun H locs hW => ?_)
      refine lv_icmp_ge (tgt := 162) hx hb dX7_write_105 (by decide) (fun c3 => ?_) (fun c3 => ?_)
      · have hf := br_p c3 hf
        refine lv_aload_n hx hb dX7_write_162 rfl (lv_at hl 0 rfl) ?_
        refine g_M_length hx hb hown hK hW kF_RX7_125 dX7_write_163 ?_
        cases hf
        exact ss_iret hx hb hr hlk hW rfl dX7_write_166
      · have hf := br_n c3 hf
        refine lv_aload_n hx hb dX7_write_108 rfl (lv_at hl 0 rfl) ?_
        refine lv_aload_n hx hb dX7_write_109 rfl (lv_at hl 0 rfl) ?_
        refine g_M_s hx hb hown hK hW kF_RX7_7 dX7_write_110 ?_
        refine lv_bipush (v := 71) hx hb dX7_write_113 (by decide) ?_
        refine lv_iload_n hx hb dX7_write_115 rfl (lv_at hl 2 rfl) ?_
        refine lv_iadd hx hb dX7_write_116 ?_
        obtain ⟨hk4, hf⟩ := gd_inv hf
        refine l_M0 hx hb hK hW rfl hk4 dX7_write_117 ?_
        refine lv_bipush (v := 10) hx hb dX7_write_118 (by decide) ?_
        refine lv_icmp_ge (tgt := 138) hx hb dX7_write_120 (by decide) (fun c5 => ?_) (fun c5 => ?_)
        · have hf := br_p c5 hf
          refine lv_bipush (v := 97) hx hb dX7_write_138 (by decide) ?_
          refine lv_aload_n hx hb dX7_write_140 rfl (lv_at hl 0 rfl) ?_
          refine g_M_s hx hb hown hK hW kF_RX7_7 dX7_write_141 ?_
          refine lv_bipush (v := 71) hx hb dX7_write_144 (by decide) ?_
          refine lv_iload_n hx hb dX7_write_146 rfl (lv_at hl 2 rfl) ?_
          refine lv_iadd hx hb dX7_write_147 ?_
          obtain ⟨hk6, hf⟩ := gd_inv hf
          refine l_M0 hx hb hK hW rfl hk6 dX7_write_148 ?_
          refine lv_iadd hx hb dX7_write_149 ?_
          refine lv_bipush (v := 10) hx hb dX7_write_150 (by decide) ?_
          refine lv_isub hx hb dX7_write_152 ?_
          obtain ⟨u8, q7, hf⟩ := bd_inv hf
          refine ss_callVv (As := [.int ((97 + (μ 0 ((71 + x3)).toNatClampNeg)) - 10)]) hx hb hml hown hK hW kb_X7_writes kM_RX7_163 rfl (by decide) (c_fx (by decide)) (mX7_writes l (a1 := ((97 + (μ 0 ((71 + x3)).toNatClampNeg)) - 10)) q7) rfl dX7_write_153 rfl hl.1 (Nat.le_of_ble_eq_true rfl) ⟨Nat.le_of_ble_eq_true rfl, Nat.le_of_ble_eq_true rfl⟩ ⟨Nat.zero_le _, Nat.zero_le _⟩ (fun H locs hW => ?_)
          obtain ⟨x3_9, ex3_9⟩ : ∃ y : Int32, y = (x3 + 1) := ⟨_, rfl⟩
          have hf := nm_use ex3_9 hf
          refine lv_iinc (v := x3_9) (lv' := [(3, .int x3_9), (0, .ref (eA E 9)), (1, .int a1)]) hx hb dX7_write_156 hl (k := 2) rfl (by rw [ex3_9]; rfl) (by decide) rfl (fun ls hl => ?_)
          refine lv_goto (tgt := 99) hx hb dX7_write_159 (by decide) ?_
          exact ih99 x3_9 u8 _ _ _ hW (lv_sub hl [1, 2, 0] rfl) hf
        · have hf := br_n c5 hf
          refine lv_bipush (v := 48) hx hb dX7_write_123 (by decide) ?_
          refine lv_aload_n hx hb dX7_write_125 rfl (lv_at hl 0 rfl) ?_
          refine g_M_s hx hb hown hK hW kF_RX7_7 dX7_write_126 ?_
          refine lv_bipush (v := 71) hx hb dX7_write_129 (by decide) ?_
          refine lv_iload_n hx hb dX7_write_131 rfl (lv_at hl 2 rfl) ?_
          refine lv_iadd hx hb dX7_write_132 ?_
          obtain ⟨hk10, hf⟩ := gd_inv hf
          refine l_M0 hx hb hK hW rfl hk10 dX7_write_133 ?_
          refine lv_iadd hx hb dX7_write_134 ?_
          refine lv_goto (tgt := 153) hx hb dX7_write_135 (by decide) ?_
          obtain ⟨u12, q11, hf⟩ := bd_inv hf
          refine ss_callVv (As := [.int (48 + (μ 0 ((71 + x3)).toNatClampNeg))]) hx hb hml hown hK hW kb_X7_writes kM_RX7_163 rfl (by decide) (c_fx (by decide)) (mX7_writes l (a1 := (48 + (μ 0 ((71 + x3)).toNatClampNeg))) q11) rfl dX7_write_153 rfl hl.1 (Nat.le_of_ble_eq_true rfl) ⟨Nat.le_of_ble_eq_true rfl, Nat.le_of_ble_eq_true rfl⟩ ⟨Nat.zero_le _, Nat.zero_le _⟩ (fun H locs hW => ?_)
          obtain ⟨x3_13, ex3_13⟩ : ∃ y : Int32, y = (x3 + 1) := ⟨_, rfl⟩
          have hf := nm_use ex3_13 hf
          refine lv_iinc (v := x3_13) (lv' := [(3, .int x3_13), (0, .ref (eA E 9)), (1, .int a1)]) hx hb dX7_write_156 hl (k := 2) rfl (by rw [ex3_13]; rfl) (by decide) rfl (fun ls hl => ?_)
          refine lv_goto (tgt := 99) hx hb dX7_write_159 (by decide) ?_
          exact ih99 x3_13 u12 _ _ _ hW (lv_sub hl [1, 2, 0] rfl) hf
  have h59 : ∀ (k0 : Int32) (μ : Sg) (H : Heap) (locs : List Loc) (ls : Array Slot), Wk E σ μ dg s H locs → lv_has ls 4 [(0, .ref (eA E 9)), (1, .int a1)] → fX7_write_b59 a1 k0 μ = some (r, μ') → W p l e (Rm 3 61) s m [.ref (eA E 9), .int a1].toArray below meth c H locs 0 0 (MQ below (Qi E σ μ' dg r) [.ref (eA E 9), .int a1].toArray s 0 0 (eP E)) (F0 m 59 ls [.int k0, .ref (eA E 9)]) := by
    intro k0 μ  H locs ls hW hl hf
    unfold fX7_write_b59 at hf
    obtain ⟨u15, q14, hf⟩ := bd_inv hf
    refine ss_callVv (As := [.int k0]) hx hb hml hown hK hW kb_X7_writesNumber kM_RX7_167 rfl (by decide) (c_fx (by decide)) (mX7_writesNumber l (a1 := k0) q14) rfl dX7_write_59 rfl hl.1 (Nat.le_of_ble_eq_true rfl) ⟨Nat.le_of_ble_eq_true rfl, Nat.le_of_ble_eq_true rfl⟩ ⟨Nat.zero_le _, Nat.zero_le _⟩ (fun H locs hW => ?_)
    refine lv_aload_n hx hb dX7_write_62 rfl (lv_at hl 0 rfl) ?_
    refine lv_bipush (v := 44) hx hb dX7_write_63 (by decide) ?_
    obtain ⟨u17, q16, hf⟩ := bd_inv hf
    refine ss_callVv (As := [.int 44]) hx hb hml hown hK hW kb_X7_writes kM_RX7_163 rfl (by decide) (c_fx (by decide)) (mX7_writes l (a1 := 44) q16) rfl dX7_write_65 rfl hl.1 (Nat.le_of_ble_eq_true rfl) ⟨Nat.le_of_ble_eq_true rfl, Nat.le_of_ble_eq_true rfl⟩ ⟨Nat.zero_le _, Nat.zero_le _⟩ (fun H locs hW => ?_)
    refine lv_aload_n hx hb dX7_write_68 rfl (lv_at hl 0 rfl) ?_
    refine lv_aload_n hx hb dX7_write_69 rfl (lv_at hl 0 rfl) ?_
    refine g_M_s hx hb hown hK hW kF_RX7_7 dX7_write_70 ?_
    refine lv_sipush (v := 231) hx hb dX7_write_73 (by decide) ?_
    refine lv_iload_n hx hb dX7_write_76 rfl (lv_at hl 1 rfl) ?_
    refine lv_iadd hx hb dX7_write_77 ?_
    obtain ⟨hk18, hf⟩ := gd_inv hf
    refine l_M0 hx hb hK hW rfl hk18 dX7_write_78 ?_
    obtain ⟨u20, q19, hf⟩ := bd_inv hf
    refine ss_callVv (As := [.int (u17 0 ((231 + a1)).toNatClampNeg)]) hx hb hml hown hK hW kb_X7_writesNumber kM_RX7_167 rfl (by decide) (c_fx (by decide)) (mX7_writesNumber l (a1 := (u17 0 ((231 + a1)).toNatClampNeg)) q19) rfl dX7_write_79 rfl hl.1 (Nat.le_of_ble_eq_true rfl) ⟨Nat.le_of_ble_eq_true rfl, Nat.le_of_ble_eq_true rfl⟩ ⟨Nat.zero_le _, Nat.zero_le _⟩ (fun H locs hW => ?_)
    refine lv_aload_n hx hb dX7_write_82 rfl (lv_at hl 0 rfl) ?_
    refine lv_bipush (v := 58) hx hb dX7_write_83 (by decide) ?_
    obtain ⟨u22, q21, hf⟩ := bd_inv hf
    refine ss_callVv (As := [.int 58]) hx hb hml hown hK hW kb_X7_writes kM_RX7_163 rfl (by decide) (c_fx (by decide)) (mX7_writes l (a1 := 58) q21) rfl dX7_write_85 rfl hl.1 (Nat.le_of_ble_eq_true rfl) ⟨Nat.le_of_ble_eq_true rfl, Nat.le_of_ble_eq_true rfl⟩ ⟨Nat.zero_le _, Nat.zero_le _⟩ (fun H locs hW => ?_)
    refine lv_iload_n hx hb dX7_write_88 rfl (lv_at hl 1 rfl) ?_
    refine lv_aload_n hx hb dX7_write_89 rfl (lv_at hl 0 rfl) ?_
    refine g_M_s hx hb hown hK hW kF_RX7_7 dX7_write_90 ?_
    refine lv_iconst (v := 2) hx hb dX7_write_93 (by decide) ?_
    refine l_M0 (k0 := 2) hx hb hK hW (by decide) (show ¬ ((2 : Int32) < 0 ∨ 295 ≤ (2 : Int32).toNatClampNeg) by decide) dX7_write_94 ?_
    refine lv_imul hx hb dX7_write_95 ?_
    refine lv_iconst (v := 1) hx hb dX7_write_96 (by decide) ?_
    refine lv_iadd hx hb dX7_write_97 ?_
    refine lv_topi (fun x3_23 ex3_23 => ?_)
    have hf := nm_use ex3_23 hf
    refine lv_istore_n (lv' := [(3, .int x3_23), (0, .ref (eA E 9)), (1, .int a1)]) hx hb dX7_write_98 rfl hl (by decide) rfl (fun ls hl => ?_)
    exact h99 80 x3_23 u22 _ _ _ hW (lv_sub hl [1, 2, 0] rfl) hf
  have h48 : ∀ (x2 : Int32) (μ : Sg) (H : Heap) (locs : List Loc) (ls : Array Slot), Wk E σ μ dg s H locs → lv_has ls 4 [(0, .ref (eA E 9)), (1, .int a1), (2, .int x2)] → fX7_write_b48 a1 x2 μ = some (r, μ') → W p l e (Rm 3 61) s m [.ref (eA E 9), .int a1].toArray below meth c H locs 0 0 (MQ below (Qi E σ μ' dg r) [.ref (eA E 9), .int a1].toArray s 0 0 (eP E)) (F0 m 48 ls []) := by
    intro x2 μ  H locs ls hW hl hf
    unfold fX7_write_b48 at hf
    refine lv_aload_n hx hb dX7_write_48 rfl (lv_at hl 0 rfl) ?_
    refine lv_iload_n hx hb dX7_write_49 rfl (lv_at hl 2 rfl) ?_
    refine lv_if_ge (tgt := 58) hx hb dX7_write_50 (by decide) (fun c24 => ?_) (fun c24 => ?_)
    · have hf := br_p c24 hf
      refine lv_iload_n hx hb dX7_write_58 rfl (lv_at hl 2 rfl) ?_
      exact h59 x2 μ _ _ _ hW (lv_sub hl [0, 1] rfl) hf
    · have hf := br_n c24 hf
      refine lv_iload_n hx hb dX7_write_53 rfl (lv_at hl 2 rfl) ?_
      refine lv_ineg hx hb dX7_write_54 ?_
      refine lv_goto (tgt := 59) hx hb dX7_write_55 (by decide) ?_
      exact h59 (-x2) μ _ _ _ hW (lv_sub hl [0, 1] rfl) hf
  have h14 : ∀ (k0 : Int32) (μ : Sg) (H : Heap) (locs : List Loc) (ls : Array Slot), Wk E σ μ dg s H locs → lv_has ls 4 [(0, .ref (eA E 9)), (1, .int a1)] → fX7_write_b14 a1 k0 μ = some (r, μ') → W p l e (Rm 3 61) s m [.ref (eA E 9), .int a1].toArray below meth c H locs 0 0 (MQ below (Qi E σ μ' dg r) [.ref (eA E 9), .int a1].toArray s 0 0 (eP E)) (F0 m 14 ls [.int k0, .ref (eA E 9)]) := by
    intro k0 μ  H locs ls hW hl hf
    unfold fX7_write_b14 at hf
    obtain ⟨r26, u27, q25, hf⟩ := bd2_inv hf
    refine ss_callVi (As := [.int k0]) hx hb hml hown hK hW kb_X7_holds kM_RX7_97 rfl (by decide) (c_fx (by decide)) (mX7_holds l (a1 := k0) q25) rfl dX7_write_14 rfl hl.1 (Nat.le_of_ble_eq_true rfl) ⟨Nat.le_of_ble_eq_true rfl, Nat.le_of_ble_eq_true rfl⟩ ⟨Nat.zero_le _, Nat.zero_le _⟩ (fun H locs hW => ?_)
    refine lv_if_ne (tgt := 22) hx hb dX7_write_17 (by decide) (fun c28 => ?_) (fun c28 => ?_)
    · have hf := br_n c28 hf
      refine lv_aload_n hx hb dX7_write_22 rfl (lv_at hl 0 rfl) ?_
      refine lv_iconst (v := 0) hx hb dX7_write_23 (by decide) ?_
      refine p_M_length hx hb hown hK hW kF_RX7_125 dX7_write_24 (fun H locs hW => ?_)
      obtain ⟨u29, eu29⟩ : ∃ y : Sg, y = (up2 u27 20 7 0) := ⟨_, rfl⟩
      have hf := nm_use eu29 hf
      rw [← eu29] at hW
      refine lv_aload_n hx hb dX7_write_27 rfl (lv_at hl 0 rfl) ?_
      refine g_M_s hx hb hown hK hW kF_RX7_7 dX7_write_28 ?_
      refine lv_sipush (v := 199) hx hb dX7_write_31 (by decide) ?_
      refine lv_iload_n hx hb dX7_write_34 rfl (lv_at hl 1 rfl) ?_
      refine lv_iadd hx hb dX7_write_35 ?_
      obtain ⟨hk30, hf⟩ := gd_inv hf
      refine l_M0 hx hb hK hW rfl hk30 dX7_write_36 ?_
      refine lv_topi (fun x2_31 ex2_31 => ?_)
      have hf := nm_use ex2_31 hf
      refine lv_istore_n (lv' := [(2, .int x2_31), (0, .ref (eA E 9)), (1, .int a1)]) hx hb dX7_write_37 rfl hl (by decide) rfl (fun ls hl => ?_)
      refine lv_iload_n hx hb dX7_write_38 rfl (lv_at hl 0 rfl) ?_
      refine lv_if_ge (tgt := 48) hx hb dX7_write_39 (by decide) (fun c32 => ?_) (fun c32 => ?_)
      · have hf := br_p c32 hf
        exact h48 x2_31 u29 _ _ _ hW (lv_sub hl [1, 2, 0] rfl) hf
      · have hf := br_n c32 hf
        refine lv_aload_n hx hb dX7_write_42 rfl (lv_at hl 1 rfl) ?_
        refine lv_bipush (v := 45) hx hb dX7_write_43 (by decide) ?_
        obtain ⟨u34, q33, hf⟩ := bd_inv hf
        refine ss_callVv (As := [.int 45]) hx hb hml hown hK hW kb_X7_writes kM_RX7_163 rfl (by decide) (c_fx (by decide)) (mX7_writes l (a1 := 45) q33) rfl dX7_write_45 rfl hl.1 (Nat.le_of_ble_eq_true rfl) ⟨Nat.le_of_ble_eq_true rfl, Nat.le_of_ble_eq_true rfl⟩ ⟨Nat.zero_le _, Nat.zero_le _⟩ (fun H locs hW => ?_)
        exact h48 x2_31 u34 _ _ _ hW (lv_sub hl [1, 2, 0] rfl) hf
    · have hf := br_p c28 hf
      refine lv_iconst (v := 0) hx hb dX7_write_20 (by decide) ?_
      cases hf
      exact ss_iret hx hb hr hlk hW rfl dX7_write_21
  refine lv_aload_n hx hb dX7_write_0 rfl (lv_at hl 0 rfl) ?_
  refine lv_aload_n hx hb dX7_write_1 rfl (lv_at hl 0 rfl) ?_
  refine lv_iload_n hx hb dX7_write_2 rfl (lv_at hl 1 rfl) ?_
  obtain ⟨r36, q35, hf⟩ := bd_inv hf
  refine ss_callVi (As := [.int a1]) hx hb hml hown hK hW kb_X7_isBlock kM_RX7_116 rfl (by decide) (c_fx (by decide)) (mX7_isBlock l (a1 := a1) q35) rfl dX7_write_3 rfl hl.1 (Nat.le_of_ble_eq_true rfl) ⟨Nat.le_of_ble_eq_true rfl, Nat.le_of_ble_eq_true rfl⟩ ⟨Nat.zero_le _, Nat.zero_le _⟩ (fun H locs hW => ?_)
  refine lv_if_eq (tgt := 13) hx hb dX7_write_6 (by decide) (fun c37 => ?_) (fun c37 => ?_)
  · have hf := br_p c37 hf
    refine lv_iconst (v := 1) hx hb dX7_write_13 (by decide) ?_
    exact h14 1 μ _ _ _ hW (lv_sub hl [0, 1] rfl) hf
  · have hf := br_n c37 hf
    refine lv_iconst (v := 0) hx hb dX7_write_9 (by decide) ?_
    refine lv_goto (tgt := 14) hx hb dX7_write_10 (by decide) ?_
    exact h14 0 μ _ _ _ hW (lv_sub hl [0, 1] rfl) hf
