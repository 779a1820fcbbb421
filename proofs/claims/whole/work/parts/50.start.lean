theorem kL_RL_8 : Kw (.classLink RL 8 RX6) := ⟨List.mem_append_right _ (List.mem_of_getElem? (i := 17) (by decide +kernel)), by decide +kernel⟩
theorem kc_X6_init : Kw (.code yX6_init cX6_init 1 none) := ⟨List.mem_append_right _ (List.mem_of_getElem? (i := 21) (by decide +kernel)), by decide +kernel⟩
theorem ki_X6_init : Kw (.instanceMethod yX6_init) := ⟨List.mem_append_right _ (List.mem_of_getElem? (i := 20) (by decide +kernel)), by decide +kernel⟩
theorem kM_RL_86 : Kw (.methodLink RL 86 yX6_init) := ⟨List.mem_append_right _ (List.mem_of_getElem? (i := 19) (by decide +kernel)), by decide +kernel⟩
theorem kL_RL_87 : Kw (.classLink RL 87 RX7) := ⟨List.mem_append_right _ (List.mem_of_getElem? (i := 862) (by decide +kernel)), by decide +kernel⟩
theorem kc_X7_init : Kw (.code yX7_init cX7_init 2 none) := ⟨List.mem_append_right _ (List.mem_of_getElem? (i := 866) (by decide +kernel)), by decide +kernel⟩
theorem ki_X7_init : Kw (.instanceMethod yX7_init) := ⟨List.mem_append_right _ (List.mem_of_getElem? (i := 865) (by decide +kernel)), by decide +kernel⟩
theorem kM_RL_89 : Kw (.methodLink RL 89 yX7_init) := ⟨List.mem_append_right _ (List.mem_of_getElem? (i := 864) (by decide +kernel)), by decide +kernel⟩
set_option maxHeartbeats 4000000 in
set_option maxRecDepth 100000 in
theorem whole_go {Rel : Sg → Sg → Int64 → Prop} (hops : OpsOk Rel) (h0 : Rel sg0 mu0 0) {p : Program} {e : Env} {s : State} {m : MethodId} {below : List Frame} {meth : Method} {c : Code} (l : Launch) (hflags : l.flags = flags0) {b L : Nat} {xs : Nat → Int32} (hL : L ≤ 2560) (C0 : lw_At p s m meth c b L xs) : W p l e room_1 s m #[Value.ref b] below meth c s.heap [] 0 0 (lw_Z below #[Value.ref b] s) (entryFrame m ([Value.ref b] : List Value).toArray 9) := by
  obtain ⟨hx, hb, hr, hml, hown, hts, hX, hbl, hlk, hg⟩ := C0
  have hown : s.vm.findClass RL = some m.cls := hown
  have hfl : l.stackTraces = false := by
    first | (unfold Launch.stackTraces; rw [hflags]; rfl) | (unfold Launch.stackTraces; rw [hflags]; decide) | simp [Launch.stackTraces, hflags, flags0]
  obtain ⟨D, Y, t, S, hK, hKc⟩ := ko_of hts hg
  let E : En := mkE D Y s.heap.size t S
  rw [lg_entry_eq]
  have hl : lv_has ((lg_sl [Value.ref b] ++ List.replicate (9 - (lg_sl [Value.ref b]).length) Slot.unset).toArray) 9 [(0, .ref b)] := lv_entry [.ref b] (Nat.le_of_ble_eq_true rfl)
  revert hl
  generalize (lg_sl [Value.ref b] ++ List.replicate (9 - (lg_sl [Value.ref b]).length) Slot.unset).toArray = ls
  intro hl
  have hW : Cw (mkE D Y s.heap.size t S) [] [] s s.heap [] := ⟨⟨rfl, fun k q hk => by cases hk⟩, va_S.rf⟩
  refine cn_new (suf' := [iO 6 [.null, .null, .null, .null, .null, .null, .null, .null, .null]]) (C := RX6) (T := TX6) (N := 9) (ci := 6) (ty := tyX6) (fs := [.null, .null, .null, .null, .null, .null, .null, .null, .null]) hx hb inK6 tyX6_ok hown kL_RL_8 kNi_RX6 kI_RX6 hKc hW (n := 0) rfl 0 rfl rfl (fun j hj => by rcases (show j = 0 ∨ j = 1 ∨ j = 2 ∨ j = 3 ∨ j = 4 ∨ j = 5 ∨ j = 6 ∨ j = 7 ∨ j = 8 by omega) with rfl | rfl | rfl | rfl | rfl | rfl | rfl | rfl | rfl <;> rfl) rfl (k0 := 0) (s0 := 0) rfl rfl ⟨Nat.le_of_ble_eq_true rfl, Nat.le_of_ble_eq_true rfl⟩ dL_law_0 (fun H hW => ?_)
  refine lv_dup hx hb dL_law_3 rfl ?_
  refine cn_callL (pre2 := []) (suf2 := [iO 6 [.null, .null, .null, .null, .null, .null, .null, .null, .null]]) (suf2' := (cX6_initC (mkE D Y s.heap.size t S) 0)) (suf' := (cX6_initC (mkE D Y s.heap.size t S) 0)) hx hb hml hl.1 hown hKc hW rfl rfl ⟨kI_RX6, kc_X6_init, ⟨by decide +kernel, by decide +kernel⟩, by decide +kernel⟩ ki_X6_init rfl kM_RL_86 (mX6_init l (E := (mkE D Y s.heap.size t S)) (pre := []) (n := 0) rfl) (Nat.le_of_ble_eq_true rfl) ⟨Nat.le_of_ble_eq_true rfl, Nat.le_of_ble_eq_true rfl⟩ (k0 := 1) (s0 := 9) (k1 := 91) (s1 := 3077) rfl rfl rfl rfl ⟨Nat.le_of_ble_eq_true rfl, Nat.le_of_ble_eq_true rfl⟩ dL_law_4 (fun H locs hW => ?_)
  refine lv_astore_n (lv' := [(1, .ref (eA E 0)), (0, .ref b)]) hx hb dL_law_7 rfl hl (by decide) rfl (fun ls hl => ?_)
  refine cn_new (suf' := (ap (cX6_initC (mkE D Y s.heap.size t S) 0) [iO 7 [.int 0, .null, .null, .int 0, .null, .null, .null, .int 0, .null, .null, .null, .null, .null, .int 0, .int 0, .int 0, .int 0, .null, .int 0, .long 0]])) (C := RX7) (T := TX7) (N := 20) (ci := 7) (ty := tyX7) (fs := [.int 0, .null, .null, .int 0, .null, .null, .null, .int 0, .null, .null, .null, .null, .null, .int 0, .int 0, .int 0, .int 0, .null, .int 0, .long 0]) hx hb inK7 tyX7_ok hown kL_RL_87 kNi_RX7 kI_RX7 hKc hW (n := 0) rfl 91 (cX6_initC_len _ _) rfl (fun j hj => by rcases (show j = 0 ∨ j = 1 ∨ j = 2 ∨ j = 3 ∨ j = 4 ∨ j = 5 ∨ j = 6 ∨ j = 7 ∨ j = 8 ∨ j = 9 ∨ j = 10 ∨ j = 11 ∨ j = 12 ∨ j = 13 ∨ j = 14 ∨ j = 15 ∨ j = 16 ∨ j = 17 ∨ j = 18 ∨ j = 19 by omega) with rfl | rfl | rfl | rfl | rfl | rfl | rfl | rfl | rfl | rfl | rfl | rfl | rfl | rfl | rfl | rfl | rfl | rfl | rfl | rfl <;> rfl) rfl (k0 := 91) (s0 := 3077) rfl rfl ⟨Nat.le_of_ble_eq_true rfl, Nat.le_of_ble_eq_true rfl⟩ dL_law_8 (fun H hW => ?_)
  refine lv_dup hx hb dL_law_11 rfl ?_
  refine cn_callL (pre2 := (cX6_initC (mkE D Y s.heap.size t S) 0)) (suf2 := [iO 7 [.int 0, .null, .null, .int 0, .null, .null, .null, .int 0, .null, .null, .null, .null, .null, .int 0, .int 0, .int 0, .int 0, .null, .int 0, .long 0]]) (suf2' := (cX7_initC (mkE D Y s.heap.size t S) 91)) (suf' := (ap (cX6_initC (mkE D Y s.heap.size t S) 0) (cX7_initC (mkE D Y s.heap.size t S) 91))) hx hb hml hl.1 hown hKc hW rfl rfl ⟨kI_RX7, kc_X7_init, ⟨by decide +kernel, by decide +kernel⟩, by decide +kernel⟩ ki_X7_init rfl kM_RL_89 (mX7_init l (E := (mkE D Y s.heap.size t S)) (pre := (cX6_initC (mkE D Y s.heap.size t S) 0)) (n := 91) (cX6_initC_len _ _)) (Nat.le_of_ble_eq_true rfl) ⟨Nat.le_of_ble_eq_true rfl, Nat.le_of_ble_eq_true rfl⟩ (k0 := 92) (s0 := 3097) (k1 := 103) (s1 := 6082) rfl rfl rfl rfl ⟨Nat.le_of_ble_eq_true rfl, Nat.le_of_ble_eq_true rfl⟩ dL_law_12 (fun H locs hW => ?_)
  refine lv_astore_n (lv' := [(2, .ref (eA E 9)), (1, .ref (eA E 0)), (0, .ref b)]) hx hb dL_law_15 rfl hl (by decide) rfl (fun ls hl => ?_)
  refine lv_iconst (v := 1) hx hb dL_law_16 (by decide) ?_
  refine cn_newl (suf' := ap (ap (cX6_initC (mkE D Y s.heap.size t S) 0) (cX7_initC (mkE D Y s.heap.size t S) 91)) [oE (mkE D Y s.heap.size t S) 0]) hx hb kAr_l hKc hK.2.1 hW (n := 0) rfl 103 (ap_len (cX6_initC_len _ _) (cX7_initC_len _ _) rfl) rfl (k0 := 103) (s0 := 6082) rfl rfl ⟨Nat.le_of_ble_eq_true rfl, Nat.le_of_ble_eq_true rfl⟩ dL_law_17 (fun H hW => ?_)
  refine lv_astore_n (lv' := [(3, .ref (eO E)), (2, .ref (eA E 9)), (1, .ref (eA E 0)), (0, .ref b)]) hx hb dL_law_19 rfl hl (by decide) rfl (fun ls hl => ?_)
  refine lv_iconst (v := 0) hx hb dL_law_20 (by decide) ?_
  refine lv_istore (lv' := [(4, .int (nI (5 * 0))), (3, .ref (eO E)), (2, .ref (eA E 9)), (1, .ref (eA E 0)), (0, .ref b)]) hx hb dL_law_21 hl (by decide) rfl (fun ls hl => ?_)
  have hw := start_ws hW.1.2
  refine lw_loop (E := E) (Rel := Rel) hfl hx hb hml hown rfl hK hX hbl hL hops (fun H locs ls cells slots hS hc hs => ?_) 512 0 rfl sg0 mu0 0 0 H locs ls h0 ⟨hw.1, hw.2, hW.2⟩ hl
  refine va_forget hS.2.2 (W.widen hc hs ?_)
  refine lv_iconst (v := 1) hx hb dL_law_1683 (by decide) ?_
  exact W.base (lw_ret (Drawn.sameBut.refl s.drawn lw_cs) hx hb hr hlk dL_law_1684)
