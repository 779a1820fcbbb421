/-! THE CLAIM OUT OF ONE WALK OF THE LAW'S BODY. Your part is whole_start (and what it stands on); all else here is the same for every law, but numbers. -/
def R_law : String := "SteppedSamplesLaw"
def lw_P (b : Addr) (xs : List Int32) (args : Array Value) (s : State) : Prop := args = #[.ref b] ∧ s.IntsAt b xs ∧ xs.length ≤ 2560 ∧ (Jvm.Cond.and given_1 narrow_1).before args s = true
/-- what a walk over the start with the record d0 says of its end, said of the start itself -/
theorem lw_closed {s t : State} {o : Outcome} {d0 : Drawn} {L : List Loc} {k n : Nat} (hd0 : s.drawn.sameBut d0 lw_cs) (hv : ∃ v, o = .returned v) (hW : (s.setDrawn d0).WarmedH t.vm) (hs : (s.setDrawn d0).sameButNew ({ t with vm := s.vm } : State) L k n) : State.butDraws s t lw_cs (fun t1 => Framed s o t1 L k n) := by
  have h2 : t.drawn = d0 := congrArg State.drawn hs.1
  refine ⟨⟨hv, hW, State.sameButNew.setDrawn hs s.drawn⟩, ?_, by decide⟩
  rw [h2]
  exact hd0
def lw_Q (_ : Array Value) (s : State) (o : Outcome) (t : State) : Prop := o = .returned (some (.int 1)) ∧ State.butDraws s t lw_cs (fun t1 => Framed s o t1 [] 1157 14449)
def lw_Z (below : List Frame) (a : Array Value) (s : State) : State → Prop := fun t => ∃ o, t.status = .running ∧ Ended t below o ∧ lw_Q a s o t
/-- the law's own end, with 1 on the stack, nothing written that was there before, its room as the claim has it; d0: the record of draws at this point (at the entry s.drawn: begin with 'refine W.base ?_' and 'have hd0 := Drawn.sameBut.refl s.drawn lw_cs') -/
theorem lw_ret {p : Program} {l : Launch} {e : Env} {s : State} {m : MethodId} {below : List Frame} {meth : Method} {c : Code} {b : Nat} {d0 : Drawn} (hd0 : s.drawn.sameBut d0 lw_cs) (hx : p.tables.exec = Jvm.exec) (hb : c.code = code) (hr : meth.sig.returnType = ret) (hlocks : meth.locks = false) {pc : Nat} {H : Heap} {ls : Array Slot} (hdg : decode code pc = .ok (.ireturn, 1)) : W p l e room_1 (s.setDrawn d0) m #[Value.ref b] below meth c H [] 1157 14449 (lw_Z below #[Value.ref b] s) (F0 m pc ls [.int 1]) := by
  intro T hT X
  obtain ⟨fs, hret, hrun, hended, hW, hframe⟩ := X.leave (v := some (.int 1)) (hlocks := hlocks) (fun h => by rw [hr] at h; cases h)
  have hmeth' : T.vm.method? m = some meth := X.method'
  refine ⟨T.setFrames fs, ?_, .returned (some (.int 1)), hrun, hended, rfl, lw_closed hd0 ⟨_, rfl⟩ hW hframe⟩
  jvm_step X.here [X.here.top, hx, hb, hdg, hmeth', hr, ret, narrow_b1]
  (try refine ⟨rfl, ?_⟩); (try refine ⟨rfl, ?_⟩)
  first | (intro acts; rw [hret _ acts rfl rfl rfl]) | rw [hret _ _ rfl rfl rfl]
  exact Steps.refl _
/-- what holds at the law's entry: the machine, the code, the tables' words (any of lw_tbl by 'hts w (by decide +kernel)'), the script of L ints xs at the cell b, what the Statement gives of the start (any of its parts by flat_of_before) -/
def lw_At (p : Program) (s : State) (m : MethodId) (meth : Method) (c : Code) (b L : Nat) (xs : Nat → Int32) : Prop :=
  p.tables.exec = Jvm.exec ∧ c.code = code ∧ meth.sig.returnType = ret ∧ c.maxLocals = 9 ∧ s.vm.findClass R_law = some m.cls ∧ (∀ w ∈ lw_tbl, w.before #[Value.ref b] s = true) ∧ va_X b L xs s s.heap ∧ b < s.heap.size ∧ meth.locks = false ∧ (Jvm.Cond.and given_1 narrow_1).before #[Value.ref b] s = true
theorem kL_RL_8 : Kw (.classLink RL 8 RX6) := ⟨List.mem_append_right _ (List.mem_of_getElem? (i := 17) (by decide +kernel)), by decide +kernel⟩
theorem kc_X6_init : Kw (.code yX6_init cX6_init 1 none) := ⟨List.mem_append_right _ (List.mem_of_getElem? (i := 21) (by decide +kernel)), by decide +kernel⟩
theorem ki_X6_init : Kw (.instanceMethod yX6_init) := ⟨List.mem_append_right _ (List.mem_of_getElem? (i := 20) (by decide +kernel)), by decide +kernel⟩
theorem kM_RL_86 : Kw (.methodLink RL 86 yX6_init) := ⟨List.mem_append_right _ (List.mem_of_getElem? (i := 19) (by decide +kernel)), by decide +kernel⟩
theorem kL_RL_87 : Kw (.classLink RL 87 RX7) := ⟨List.mem_append_right _ (List.mem_of_getElem? (i := 862) (by decide +kernel)), by decide +kernel⟩
theorem kc_X7_init : Kw (.code yX7_init cX7_init 2 none) := ⟨List.mem_append_right _ (List.mem_of_getElem? (i := 866) (by decide +kernel)), by decide +kernel⟩
theorem ki_X7_init : Kw (.instanceMethod yX7_init) := ⟨List.mem_append_right _ (List.mem_of_getElem? (i := 865) (by decide +kernel)), by decide +kernel⟩
theorem kM_RL_89 : Kw (.methodLink RL 89 yX7_init) := ⟨List.mem_append_right _ (List.mem_of_getElem? (i := 864) (by decide +kernel)), by decide +kernel⟩
set_option maxHeartbeats 4000000 in
set_option maxRecDepth 100000 in
theorem whole_go {Rel : Sg → Sg → Int64 → Prop} (hops : OpsOk Rel) (h0 : Rel sg0 mu0 0) {p : Program} {e : Env} {s : State} {m : MethodId} {below : List Frame} {meth : Method} {c : Code} (l : Launch) (hflags : l.flags = flags0) {b L : Nat} {xs : Nat → Int32} (hL : L ≤ 2560) (C0 : lw_At p s m meth c b L xs) : W p l e room_1 s m #[Value.ref b] below meth c s.heap [] 0 0 (lw_Z below #[Value.ref b] s) (entryFrame m ([Value.ref b] : List Value).toArray 9) := by
  obtain ⟨hx, hb, hr, hml, hown, hts, hX, hbl, hlk, hg⟩ := C0
  have hown : s.vm.findClass RL = some m.cls := hown
  have hfl : l.stackTraces = false := by
    first | (unfold Launch.stackTraces; rw [hflags]; rfl) | (unfold Launch.stackTraces; rw [hflags]; decide) | simp [Launch.stackTraces, hflags, flags0]
  obtain ⟨D, Y, t, S, hK, hKc⟩ := ko_of hts hg
  let E : En := mkE D Y s.heap.size t S
  rw [lg_entry_eq]
  have hl : lv_has ((lg_sl [Value.ref b] ++ List.replicate (9 - (lg_sl [Value.ref b]).length) Slot.unset).toArray) 9 [(0, .ref b)] := lv_entry [.ref b] (Nat.le_of_ble_eq_true rfl)
  revert hl
  generalize (lg_sl [Value.ref b] ++ List.replicate (9 - (lg_sl [Value.ref b]).length) Slot.unset).toArray = ls
  intro hl
  have hW : Cw (mkE D Y s.heap.size t S) [] [] s s.heap [] := ⟨⟨rfl, fun k q hk => by cases hk⟩, va_S.rf⟩
  refine cn_new (suf' := [iO 6 [.null, .null, .null, .null, .null, .null, .null, .null, .null]]) (C := RX6) (T := TX6) (N := 9) (ci := 6) (ty := tyX6) (fs := [.null, .null, .null, .null, .null, .null, .null, .null, .null]) hx hb inK6 tyX6_ok hown kL_RL_8 kNi_RX6 kI_RX6 hKc hW (n := 0) rfl 0 rfl rfl (fun j hj => by rcases (show j = 0 ∨ j = 1 ∨ j = 2 ∨ j = 3 ∨ j = 4 ∨ j = 5 ∨ j = 6 ∨ j = 7 ∨ j = 8 by omega) with rfl | rfl | rfl | rfl | rfl | rfl | rfl | rfl | rfl <;> rfl) rfl (k0 := 0) (s0 := 0) rfl rfl ⟨Nat.le_of_ble_eq_true rfl, Nat.le_of_ble_eq_true rfl⟩ dL_law_0 (fun H hW => ?_)
  refine lv_dup hx hb dL_law_3 rfl ?_
  refine cn_callL (pre2 := []) (suf2 := [iO 6 [.null, .null, .null, .null, .null, .null, .null, .null, .null]]) (suf2' := (cX6_initC (mkE D Y s.heap.size t S) 0)) (suf' := (cX6_initC (mkE D Y s.heap.size t S) 0)) hx hb hml hl.1 hown hKc hW rfl rfl ⟨kI_RX6, kc_X6_init, ⟨by decide +kernel, by decide +kernel⟩, by decide +kernel⟩ ki_X6_init rfl kM_RL_86 (mX6_init l (E := (mkE D Y s.heap.size t S)) (pre := []) (n := 0) rfl) (Nat.le_of_ble_eq_true rfl) ⟨Nat.le_of_ble_eq_true rfl, Nat.le_of_ble_eq_true rfl⟩ (k0 := 1) (s0 := 9) (k1 := 91) (s1 := 3077) rfl rfl rfl rfl ⟨Nat.le_of_ble_eq_true rfl, Nat.le_of_ble_eq_true rfl⟩ dL_law_4 (fun H locs hW => ?_)
  refine lv_astore_n (lv' := [(1, .ref (eA E 0)), (0, .ref b)]) hx hb dL_law_7 rfl hl (by decide) rfl (fun ls hl => ?_)
  refine cn_new (suf' := (ap (cX6_initC (mkE D Y s.heap.size t S) 0) [iO 7 [.int 0, .null, .null, .int 0, .null, .null, .null, .int 0, .null, .null, .null, .null, .null, .int 0, .int 0, .int 0, .int 0, .null, .int 0, .long 0]])) (C := RX7) (T := TX7) (N := 20) (ci := 7) (ty := tyX7) (fs := [.int 0, .null, .null, .int 0, .null, .null, .null, .int 0, .null, .null, .null, .null, .null, .int 0, .int 0, .int 0, .int 0, .null, .int 0, .long 0]) hx hb inK7 tyX7_ok hown kL_RL_87 kNi_RX7 kI_RX7 hKc hW (n := 0) rfl 91 (cX6_initC_len _ _) rfl (fun j hj => by rcases (show j = 0 ∨ j = 1 ∨ j = 2 ∨ j = 3 ∨ j = 4 ∨ j = 5 ∨ j = 6 ∨ j = 7 ∨ j = 8 ∨ j = 9 ∨ j = 10 ∨ j = 11 ∨ j = 12 ∨ j = 13 ∨ j = 14 ∨ j = 15 ∨ j = 16 ∨ j = 17 ∨ j = 18 ∨ j = 19 by omega) with rfl | rfl | rfl | rfl | rfl | rfl | rfl | rfl | rfl | rfl | rfl | rfl | rfl | rfl | rfl | rfl | rfl | rfl | rfl | rfl <;> rfl) rfl (k0 := 91) (s0 := 3077) rfl rfl ⟨Nat.le_of_ble_eq_true rfl, Nat.le_of_ble_eq_true rfl⟩ dL_law_8 (fun H hW => ?_)
  refine lv_dup hx hb dL_law_11 rfl ?_
  refine cn_callL (pre2 := (cX6_initC (mkE D Y s.heap.size t S) 0)) (suf2 := [iO 7 [.int 0, .null, .null, .int 0, .null, .null, .null, .int 0, .null, .null, .null, .null, .null, .int 0, .int 0, .int 0, .int 0, .null, .int 0, .long 0]]) (suf2' := (cX7_initC (mkE D Y s.heap.size t S) 91)) (suf' := (ap (cX6_initC (mkE D Y s.heap.size t S) 0) (cX7_initC (mkE D Y s.heap.size t S) 91))) hx hb hml hl.1 hown hKc hW rfl rfl ⟨kI_RX7, kc_X7_init, ⟨by decide +kernel, by decide +kernel⟩, by decide +kernel⟩ ki_X7_init rfl kM_RL_89 (mX7_init l (E := (mkE D Y s.heap.size t S)) (pre := (cX6_initC (mkE D Y s.heap.size t S) 0)) (n := 91) (cX6_initC_len _ _)) (Nat.le_of_ble_eq_true rfl) ⟨Nat.le_of_ble_eq_true rfl, Nat.le_of_ble_eq_true rfl⟩ (k0 := 92) (s0 := 3097) (k1 := 103) (s1 := 6082) rfl rfl rfl rfl ⟨Nat.le_of_ble_eq_true rfl, Nat.le_of_ble_eq_true rfl⟩ dL_law_12 (fun H locs hW => ?_)
  refine lv_astore_n (lv' := [(2, .ref (eA E 9)), (1, .ref (eA E 0)), (0, .ref b)]) hx hb dL_law_15 rfl hl (by decide) rfl (fun ls hl => ?_)
  refine lv_iconst (v := 1) hx hb dL_law_16 (by decide) ?_
  refine cn_newl (suf' := ap (ap (cX6_initC (mkE D Y s.heap.size t S) 0) (cX7_initC (mkE D Y s.heap.size t S) 91)) [oE (mkE D Y s.heap.size t S) 0]) hx hb kAr_l hKc hK.2.1 hW (n := 0) rfl 103 (ap_len (cX6_initC_len _ _) (cX7_initC_len _ _) rfl) rfl (k0 := 103) (s0 := 6082) rfl rfl ⟨Nat.le_of_ble_eq_true rfl, Nat.le_of_ble_eq_true rfl⟩ dL_law_17 (fun H hW => ?_)
  refine lv_astore_n (lv' := [(3, .ref (eO E)), (2, .ref (eA E 9)), (1, .ref (eA E 0)), (0, .ref b)]) hx hb dL_law_19 rfl hl (by decide) rfl (fun ls hl => ?_)
  refine lv_iconst (v := 0) hx hb dL_law_20 (by decide) ?_
  refine lv_istore (lv' := [(4, .int (nI (5 * 0))), (3, .ref (eO E)), (2, .ref (eA E 9)), (1, .ref (eA E 0)), (0, .ref b)]) hx hb dL_law_21 hl (by decide) rfl (fun ls hl => ?_)
  have hw := start_ws hW.1.2
  refine lw_loop (E := E) (Rel := Rel) hfl hx hb hml hown rfl hK hX hbl hL hops (fun H locs ls cells slots hS hc hs => ?_) 512 0 rfl sg0 mu0 0 0 H locs ls h0 ⟨hw.1, hw.2, hW.2⟩ hl
  refine va_forget hS.2.2 (W.widen hc hs ?_)
  refine lv_iconst (v := 1) hx hb dL_law_1683 (by decide) ?_
  exact W.base (lw_ret (Drawn.sameBut.refl s.drawn lw_cs) hx hb hr hlk dL_law_1684)
