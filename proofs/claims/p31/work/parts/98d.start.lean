/-! THE ENTRY: the world that the constructor leaves -/
def stR : List (Nat → Int32) := [fun k => ([32] : List Int32).getD k 0, fun _ => 0, upd (upd (upd (fun _ => 0) (0 : Int32).toNatClampNeg 8) (1 : Int32).toNatClampNeg 0) (2 : Int32).toNatClampNeg 0, fun _ => 0, fun _ => 0, fun _ => 0, fun _ => 0, fun _ => 0]
def sgL : List (Nat → Int32) := [fun _ => 0, fun _ => 0, fun k => nI (3 + k), fun _ => 0, fun _ => 0, fun _ => 0, fun _ => 0, fun _ => 0, fun _ => 0, fun _ => 0] ++ (stR ++ stR ++ stR ++ stR ++ stR ++ stR ++ stR ++ stR ++ stR)
/-- the class's ints at the start -/
def sg0 : Sg := fun q => sgL.getD q (fun _ => 0)
/-- a state's ints at the start -/
def mu0 : Sg := fun j => ([upd (upd (fun _ => 0) (0 : Int32).toNatClampNeg 32) (2 : Int32).toNatClampNeg 8, fun _ => 0, fun _ => 0, fun _ => 0, fun _ => 0, stp] : List (Nat → Int32)).getD j (fun _ => 0)
/-- the place of the k-th that is made -/
def orL : List Nat := [0, 10, 11, 12, 13, 14, 15, 16, 17, 1, 2, 34, 35, 36, 37, 38, 39, 40, 41, 42, 43, 44, 45, 46, 47, 48, 49, 50, 51, 52, 53, 54, 55, 56, 57, 58, 59, 60, 61, 62, 63, 64, 65, 66, 67, 68, 69, 70, 71, 72, 73, 74, 75, 76, 77, 78, 79, 80, 81, 3, 18, 19, 20, 21, 22, 23, 24, 25, 26, 27, 28, 29, 30, 31, 32, 33, 4, 5, 6, 7, 8, 82, 86, 87, 88, 83, 89, 90, 91, 84, 85]
theorem or_ix : ∀ q, q < 92 → q ≠ 9 → orL[ixL.getD q 0]? = some q := by decide +kernel
def mk2 (h : Nat) : Nat → Option Nat := va_up (va_up (va_up (va_up (va_up (va_up (fun _ => none) (0 : Int32).toNatClampNeg (some (h + (9 + 2)))) (1 : Int32).toNatClampNeg (some (h + (9 + 10)))) (2 : Int32).toNatClampNeg (some (h + (9 + 18)))) (3 : Int32).toNatClampNeg (some (h + (9 + 26)))) (4 : Int32).toNatClampNeg (some (h + (9 + 34)))) (5 : Int32).toNatClampNeg (some (h + (9 + 42)))
def mk3 (h : Nat) : Nat → Option Nat := va_up (va_up (fun _ => none) (0 : Int32).toNatClampNeg (some (h + (0 + 60)))) (1 : Int32).toNatClampNeg (some (h + (0 + 68)))
def cell0 (E : En) (q : Nat) : va_E := if q = 2 then iR E 6 (mk2 (eB E)) else if q = 3 then iR E 2 (mk3 (eB E)) else cellOf E sg0 mu0 0 q
theorem ce_c {a b : va_E} {l r : List va_E} (h : a = b) (h2 : l = r) : a :: l = b :: r := by rw [h, h2]
set_option maxRecDepth 100000 in
set_option maxHeartbeats 4000000 in
theorem suf_eq {D : va_G} {Y : Nat → ClassId} {h t : Nat} {S : Nat → Nat} : cX6_initC (mkE D Y h t S) 0 = [0, 10, 11, 12, 13, 14, 15, 16, 17, 1, 2, 34, 35, 36, 37, 38, 39, 40, 41, 42, 43, 44, 45, 46, 47, 48, 49, 50, 51, 52, 53, 54, 55, 56, 57, 58, 59, 60, 61, 62, 63, 64, 65, 66, 67, 68, 69, 70, 71, 72, 73, 74, 75, 76, 77, 78, 79, 80, 81, 3, 18, 19, 20, 21, 22, 23, 24, 25, 26, 27, 28, 29, 30, 31, 32, 33, 4, 5, 6, 7, 8, 82, 86, 87, 88, 83, 89, 90, 91, 84, 85].map (cell0 (mkE D Y h t S)) := by
  simp only [ap, cX6_initC, cX0_initC, cX1_initC, cX2_initC, cX3_initC, cX4_initC, cX5_initC, List.cons_append, List.nil_append, List.append_assoc, List.map_cons, List.map_nil]
  refine ce_c rfl ?_
  refine ce_c rfl ?_
  refine ce_c rfl ?_
  refine ce_c rfl ?_
  refine ce_c rfl ?_
  refine ce_c rfl ?_
  refine ce_c rfl ?_
  refine ce_c rfl ?_
  refine ce_c rfl ?_
  refine ce_c rfl ?_
  refine ce_c rfl ?_
  refine ce_c rfl ?_
  refine ce_c rfl ?_
  refine ce_c rfl ?_
  refine ce_c rfl ?_
  refine ce_c rfl ?_
  refine ce_c rfl ?_
  refine ce_c rfl ?_
  refine ce_c rfl ?_
  refine ce_c rfl ?_
  refine ce_c rfl ?_
  refine ce_c rfl ?_
  refine ce_c rfl ?_
  refine ce_c rfl ?_
  refine ce_c rfl ?_
  refine ce_c rfl ?_
  refine ce_c rfl ?_
  refine ce_c rfl ?_
  refine ce_c rfl ?_
  refine ce_c rfl ?_
  refine ce_c rfl ?_
  refine ce_c rfl ?_
  refine ce_c rfl ?_
  refine ce_c rfl ?_
  refine ce_c rfl ?_
  refine ce_c rfl ?_
  refine ce_c rfl ?_
  refine ce_c rfl ?_
  refine ce_c rfl ?_
  refine ce_c rfl ?_
  refine ce_c rfl ?_
  refine ce_c rfl ?_
  refine ce_c rfl ?_
  refine ce_c rfl ?_
  refine ce_c rfl ?_
  refine ce_c rfl ?_
  refine ce_c rfl ?_
  refine ce_c rfl ?_
  refine ce_c rfl ?_
  refine ce_c rfl ?_
  refine ce_c rfl ?_
  refine ce_c rfl ?_
  refine ce_c rfl ?_
  refine ce_c rfl ?_
  refine ce_c rfl ?_
  refine ce_c rfl ?_
  refine ce_c rfl ?_
  refine ce_c rfl ?_
  refine ce_c rfl ?_
  refine ce_c rfl ?_
  refine ce_c rfl ?_
  refine ce_c rfl ?_
  refine ce_c rfl ?_
  refine ce_c rfl ?_
  refine ce_c rfl ?_
  refine ce_c rfl ?_
  refine ce_c rfl ?_
  refine ce_c rfl ?_
  refine ce_c rfl ?_
  refine ce_c rfl ?_
  refine ce_c rfl ?_
  refine ce_c rfl ?_
  refine ce_c rfl ?_
  refine ce_c rfl ?_
  refine ce_c rfl ?_
  refine ce_c rfl ?_
  refine ce_c rfl ?_
  refine ce_c rfl ?_
  refine ce_c rfl ?_
  refine ce_c rfl ?_
  refine ce_c rfl ?_
  refine ce_c rfl ?_
  refine ce_c rfl ?_
  refine ce_c rfl ?_
  refine ce_c rfl ?_
  refine ce_c rfl ?_
  refine ce_c rfl ?_
  refine ce_c rfl ?_
  refine ce_c rfl ?_
  refine ce_c rfl ?_
  refine ce_c rfl ?_
  rfl
theorem fx_get {l : List va_E} {f : Nat → va_E} {o : List Nat} {i q : Nat} (h : l = o.map f) (hq : o[i]? = some q) : l[i]? = some (f q) := by rw [h, List.getElem?_map, hq]; rfl
theorem arrV_congr {cI : ClassId} {N : Nat} {f g : Nat → Value} (h : ∀ j, j < N → f j = g j) : arrV cI N f = arrV cI N g := by
  unfold arrV
  congr 2
  funext j
  exact h j.val j.isLt
/-- the heap that the constructor leaves is the world at its start -/
theorem start_ws {D : va_G} {Y : Nat → ClassId} {h t : Nat} {S : Nat → Nat} {H : Heap} (hP : va_P D vwCl (pw h (cX6_initC (mkE D Y h t S) 0)) H) : va_P D vwCl (wsOf (mkE D Y h t S) sg0 mu0 0) H := by
  intro i z hi
  have hlt := (List.getElem?_eq_some_iff.mp hi).1
  rw [ws_len] at hlt
  have hok := pl_ok hlt
  rw [ws_by hlt] at hi
  cases hi
  obtain ⟨k, hk⟩ : ∃ k, k = pl i := ⟨_, rfl⟩
  rw [← hk] at hok ⊢
  have h1 : va_at D vwCl (h + ixL.getD k 0, cell0 (mkE D Y h t S) k) H := hP _ _ (pw_at (fx_get suf_eq (or_ix k hok.2 hok.1)))
  unfold cell0 at h1
  by_cases h2 : k = 2
  · subst h2
    rw [if_pos rfl] at h1
    rw [c_fx (by decide)]
    show H[_]? = some (vp_cell _ _)
    have h1' : H[h + ixL.getD 2 0]? = some (vp_cell (Y 2) (6, .inr (.inr (.inr (.inr (mk2 h)))))) := h1
    refine h1'.trans (congrArg some ?_)
    rw [vp_cell_q, vp_cell_q]
    exact arrV_congr (fun j hj => by
      rcases (show j = 0 ∨ j = 1 ∨ j = 2 ∨ j = 3 ∨ j = 4 ∨ j = 5 by omega) with rfl | rfl | rfl | rfl | rfl | rfl <;> rfl)
  · rw [if_neg h2] at h1
    by_cases h3 : k = 3
    · subst h3
      rw [if_pos rfl] at h1
      rw [c_fx (by decide)]
      show H[_]? = some (vp_cell _ _)
      have h1' : H[h + ixL.getD 3 0]? = some (vp_cell (Y 2) (2, .inr (.inr (.inr (.inr (mk3 h)))))) := h1
      refine h1'.trans (congrArg some ?_)
      rw [vp_cell_q, vp_cell_q]
      exact arrV_congr (fun j hj => by
        rcases (show j = 0 ∨ j = 1 by omega) with rfl | rfl <;> rfl)
    · rw [if_neg h3] at h1
      exact h1
/-! PURE: the relation at the start -/
theorem mu0_0 : mu0 0 = upd (upd (fun _ => 0) 0 32) 2 8 := by
  show upd (upd (fun _ => 0) (0 : Int32).toNatClampNeg 32) (2 : Int32).toNatClampNeg 8 = _
  rw [show (0 : Int32).toNatClampNeg = 0 by decide, show (2 : Int32).toNatClampNeg = 2 by decide]
theorem Rl0 : Rl sg0 mu0 0 := by
  refine ⟨SR.unc 32 8 (by decide) (by decide) (by decide) (by decide) rfl ?_ ?_ ?_ ?_ ?_ (Or.inl ?_) (Or.inl ?_) (fun k hk => ⟨?_, ?_⟩) ?_ ?_ ?_ ?_, ⟨0, by decide, rfl, rfl, fun t => 3 + t, fun t ht => ⟨Nat.le_add_right 3 t, Nat.add_lt_add_left ht 3, rfl⟩, fun t u _ _ h => Nat.add_left_cancel (show 3 + t = 3 + u from h), fun t ht => by omega⟩, fun i hi k _ => Or.inl ?_, fun u hu => ?_, ⟨0, by decide, rfl, rfl, fun k hk => by omega⟩, fun n hn => rfl, Or.inl rfl⟩
  · rw [mu0_0]; rfl
  · decide
  · rw [mu0_0]; rfl
  · rw [mu0_0]; decide
  · rw [mu0_0]; decide
  · rw [mu0_0]; rfl
  · rw [mu0_0]; rfl
  · rw [mu0_0, pk_un (by omega), pk_un (by omega)]
    rfl
  · rw [mu0_0, pk_un (by omega), pk_un (by omega)]
    exact z_inV
  · rw [mu0_0]; rfl
  · rw [mu0_0]; rfl
  · rw [mu0_0]; rfl
  · rfl
  · rcases (show i = 0 ∨ i = 1 ∨ i = 2 ∨ i = 3 ∨ i = 4 ∨ i = 5 ∨ i = 6 ∨ i = 7 ∨ i = 8 by omega) with rfl | rfl | rfl | rfl | rfl | rfl | rfl | rfl | rfl <;> rfl
  · exact ⟨rfl, Or.inl rfl⟩
section EN
variable {p : Program} {l : Launch} {e : Env} {R : Room} {s : State} {m : MethodId} {args : Array Value} {below : List Frame} {meth : Method} {c : Code} {H : Heap} {locs : List Loc} {cells slots : Nat} {Q : State → Prop}
variable {cc : ByteArray} {pc : Nat} {ls : Array Slot} {rest : List Value} {E : En} {pre suf suf' : List va_E} {n : Nat}
theorem cn_callL (hx : p.tables.exec = Jvm.exec) (hb : c.code = cc) {nL : Nat} (hml : c.maxLocals = nL) (hsz : ls.size = nL) {own : String} (hown : s.vm.findClass own = some m.cls) (hK : Kc E s) (hW : Cw E pre suf s H locs) {y : MethodName} {bytes : ByteArray} {nl idx fr lo mc ms : Nat} {pre2 suf2 suf2' : List va_E} {a : Nat} (hsplit : pre ++ suf = pre2 ++ suf2) (hjoin : pre2 ++ suf2' = pre ++ suf') (vb : CB y bytes nl none 0) (ki : Kw (.instanceMethod y)) (hy : y.name = "<init>") (kl : Kw (.methodLink own idx y))
    (hM : Met l y [.code y bytes nl none] (Rc fr lo mc ms) (va_Pc [.ref a] (Cd E pre2 suf2)) (Qc0 E pre2 suf2') mc ms (cP E)) (hroom : (rest.map fun v => v.category).sum ≤ 8) (hR : fr + 1 ≤ R.frames ∧ 8 + (nl + 11) + lo ≤ R.locals) {k0 s0 k1 s1 : Nat} (hk0 : cells = k0) (hs0 : slots = s0) (hk1 : k0 + mc = k1) (hs1 : s0 + ms = s1) (hcs : k1 ≤ R.cells ∧ s1 ≤ R.slots) (hdg : decode cc pc = .ok (.invokespecial idx, 3))
    (kk : ∀ (H' : Heap) (locs' : List Loc), Cw E pre suf' s H' locs' → W p l e R s m args below meth c H' locs' k1 s1 Q (F0 m (pc + 3) ls rest)) : W p l e R s m args below meth c H locs cells slots Q (F0 m pc ls (.ref a :: rest)) := by
  subst hk0; subst hs0; subst hk1; subst hs1
  have hp : PreS s H (va_Pc [.ref a] (Cd E pre2 suf2)) [.ref a] := ⟨fun _ _ _ _ h => ⟨h.1, h.2.call⟩, fun U hU hv => ⟨rfl, hK.warm hv, by rw [hU, ← hsplit]; exact hW.1⟩⟩
  have cw : CallB R s args own idx y bytes nl none [.code y bytes nl none] (Rc fr lo mc ms) mc ms 0 ∧ y.name = "<init>" ∧ (Cond.instanceMethod y).before args s = true :=
    ⟨⟨rfl, rfl, hR.1, hR.2, vb.ws hK.2.1, List.mem_cons_self, hK.2.1.at vb.2.1 args, hK.2.1.at vb.1 args, vb.2.2.1, vb.np, hK.2.1.at kl args⟩, hy, hK.2.1.at ki args⟩
  exact va_callv (va_runI (Ts := []) (own := own) (As := []) (rest := rest) ⟨hx, hb, hml, hown, fun _ h => nomatch h⟩ hM cw hp rfl rfl hsz rfl (lv_room hroom) hdg hcs) hW.2 (fun _ _ h => h) (fun _ h => h)
    (fun _ t H1 locs1 ht _ _ hB _ _ hS => kk H1 locs1 ⟨by rw [← ht, ← hjoin]; exact hB, hS⟩)
end EN
theorem kL_RL_10 : Kw (.classLink RL 10 RX6) := ⟨List.mem_append_right _ (List.mem_of_getElem? (i := 16) (by decide +kernel)), by decide +kernel⟩
theorem kc_X6_init : Kw (.code yX6_init cX6_init 1 none) := ⟨List.mem_append_right _ (List.mem_of_getElem? (i := 20) (by decide +kernel)), by decide +kernel⟩
theorem ki_X6_init : Kw (.instanceMethod yX6_init) := ⟨List.mem_append_right _ (List.mem_of_getElem? (i := 19) (by decide +kernel)), by decide +kernel⟩
theorem kM_RL_89 : Kw (.methodLink RL 89 yX6_init) := ⟨List.mem_append_right _ (List.mem_of_getElem? (i := 18) (by decide +kernel)), by decide +kernel⟩
set_option maxHeartbeats 4000000 in
set_option maxRecDepth 100000 in
/-- YOUR PART: from the entry, for every script of at most 260 ints, the law comes to its end with true -/
theorem whole_start {p : Program} {e : Env} {s : State} {m : MethodId} {below : List Frame} {meth : Method} {c : Code} (l : Launch) (hflags : l.flags = flags0) {b L : Nat} {xs : Nat → Int32} (hL : L ≤ 260) (C0 : lw_At p s m meth c b L xs) : W p l e room_1 s m #[Value.ref b] below meth c s.heap [] 0 0 (lw_Z below #[Value.ref b] s) (entryFrame m ([Value.ref b] : List Value).toArray 7) := by
  obtain ⟨hx, hb, hr, hml, hown, hts, hX, hbl, hlk, hg⟩ := C0
  have hown : s.vm.findClass RL = some m.cls := hown
  have hfl : l.stackTraces = false := by
    first | (unfold Launch.stackTraces; rw [hflags]; rfl) | (unfold Launch.stackTraces; rw [hflags]; decide) | simp [Launch.stackTraces, hflags, flags0]
  obtain ⟨D, Y, t, S, hK, hKc⟩ := ko_of hts hg
  let E : En := mkE D Y s.heap.size t S
  rw [lg_entry_eq]
  have hl : lv_has ((lg_sl [Value.ref b] ++ List.replicate (7 - (lg_sl [Value.ref b]).length) Slot.unset).toArray) 7 [(0, .ref b)] := lv_entry [.ref b] (Nat.le_of_ble_eq_true rfl)
  revert hl
  generalize (lg_sl [Value.ref b] ++ List.replicate (7 - (lg_sl [Value.ref b]).length) Slot.unset).toArray = ls
  intro hl
  have hW : Cw (mkE D Y s.heap.size t S) [] [] s s.heap [] := ⟨⟨rfl, fun k q hk => by cases hk⟩, va_S.rf⟩
  refine cn_new (suf' := [iO 6 [.null, .null, .null, .null, .null, .null, .null, .null, .null]]) (C := RX6) (T := TX6) (N := 9) (ci := 6) (ty := tyX6) (fs := [.null, .null, .null, .null, .null, .null, .null, .null, .null]) hx hb inK6 tyX6_ok hown kL_RL_10 kNi_RX6 kI_RX6 hKc hW (n := 0) rfl 0 rfl rfl (fun j hj => by rcases (show j = 0 ∨ j = 1 ∨ j = 2 ∨ j = 3 ∨ j = 4 ∨ j = 5 ∨ j = 6 ∨ j = 7 ∨ j = 8 by omega) with rfl | rfl | rfl | rfl | rfl | rfl | rfl | rfl | rfl <;> rfl) rfl (k0 := 0) (s0 := 0) rfl rfl ⟨Nat.le_of_ble_eq_true rfl, Nat.le_of_ble_eq_true rfl⟩ dL_law_0 (fun H hW => ?_)
  refine lv_dup hx hb dL_law_3 rfl ?_
  refine cn_callL (pre2 := []) (suf2 := [iO 6 [.null, .null, .null, .null, .null, .null, .null, .null, .null]]) (suf2' := (cX6_initC (mkE D Y s.heap.size t S) 0)) (suf' := (cX6_initC (mkE D Y s.heap.size t S) 0)) hx hb hml hl.1 hown hKc hW rfl rfl ⟨kI_RX6, kc_X6_init, ⟨by decide +kernel, by decide +kernel⟩, by decide +kernel⟩ ki_X6_init rfl kM_RL_89 (mX6_init l (E := (mkE D Y s.heap.size t S)) (pre := []) (n := 0) rfl) (Nat.le_of_ble_eq_true rfl) ⟨Nat.le_of_ble_eq_true rfl, Nat.le_of_ble_eq_true rfl⟩ (k0 := 1) (s0 := 9) (k1 := 91) (s1 := 3077) rfl rfl rfl rfl ⟨Nat.le_of_ble_eq_true rfl, Nat.le_of_ble_eq_true rfl⟩ dL_law_4 (fun H locs hW => ?_)
  refine lv_astore_n (lv' := [(1, .ref (eA E 0)), (0, .ref b)]) hx hb dL_law_7 rfl hl (by decide) rfl (fun ls hl => ?_)
  obtain ⟨σ', hf⟩ := law_ok (L := L) (xs := xs) Rl0 (by rw [mu0_0]; rfl) rfl hL
  exact law_main l hfl (E := E) rfl hf hx hb hr hlk hml hown rfl hL hbl hX hK ⟨start_ws hW.1.2, hW.2⟩ hl
