/-! THE LAW'S METHODS: what they make, the script, their own row -/
abbrev RmK (a b c d : Nat) : Room := { frames := a, cells := c, slots := d, locals := b }
/-- the script's cell, or what the law takes beyond its end -/
def cellF (L : Nat) (xs : Nat → Int32) (k : Int32) : Int32 := if Int32.ofNat L ≤ k then 40503 * k + 977 else xs k.toNatClampNeg
section CE
variable {E E0 : En} (hD : eD E = eD E0) (hY : eY E = eY E0) (hA : ∀ q, q ≠ 92 → eA E q = eA E0 q)
theorem ce_fx (hA : ∀ q, q ≠ 92 → eA E q = eA E0 q) (hY : eY E = eY E0) (σ μ : Sg) (dg : Int64) (q : Nat) : cFx E σ μ dg q = cFx E0 σ μ dg q := by
  have h2 : (fun k => some (eA E (10 + 8 * (σ 2 k).toNatClampNeg))) = (fun k => some (eA E0 (10 + 8 * (σ 2 k).toNatClampNeg))) := by
    funext k
    rw [hA _ (by omega)]
  have h3 : (fun k => some (eA E (10 + 8 * (1 + k)))) = (fun k => some (eA E0 (10 + 8 * (1 + k)))) := by
    funext k
    rw [hA _ (by omega)]
  unfold cFx
  split
  · rw [hA 10 (by decide), hA 1 (by decide), hA 3 (by decide), hA 4 (by decide), hA 5 (by decide), hA 8 (by decide), hA 86 (by decide), hA 89 (by decide), hA 85 (by decide)]
  · rw [hA 2 (by decide)]
  · rw [h2, hY]
  · rw [h3, hY]
  · rw [hY]
  · rw [hA 6 (by decide), hA 7 (by decide)]
  · rw [hY]
  · rw [hY]
  · rw [hA 82 (by decide)]
theorem ce_st (hA : ∀ q, q ≠ 92 → eA E q = eA E0 q) (hY : eY E = eY E0) (σ : Sg) {b : Nat} (hb : b + 8 ≤ 92) (j : Nat) : cSt E σ b j = cSt E0 σ b j := by
  unfold cSt
  split
  · rw [hA (b + 1) (by omega), hA (b + 2) (by omega), hA (b + 3) (by omega), hA (b + 4) (by omega), hA (b + 5) (by omega), hA (b + 6) (by omega), hA (b + 7) (by omega)]
  all_goals rw [hY]
theorem ce_dc (hA : ∀ q, q ≠ 92 → eA E q = eA E0 q) (hY : eY E = eY E0) (σ : Sg) {b w : Nat} (hb : b + 3 ≤ 92) (hw : w < 92) (j : Nat) : cDc E σ b w j = cDc E0 σ b w j := by
  unfold cDc
  split
  · rw [hA (b + 1) (by omega), hA (b + 2) (by omega), hA w (by omega)]
  all_goals rw [hY]
theorem ce_all (hA : ∀ q, q ≠ 92 → eA E q = eA E0 q) (hY : eY E = eY E0) (σ μ : Sg) (dg : Int64) {q : Nat} (hq : q < 92) : cellOf E σ μ dg q = cellOf E0 σ μ dg q := by
  unfold cellOf
  split
  · exact ce_fx hA hY σ μ dg q
  · split
    · exact ce_st hA hY σ (by omega) _
    · split
      · rfl
      · exact ce_dc hA hY σ (by omega) (by omega) _
end CE
section SSK
variable {p : Program} {l : Launch} {e : Env} {R : Room} {s : State} {m : MethodId} {args : Array Value} {below : List Frame} {meth : Method} {c : Code} {H : Heap} {locs : List Loc} {cells slots : Nat} {Q : State → Prop}
variable {cc : ByteArray} {pc : Nat} {ls : Array Slot} {rest : List Value} {E E0 : En} {σ μ : Sg} {dg : Int64}
theorem ss_zretK {mc ms : Nat} (hx : p.tables.exec = Jvm.exec) (hb : c.code = cc) (hr : meth.sig.returnType = some .boolean) (hlk : meth.locks = false) (hW : Wk E σ μ dg s H locs) {r0 r1 : Int32} (h01 : r1 = r0) (hn : narrow .boolean (.int r1) = .int r1) (hdg : decode cc pc = .ok (.ireturn, 1)) : W p l e R s m args below meth c H locs mc ms (MQ below (Qi E σ μ dg r0) args s mc ms (eP E)) (F0 m pc ls [.int r1]) :=
  W.zret hx hb hr hn (fun t ht _ => ⟨⟨r1, (), rfl, h01, by show va_P _ _ _ t.heap; rw [ht]; exact hW.1⟩, hW.2.F ht⟩) hW.2.2.2 hdg hlk
theorem ss_callSiK {mc ms : Nat} (hx : p.tables.exec = Jvm.exec) (hb : c.code = cc) {nL : Nat} (hml : c.maxLocals = nL) {own : String} (hown : s.vm.findClass own = some m.cls) (hK : Ks E s) (hW : Wk E σ μ dg s H locs) {y : MethodName} {bytes : ByteArray} {n np idx : Nat} {ret : Option FieldType} {fr lo : Nat} {As : List Value} {st0 : List Value} {σ' μ' : Sg} {dg' : Int64} {r0 : Int32} (vb : SB y bytes n ret np) (kl : Kw (.methodLink own idx y)) (hM : Met l y [.code y bytes n ret] (RmK fr lo mc ms) (va_Pc As (Wd E σ μ dg)) (Qi E σ' μ' dg' r0) mc ms (eP E)) (hst : st0 = As.reverse ++ rest) (hdg : decode cc pc = .ok (.invokestatic idx, 3)) (hnp : As.length = np) (hsz : ls.size = nL) (hroom : (rest.map fun v => v.category).sum ≤ 8) (hR : fr + 1 ≤ R.frames ∧ 8 + (n + 11) + lo ≤ R.locals) (hcs : cells + mc ≤ R.cells ∧ slots + ms ≤ R.slots)
    (kk : ∀ (H' : Heap) (locs' : List Loc), Wk E σ' μ' dg' s H' locs' → W p l e R s m args below meth c H' locs' (cells + mc) (slots + ms) Q (F0 m (pc + 3) ls (.int r0 :: rest))) : W p l e R s m args below meth c H locs cells slots Q (F0 m pc ls st0) := by
  subst hst
  exact va_calli (va_runS (Ts := []) (own := own) (rest := rest) ⟨hx, hb, hml, hown, fun _ h => nomatch h⟩ hM (ss_cwS (rm := RmK fr lo mc ms) hK.2.1 vb kl hR) (ss_preS hK hW) rfl hnp hsz rfl (lv_room hroom) hdg hcs) hW.2 (fun _ _ h => h) (fun _ h => h) (fun _ _ t H1 locs1 ht _ hr hB _ _ hS => by
    subst hr
    exact kk H1 locs1 ⟨by rw [← ht]; exact hB, hS⟩)
/-- the law's own row of 64 ints -/
theorem ss_newi (hx : p.tables.exec = Jvm.exec) (hb : c.code = cc) (harr : Kw (.arrayClass .int)) (hX0 : eX E0 = 0) (hK : Ks E0 s) (hW : Wk E0 σ μ dg s H locs) (hR : cells + 1 ≤ R.cells ∧ slots + 64 ≤ R.slots) (hdg : decode cc pc = .ok (.newarray .int, 2))
    (kk : ∀ E : En, eX E = 1 → (∀ q, q ≠ 92 → eA E q = eA E0 q) → (∀ {σ1 : Sg} {μ1 : Sg} {dg1 : Int64} {H1 : Heap} {locs1 : List Loc}, Wk E σ1 μ1 dg1 s H1 locs1 → Wk E0 σ1 μ1 dg1 s H1 locs1) → ∀ H' : Heap, Ks E s → Wk E (upR σ 92 (fun _ => 0)) μ dg s H' locs → W p l e R s m args below meth c H' locs (cells + 1) (slots + 64) Q (F0 m (pc + 2) ls (.ref (eA E 92) :: rest))) : W p l e R s m args below meth c H locs cells slots Q (F0 m pc ls (.int 64 :: rest)) := by
  have hlt : ∀ q, okq E0 q → eA E0 q < H.size := fun q hq => (hW.1 (ix q) _ (ws_get hq)).lt
  refine va_newaK (atype := .int) (N := 64) hx hb (hK.2.1.at harr args) rfl hdg rfl (by decide) (by decide) (by decide) hR.1 hR.2 rfl fun H1 cA e1 z1 o1 _ hNm => ?_
  have hcA : cA = eY E0 0 := by
    have h9 : s.vm.findClass ("[" ++ FieldType.int.toString) = some (eY E0 0) := (hK.1.2 0 _ tys0).2
    exact Option.some.inj (hNm.symm.trans h9)
  subst hcA
  obtain ⟨D, Y, A, B, T, S, X⟩ := E0
  have hA : ∀ q, q ≠ 92 → eA ((D, Y, fun q => if q = 92 then H.size else A q, B, T, S, 1) : En) q = eA ((D, Y, A, B, T, S, X) : En) q := fun q hq => if_neg hq
  have hA9 : eA ((D, Y, fun q => if q = 92 then H.size else A q, B, T, S, 1) : En) 92 = H.size := by
    show (if (92 : Nat) = 92 then H.size else A 92) = H.size
    exact if_pos rfl
  have hX0' : X = 0 := hX0
  subst hX0'
  have hok : ∀ q, okq ((D, Y, fun q => if q = 92 then H.size else A q, B, T, S, 1) : En) q → q ≠ 92 → okq ((D, Y, A, B, T, S, 0) : En) q := fun q hq hn => ⟨hq.1, by have h : q < 92 + 1 := hq.2; show q < 92 + 0; omega⟩
  have hb0 : B ≤ H.size := Nat.le_of_lt (Nat.lt_of_le_of_lt (hK.2.2.1.1.2 0 ⟨by decide, by show 0 < 92 + 0; decide⟩) (hlt 0 ⟨by decide, by show 0 < 92 + 0; decide⟩))
  have key := kk (D, Y, fun q => if q = 92 then H.size else A q, B, T, S, 1) rfl hA
  rw [hA9] at key
  refine key (fun {σ1 μ1 dg1 H2 locs2} h => ⟨fun k q hk => ?_, h.2⟩) H1 ⟨hK.1, hK.2.1, ⟨⟨fun i j hi hj e => ?_, fun i hi => ?_⟩, Nat.le_refl 1⟩, hK.2.2.2⟩ ⟨fun k q hk => ?_, ?_⟩
  · have hl := (List.getElem?_eq_some_iff.mp hk).1
    rw [ws_len] at hl
    rw [ws_by hl] at hk
    cases hk
    have hl2 : k < 91 + 1 := Nat.lt_succ_of_lt hl
    have h1 := h.1 k _ (ws_by (E := (D, Y, fun q => if q = 92 then H.size else A q, B, T, S, 1)) hl2)
    have hpl : pl k < 92 := (pl_ok hl).2
    rw [hA _ (by omega), ce_all hA rfl _ _ _ hpl] at h1
    exact h1
  · by_cases h1 : i = 92
    · by_cases h2 : j = 92
      · rw [h1, h2]
      · subst h1
        rw [hA9, hA j h2] at e
        have := hlt j (hok j hj h2)
        omega
    · by_cases h2 : j = 92
      · subst h2
        rw [hA9, hA i h1] at e
        have := hlt i (hok i hi h1)
        omega
      · rw [hA i h1, hA j h2] at e
        exact hK.2.2.1.1.1 i j (hok i hi h1) (hok j hj h2) e
  · by_cases h1 : i = 92
    · subst h1
      rw [hA9]
      exact hb0
    · rw [hA i h1]
      exact hK.2.2.1.1.2 i (hok i hi h1)
  · have hl := (List.getElem?_eq_some_iff.mp hk).1
    rw [ws_len] at hl
    rw [ws_by hl] at hk
    cases hk
    by_cases h9 : k = 91
    · subst h9
      show va_at _ _ (eA _ 92, cellOf _ _ _ _ 92) H1
      rw [hA9, c_ma, upR_self]
      show H1[H.size]? = some (vp_cell _ _)
      rw [vp_cell_i]
      exact e1
    · have hl2 : k < 91 + 0 := by have h : k < 91 + 1 := hl; omega
      have hpl : pl k < 92 := (pl_ok (E := (D, Y, A, B, T, S, 0)) hl2).2
      have h1 := hW.1 k _ (ws_by (E := (D, Y, A, B, T, S, 0)) hl2)
      rw [hA _ (by omega), c_upR (by omega), ce_all hA rfl _ _ _ hpl]
      have h2 := hW.1.kept (H1 := H1) (fun k q hk => o1 q.1 (hW.1 k q hk).lt)
      exact h2 k _ (ws_by (E := (D, Y, A, B, T, S, 0)) hl2)
  · exact ⟨Nat.le_trans hW.2.1 (by omega), fun q h1 h2 => (o1 q (Nat.lt_of_lt_of_le h1 hW.2.1)).trans (hW.2.2.1 q h1 h2), hW.2.2.2⟩
end SSK
set_option maxHeartbeats 4000000 in
/-- the script's cell -/
theorem mL_cell (l : Launch) {E : En} {σ μ : Sg} {dg : Int64} {b L : Nat} {xs : Nat → Int32} (hL : L ≤ 260) {k : Int32} (hk : ¬ k < 0) : Met l yL_cell [.code yL_cell cL_cell 2 (some .int)] (Rm 0 0) (va_Pc [.ref b, .int k] (fun U => Wd E σ μ dg U ∧ va_X b L xs U U.heap ∧ b < U.heap.size ∧ ¬ eP E b)) (Qi E σ μ dg (cellF L xs k)) 0 0 (eP E) := by
  refine Met.ofW (cc := cL_cell) (maxL := 2) (ret := some .int) (by decide) rfl ?_
  intro p e s m args below meth c s₁ B hml hv
  obtain ⟨rfl, ⟨hK, hP⟩, hX, hbl, hbA⟩ := hv
  rw [lg_entry_eq]
  have hx := B.exec
  have hb := B.bytes
  have hr := B.returns
  have hlk := B.notSynchronized
  have hown : s.vm.findClass RL = some m.cls := findClass_of_methodNamed B.named
  have hW : Wk E σ μ dg s s.heap [] := ⟨hP, va_S.rf⟩
  have body : ∀ ls : Array Slot, lv_has ls 2 [(0, .ref b), (1, .int k)] → W p l e (Rm 0 0) s m [Value.ref b, Value.int k].toArray below meth c s.heap [] 0 0 (MQ below (Qi E σ μ dg (cellF L xs k)) [Value.ref b, Value.int k].toArray s 0 0 (eP E)) (F0 m 0 ls []) := by
    intro ls hl
    refine lv_iload_n hx hb dL_cell_0 rfl (lv_at hl 1 rfl) ?_
    refine lv_aload_n hx hb dL_cell_1 rfl (lv_at hl 0 rfl) ?_
    refine va_slen hx hb hX hbl hbA hW.2 dL_cell_2 ?_
    refine lv_icmp_ge (tgt := 12) hx hb dL_cell_3 (by decide) (fun c1 => ?_) (fun c1 => ?_)
    · refine lv_ldc (own := RL) hx hb hown (hK.2.1.at kC_RL_7 _) dL_cell_12 ?_
      refine lv_iload_n hx hb dL_cell_14 rfl (lv_at hl 1 rfl) ?_
      refine lv_imul hx hb dL_cell_15 ?_
      refine lv_sipush (v := 977) hx hb dL_cell_16 (by decide) ?_
      refine lv_iadd hx hb dL_cell_19 ?_
      exact ss_iret hx hb hr hlk hW (if_pos c1).symm dL_cell_20
    · refine lv_aload_n hx hb dL_cell_6 rfl (lv_at hl 0 rfl) ?_
      refine lv_iload_n hx hb dL_cell_7 rfl (lv_at hl 1 rfl) ?_
      have hin : vp_in k L := by
        obtain ⟨j, hj, rfl⟩ := nI_of hk
        refine nI_in (Nat.not_le.mp fun h => c1 ?_) (by omega)
        exact nI_le h hj
      refine va_sld hx hb hX hbl hbA hW.2 hin dL_cell_8 ?_
      refine lv_goto (tgt := 20) hx hb dL_cell_9 (by decide) ?_
      exact ss_iret hx hb hr hlk hW (if_neg c1).symm dL_cell_20
  exact body _ (lv_entry [Value.ref b, Value.int k] (Nat.le_of_ble_eq_true rfl))
section SSL
variable {p : Program} {l : Launch} {e : Env} {R : Room} {s : State} {m : MethodId} {args : Array Value} {below : List Frame} {meth : Method} {c : Code} {H : Heap} {locs : List Loc} {cells slots : Nat} {Q : State → Prop}
variable {cc : ByteArray} {pc : Nat} {ls : Array Slot} {rest : List Value} {E : En} {σ μ : Sg} {dg : Int64}
theorem ss_cell (hx : p.tables.exec = Jvm.exec) (hb : c.code = cc) {nL : Nat} (hml : c.maxLocals = nL) {own : String} (hown : s.vm.findClass own = some m.cls) (hK : Ks E s) (hW : Wk E σ μ dg s H locs) {b L : Nat} {xs : Nat → Int32} (hX : va_X b L xs s s.heap) (hbl : b < s.heap.size) (hbA : ¬ eP E b) (hL : L ≤ 260) {k : Int32} (hk : ¬ k < 0) {idx : Nat} (vb : SB yL_cell cL_cell 2 (some .int) 2) (kl : Kw (.methodLink own idx yL_cell)) (hdg : decode cc pc = .ok (.invokestatic idx, 3)) (hsz : ls.size = nL) (hroom : (rest.map fun v => v.category).sum ≤ 8) (hR : 0 + 1 ≤ R.frames ∧ 8 + (2 + 11) + 0 ≤ R.locals) (hcs : cells ≤ R.cells ∧ slots ≤ R.slots)
    (kk : ∀ (H' : Heap) (locs' : List Loc), Wk E σ μ dg s H' locs' → W p l e R s m args below meth c H' locs' cells slots Q (F0 m (pc + 3) ls (.int (cellF L xs k) :: rest))) : W p l e R s m args below meth c H locs cells slots Q (F0 m pc ls (.int k :: .ref b :: rest)) := by
  have hp : PreS s H (va_Pc [.ref b, .int k] (fun U => Wd E σ μ dg U ∧ va_X b L xs U U.heap ∧ b < U.heap.size ∧ ¬ eP E b)) [.ref b, .int k] :=
    ⟨fun _ _ _ _ h => ⟨h.1, h.2.1.call, h.2.2⟩, fun U hU hv => ⟨rfl, Wd.next hK hW hU hv, by rw [hU]; exact (hX.moved hv.alike).kept (hW.2.2.1 b hbl hbA), by rw [hU]; exact Nat.lt_of_lt_of_le hbl hW.2.1, hbA⟩⟩
  exact va_calli (va_runS (Ts := []) (own := own) (As := [.ref b, .int k]) (rest := rest) ⟨hx, hb, hml, hown, fun _ h => nomatch h⟩ (mL_cell l hL hk) (ss_cwS (rm := Rm 0 0) hK.2.1 vb kl hR) hp rfl rfl hsz rfl (lv_room hroom) hdg hcs) hW.2 (fun _ _ h => h) (fun _ h => h) (fun _ _ t H1 locs1 ht _ hr hB _ _ hS => by
    subst hr
    exact kk H1 locs1 ⟨by rw [← ht]; exact hB, hS⟩)
end SSL
