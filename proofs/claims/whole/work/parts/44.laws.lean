/-! THE LAW'S OWN BODY: its calls, and what its loop asks of every kind of step -/
theorem lg_cmp_self (x : Int64) : lg_cmp x x = 0 := by simp [lg_cmp]
theorem Lk.wd {E : En} {σ μ : Sg} {dg w : Int64} {s U : State} {H : Heap} {locs : List Loc} (hB : s.heap.size = eB E) (hK : Ko E s) (hW : Lk E σ μ dg w s H locs) (hU : U.heap = H) (hv : s.WarmedH U.vm) : Od E σ μ dg w U := by
  obtain ⟨⟨h1, h2, h3, h4⟩, h5, h6⟩ := hK
  refine ⟨⟨⟨va_K.moved hv.alike h1, h2.warm hv, h3, h4.next hv hU (fun a ha _ => hW.2.2.2.1 a ha (fun q => ?_))⟩, va_K.moved hv.alike h5, h6⟩, by rw [hU]; exact hW.1, by rw [hU]; exact hW.2.1⟩
  have : eB E ≤ a := q
  omega
/-- a call's step and the model's step agree: what is told, what is thrown -/
def tel (T : List Nat) (res : Int32 ⊕ Nat) (r k : Int32) : Prop := match res with
  | .inl a => k = 0 ∧ a = r
  | .inr e => wcd T (.inr e) = some k ∧ ¬ k = 0
theorem tel_c {T : List Nat} {res : Int32 ⊕ Nat} {r k : Int32} (h : tel T res r k) : wcd T res = some k := by
  cases res with
  | inl a => rw [h.1]; rfl
  | inr e => exact h.1
theorem tel_r {T : List Nat} {res : Int32 ⊕ Nat} {r k : Int32} {w : Int64} (h : tel T res r k) (hk : k = 0) : wout w res = r.toInt64 := by
  cases res with
  | inl a => rw [h.2.symm]; rfl
  | inr e => exact absurd hk h.2
section LO
variable {p : Program} {l : Launch} {e : Env} {R : Room} {s : State} {m : MethodId} {args : Array Value} {below : List Frame} {meth : Method} {c : Code} {H : Heap} {locs : List Loc} {cells slots : Nat} {Q : State → Prop}
variable {cc : ByteArray} {pc : Nat} {ls : Array Slot} {rest : List Value} {E : En} {σ μ : Sg} {dg w : Int64}
theorem lo_pre {q ci : Nat} {fs : List Value} {C : String} {T : u_T} {N : Nat} {As : List Value} (hB : s.heap.size = eB E) (hK : Ko E s) (hW : Lk E σ μ dg w s H locs) (hc : vwCl[ci]? = some (C, T, N)) (hq : q < 103) (he : cellOf E σ μ dg q = .inr (ci, fs)) : PreV s H C (eA E q) (va_Pc (.ref (eA E q) :: As) (Wd E σ μ dg)) As :=
  ⟨fun _ _ _ _ h => ⟨h.1, h.2.call⟩, va_recv (q := (C, T, N)) hK.1.1 hW.1 hc (ws_at hq he), fun _ hU hv => ⟨rfl, (Lk.wd hB hK hW hU hv).1.1, (Lk.wd hB hK hW hU hv).2.1⟩⟩
theorem lo_i (hx : p.tables.exec = Jvm.exec) (hb : c.code = cc) {nL : Nat} (hml : c.maxLocals = nL) {own : String} (hown : s.vm.findClass own = some m.cls) (hB : s.heap.size = eB E) (hK : Ko E s) (hW : Lk E σ μ dg w s H locs) {y : MethodName} {bytes : ByteArray} {n np idx : Nat} {ret : Option FieldType} {fr lo : Nat} {As : List Value} {st0 : List Value} {σ' μ' : Sg} {dg' : Int64} {r0 : Int32} {q ci : Nat} {fs : List Value} {T : u_T} {N : Nat} (vb : VB y bytes n ret np) (kl : Kw (.methodLink own idx y)) (hc : vwCl[ci]? = some (y.cls, T, N)) (hq : q < 103) (he : cellOf E σ μ dg q = .inr (ci, fs)) (hM : Met l y [.code y bytes n ret] (Rm fr lo) (va_Pc (.ref (eA E q) :: As) (Wd E σ μ dg)) (Qi E σ' μ' dg' r0) 0 0 (eP E)) (hst : st0 = As.reverse ++ .ref (eA E q) :: rest) (hdg : decode cc pc = .ok (.invokevirtual idx, 3)) (hnp : As.length = np) (hsz : ls.size = nL) (hroom : (rest.map fun v => v.category).sum ≤ 8) (hR : fr + 1 ≤ R.frames ∧ 8 + (n + 11) + lo ≤ R.locals) (hcs : cells ≤ R.cells ∧ slots ≤ R.slots)
    (kk : ∀ (H' : Heap) (locs' : List Loc), Lk E σ' μ' dg' w s H' locs' → W p l e R s m args below meth c H' locs' cells slots Q (F0 m (pc + 3) ls (.int r0 :: rest))) : W p l e R s m args below meth c H locs cells slots Q (F0 m pc ls st0) := by
  subst hst
  exact va_calli (va_runV (Ts := []) (own := own) (rest := rest) ⟨hx, hb, hml, hown, fun _ h => nomatch h⟩ hM (ss_cwV hK.1.2.1 vb kl hR) (lo_pre hB hK hW hc hq he) rfl hnp hsz rfl (lv_room hroom) hdg hcs) hW.2.2 (fun _ _ h => h.1) (fun _ h => h.1) (fun _ _ t H1 locs1 ht _ hr hB' _ hk hS => by
    subst hr
    exact kk H1 locs1 (hW.after (by rw [← ht]; exact hB') hk hS))
theorem lo_l (hx : p.tables.exec = Jvm.exec) (hb : c.code = cc) {nL : Nat} (hml : c.maxLocals = nL) {own : String} (hown : s.vm.findClass own = some m.cls) (hB : s.heap.size = eB E) (hK : Ko E s) (hW : Lk E σ μ dg w s H locs) {y : MethodName} {bytes : ByteArray} {n np idx : Nat} {ret : Option FieldType} {fr lo : Nat} {As : List Value} {st0 : List Value} {σ' μ' : Sg} {dg' : Int64} {r0 : Int64} {q ci : Nat} {fs : List Value} {T : u_T} {N : Nat} (vb : VB y bytes n ret np) (kl : Kw (.methodLink own idx y)) (hc : vwCl[ci]? = some (y.cls, T, N)) (hq : q < 103) (he : cellOf E σ μ dg q = .inr (ci, fs)) (hM : Met l y [.code y bytes n ret] (Rm fr lo) (va_Pc (.ref (eA E q) :: As) (Wd E σ μ dg)) (Ql E σ' μ' dg' r0) 0 0 (eP E)) (hst : st0 = As.reverse ++ .ref (eA E q) :: rest) (hdg : decode cc pc = .ok (.invokevirtual idx, 3)) (hnp : As.length = np) (hsz : ls.size = nL) (hroom : (rest.map fun v => v.category).sum ≤ 8) (hR : fr + 1 ≤ R.frames ∧ 8 + (n + 11) + lo ≤ R.locals) (hcs : cells ≤ R.cells ∧ slots ≤ R.slots)
    (kk : ∀ (H' : Heap) (locs' : List Loc), Lk E σ' μ' dg' w s H' locs' → W p l e R s m args below meth c H' locs' cells slots Q (F0 m (pc + 3) ls (.long r0 :: rest))) : W p l e R s m args below meth c H locs cells slots Q (F0 m pc ls st0) := by
  subst hst
  exact va_calll (va_runV (Ts := []) (own := own) (rest := rest) ⟨hx, hb, hml, hown, fun _ h => nomatch h⟩ hM (ss_cwV hK.1.2.1 vb kl hR) (lo_pre hB hK hW hc hq he) rfl hnp hsz rfl (lv_room hroom) hdg hcs) hW.2.2 (fun _ _ h => h.1) (fun _ h => h.1) (fun _ _ t H1 locs1 ht _ hr hB' _ hk hS => by
    subst hr
    exact kk H1 locs1 (hW.after (by rw [← ht]; exact hB') hk hS))
theorem lo_d (hx : p.tables.exec = Jvm.exec) (hb : c.code = cc) {nL : Nat} (hml : c.maxLocals = nL) {own : String} (hown : s.vm.findClass own = some m.cls) (hB : s.heap.size = eB E) (hK : Ko E s) (hW : Lk E σ μ dg w s H locs) {y : MethodName} {bytes : ByteArray} {n np idx : Nat} {ret : Option FieldType} {fr lo : Nat} {As : List Value} {st0 : List Value} {σ' μ' : Sg} {dg' : Int64} {r0 : UInt64} {q ci : Nat} {fs : List Value} {T : u_T} {N : Nat} (vb : VB y bytes n ret np) (kl : Kw (.methodLink own idx y)) (hc : vwCl[ci]? = some (y.cls, T, N)) (hq : q < 103) (he : cellOf E σ μ dg q = .inr (ci, fs)) (hM : Met l y [.code y bytes n ret] (Rm fr lo) (va_Pc (.ref (eA E q) :: As) (Wd E σ μ dg)) (Qd E σ' μ' dg' r0) 0 0 (eP E)) (hst : st0 = As.reverse ++ .ref (eA E q) :: rest) (hdg : decode cc pc = .ok (.invokevirtual idx, 3)) (hnp : As.length = np) (hsz : ls.size = nL) (hroom : (rest.map fun v => v.category).sum ≤ 8) (hR : fr + 1 ≤ R.frames ∧ 8 + (n + 11) + lo ≤ R.locals) (hcs : cells ≤ R.cells ∧ slots ≤ R.slots)
    (kk : ∀ (H' : Heap) (locs' : List Loc), Lk E σ' μ' dg' w s H' locs' → W p l e R s m args below meth c H' locs' cells slots Q (F0 m (pc + 3) ls (.double r0 :: rest))) : W p l e R s m args below meth c H locs cells slots Q (F0 m pc ls st0) := by
  subst hst
  exact va_calld (va_runV (Ts := []) (own := own) (rest := rest) ⟨hx, hb, hml, hown, fun _ h => nomatch h⟩ hM (ss_cwV hK.1.2.1 vb kl hR) (lo_pre hB hK hW hc hq he) rfl hnp hsz rfl (lv_room hroom) hdg hcs) hW.2.2 (fun _ _ h => h.1) (fun _ h => h.1) (fun _ _ t H1 locs1 ht _ hr hB' _ hk hS => by
    subst hr
    exact kk H1 locs1 (hW.after (by rw [← ht]; exact hB') hk hS))
theorem lo_f (hx : p.tables.exec = Jvm.exec) (hb : c.code = cc) {nL : Nat} (hml : c.maxLocals = nL) {own : String} (hown : s.vm.findClass own = some m.cls) (hB : s.heap.size = eB E) (hK : Ko E s) (hW : Lk E σ μ dg w s H locs) {y : MethodName} {bytes : ByteArray} {n np idx : Nat} {ret : Option FieldType} {fr lo : Nat} {As : List Value} {st0 : List Value} {σ' μ' : Sg} {dg' : Int64} {r0 : UInt32} {q ci : Nat} {fs : List Value} {T : u_T} {N : Nat} (vb : VB y bytes n ret np) (kl : Kw (.methodLink own idx y)) (hc : vwCl[ci]? = some (y.cls, T, N)) (hq : q < 103) (he : cellOf E σ μ dg q = .inr (ci, fs)) (hM : Met l y [.code y bytes n ret] (Rm fr lo) (va_Pc (.ref (eA E q) :: As) (Wd E σ μ dg)) (Qf E σ' μ' dg' r0) 0 0 (eP E)) (hst : st0 = As.reverse ++ .ref (eA E q) :: rest) (hdg : decode cc pc = .ok (.invokevirtual idx, 3)) (hnp : As.length = np) (hsz : ls.size = nL) (hroom : (rest.map fun v => v.category).sum ≤ 8) (hR : fr + 1 ≤ R.frames ∧ 8 + (n + 11) + lo ≤ R.locals) (hcs : cells ≤ R.cells ∧ slots ≤ R.slots)
    (kk : ∀ (H' : Heap) (locs' : List Loc), Lk E σ' μ' dg' w s H' locs' → W p l e R s m args below meth c H' locs' cells slots Q (F0 m (pc + 3) ls (.float r0 :: rest))) : W p l e R s m args below meth c H locs cells slots Q (F0 m pc ls st0) := by
  subst hst
  exact va_callf (va_runV (Ts := []) (own := own) (rest := rest) ⟨hx, hb, hml, hown, fun _ h => nomatch h⟩ hM (ss_cwV hK.1.2.1 vb kl hR) (lo_pre hB hK hW hc hq he) rfl hnp hsz rfl (lv_room hroom) hdg hcs) hW.2.2 (fun _ _ h => h.1) (fun _ h => h.1) (fun _ _ t H1 locs1 ht _ hr hB' _ hk hS => by
    subst hr
    exact kk H1 locs1 (hW.after (by rw [← ht]; exact hB') hk hS))
/-- a call of one of the wrappers -/
theorem lo_w (hx : p.tables.exec = Jvm.exec) (hb : c.code = cc) {nL : Nat} (hml : c.maxLocals = nL) {own : String} (hown : s.vm.findClass own = some m.cls) (hB : s.heap.size = eB E) (hK : Ko E s) (hW : Lk E σ μ dg w s H locs) {y : MethodName} {bytes : ByteArray} {n np idx : Nat} {ret : Option FieldType} {hh : List (Nat × Nat × Nat × Nat)} {fr lo : Nat} {As : List Value} {st0 : List Value} {σ' μ' : Sg} {dg' w' : Int64} {res : Int32 ⊕ Nat} {r0 : Int32} (kc : Kw (.codeWith y bytes n ret hh)) (ki : Kw (.initialized y.cls)) (hn9 : y.cls ≠ "java/lang/invoke/MethodHandle" ∧ y.cls ≠ "java/lang/invoke/VarHandle") (hd9 : (parseMethodDescriptor y.desc).map (fun d => d.parameters.length) = some np) (kst : Kw (.static y)) (kl : Kw (.methodLink own idx y))
    (hM : vx_Met l y [.codeWith y bytes n ret hh] (RmX res fr lo) (va_Pc As (Od E σ μ dg w)) (Qo E σ' μ' dg' w' r0) (Xo E) (xc res) (xs6 res) (cP E)) (hst : st0 = As.reverse ++ rest) (hdg : decode cc pc = .ok (.invokestatic idx, 3)) (hnp : As.length = np) (hsz : ls.size = nL) (hroom : (rest.map fun v => v.category).sum ≤ 8) (hR : fr + 1 ≤ R.frames ∧ 8 + (n + 11) + lo ≤ R.locals) (hcs : cells + 1 ≤ R.cells ∧ slots + 6 ≤ R.slots)
    (kk : ∀ (H' : Heap) (locs' : List Loc), Lk E σ' μ' dg' w' s H' locs' → W p l e R s m args below meth c H' locs' (cells + 1) (slots + 6) Q (F0 m (pc + 3) ls (.int r0 :: rest))) : W p l e R s m args below meth c H locs cells slots Q (F0 m pc ls st0) := by
  subst hst
  have hx1 : xc res ≤ 1 := by cases res <;> simp [xc]
  have hx6 : xs6 res ≤ 6 := by cases res <;> simp [xs6]
  have cw : vx_CSW R s args own idx y bytes n ret hh [.codeWith y bytes n ret hh] (RmX res fr lo) (xc res) (xs6 res) np := by
    refine ⟨⟨rfl, rfl, hR.1, hR.2, fun w hw a' U hv => ?_, List.mem_cons_self⟩, hK.1.2.1.at kc args, hK.1.2.1.at ki args, hn9, fun sig h => ?_, hK.1.2.1.at kl args, hK.1.2.1.at kst args⟩
    · cases List.mem_singleton.mp hw
      exact (Tb.warm hv hK.1.2.1).at kc a'
    · rw [h] at hd9
      exact (Option.some.inj hd9).symm
  exact vx_calli (vx_runSX (Ts := []) (own := own) (rest := rest) ⟨hx, hb, hml, hown, fun _ h => nomatch h⟩ hM cw (show PreS s H (va_Pc As (Od E σ μ dg w)) As from ⟨fun _ _ _ _ h => ⟨h.1, h.2.call⟩, fun _ hU hv => ⟨rfl, Lk.wd hB hK hW hU hv⟩⟩) rfl hnp hsz rfl (lv_room hroom) hdg ⟨by omega, by omega⟩) hW.2.2 (fun _ _ h => h) (fun _ h => h) (fun _ _ h => h)
    (fun _ _ _ _ _ _ _ _ _ _ hB' => hB'.elim)
    (fun r _ t H1 locs1 ht _ hr hB' _ _ hS => by
      subst hr
      exact W.widen (by omega) (by omega) (kk H1 locs1 ⟨by rw [← ht]; exact hB'.1, by rw [← ht]; exact hB'.2, hS⟩))
theorem lo_lald (hx : p.tables.exec = Jvm.exec) (hb : c.code = cc) (hK : Ko E s) (hW : Lk E σ μ dg w s H locs) (hdg : decode cc pc = .ok (.laload, 1))
    (kk : W p l e R s m args below meth c H locs cells slots Q (F0 m (pc + 1) ls (.long w :: rest))) : W p l e R s m args below meth c H locs cells slots Q (F0 m pc ls (.int 0 :: .ref (eO E) :: rest)) :=
  va_lald (ws := [(eO E, oE E w)]) hx hb hK.2.1 (fun k q hk => by
    have hz : k < 1 := (List.getElem?_eq_some_iff.mp hk).1
    obtain rfl : k = 0 := by omega
    cases hk
    exact hW.2.1) 0 0 rfl rfl (show ¬ ((0 : Int32) < 0 ∨ 1 ≤ (0 : Int32).toNatClampNeg) by decide) hdg kk
theorem lo_sld (hx : p.tables.exec = Jvm.exec) (hb : c.code = cc) (hB : s.heap.size = eB E) (hW : Lk E σ μ dg w s H locs) {b L : Nat} {xs : Nat → Int32} (hX : va_X b L xs s s.heap) (hbl : b < s.heap.size) {k : Nat} {i : Int32} (hi : i = nI k) (hk : k < L) (hL : L ≤ 2560) (hdg : decode cc pc = .ok (.iaload, 1))
    (kk : W p l e R s m args below meth c H locs cells slots Q (F0 m (pc + 1) ls (.int (xs k) :: rest))) : W p l e R s m args below meth c H locs cells slots Q (F0 m pc ls (.int i :: .ref b :: rest)) := by
  subst hi
  refine va_sld (A := cP E) hx hb hX hbl (fun q => ?_) hW.2.2 (nI_in hk (by omega)) hdg ?_
  · have : eB E ≤ b := q
    omega
  · rw [nI_clamp (show k < 2 ^ 31 by omega)]
    exact kk
end LO
