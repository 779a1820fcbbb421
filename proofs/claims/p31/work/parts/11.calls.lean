/-! results, their inversion -/
def gd {α : Type} (p : Prop) [Decidable p] (k : Option α) : Option α := if p then k else none
theorem gd_inv {α : Type} {p : Prop} [Decidable p] {k : Option α} {r : α} (h : gd p k = some r) : p ∧ k = some r := by
  unfold gd at h
  split at h
  · exact ⟨by assumption, h⟩
  · cases h
theorem gd_of {α : Type} {p : Prop} [Decidable p] (h : p) (k : Option α) : gd p k = k := if_pos h
def bd {α β : Type} (x : Option α) (k : α → Option β) : Option β := match x with
  | some a => k a
  | none => none
theorem bd_inv {α β : Type} {x : Option α} {k : α → Option β} {r : β} (h : bd x k = some r) : ∃ a, x = some a ∧ k a = some r := by
  cases x with
  | none => cases h
  | some a => exact ⟨a, rfl, h⟩
def bo {α β S : Type} (x : Option ((α ⊕ Nat) × S)) (k : α → S → Option β) : Option β := match x with
  | some (.inl a, s) => k a s
  | _ => none
theorem bo_inv {α β S : Type} {x : Option ((α ⊕ Nat) × S)} {k : α → S → Option β} {r : β} (h : bo x k = some r) : ∃ a s, x = some (.inl a, s) ∧ k a s = some r := by
  match x, h with
  | some (.inl a, s), h => exact ⟨a, s, rfl, h⟩
def bx {α β S : Type} (x : Option ((α ⊕ Nat) × S)) (k : α → S → Option ((β ⊕ Nat) × S)) : Option ((β ⊕ Nat) × S) := match x with
  | some (.inl a, s) => k a s
  | some (.inr e, s) => some (.inr e, s)
  | none => none
theorem bx_inv {α β S : Type} {x : Option ((α ⊕ Nat) × S)} {k : α → S → Option ((β ⊕ Nat) × S)} {r : (β ⊕ Nat) × S} (h : bx x k = some r) : (∃ a s, x = some (.inl a, s) ∧ k a s = some r) ∨ ∃ e s, x = some (.inr e, s) ∧ r = (.inr e, s) := by
  match x, h with
  | some (.inl a, s), h => exact Or.inl ⟨a, s, rfl, h⟩
  | some (.inr e, s), h => exact Or.inr ⟨e, s, rfl, (Option.some.inj h).symm⟩
def nm {α β : Type} (e : α) (k : α → β) : β := k e
theorem nm_use {α β : Type} {e x : α} {k : α → β} {r : β} (h : x = e) (hf : nm e k = r) : k x = r := by rw [h]; exact hf
theorem br_p {α : Type} {c : Prop} [Decidable c] {a b r : α} (h : c) (hf : (if c then a else b) = r) : a = r := by rw [if_pos h] at hf; exact hf
theorem br_n {α : Type} {c : Prop} [Decidable c] {a b r : α} (h : ¬ c) (hf : (if c then a else b) = r) : b = r := by rw [if_neg h] at hf; exact hf
abbrev Rm (a b : Nat) : Room := { frames := a, cells := 0, slots := 0, locals := b }
def xc {α : Type} (r : α ⊕ Nat) : Nat := match r with
  | .inl _ => 0
  | .inr _ => 1
def xs6 {α : Type} (r : α ⊕ Nat) : Nat := match r with
  | .inl _ => 0
  | .inr _ => 6
abbrev RmX {α : Type} (r : α ⊕ Nat) (a b : Nat) : Room := { frames := a, cells := xc r, slots := xs6 r, locals := b }
def exN : Nat → String
  | 0 => "java/lang/IllegalArgumentException"
  | 1 => "java/lang/IndexOutOfBoundsException"
  | _ => "java/lang/IllegalStateException"
/-- a callee's words -/
def CB (y : MethodName) (cc : ByteArray) (n : Nat) (ret : Option FieldType) (np : Nat) : Prop := Kw (.initialized y.cls) ∧ Kw (.code y cc n ret) ∧ (y.cls ≠ "java/lang/invoke/MethodHandle" ∧ y.cls ≠ "java/lang/invoke/VarHandle") ∧ (parseMethodDescriptor y.desc).map (fun d => d.parameters.length) = some np
def VB (y : MethodName) (cc : ByteArray) (n : Nat) (ret : Option FieldType) (np : Nat) : Prop := CB y cc n ret np ∧ Kw (.instanceMethod y) ∧ Kw (.selects y.cls y y)
def SB (y : MethodName) (cc : ByteArray) (n : Nat) (ret : Option FieldType) (np : Nat) : Prop := CB y cc n ret np ∧ Kw (.static y)
theorem CB.np {y : MethodName} {cc : ByteArray} {n np : Nat} {ret : Option FieldType} (h : CB y cc n ret np) : ∀ sig, parseMethodDescriptor y.desc = some sig → np = sig.parameters.length := by
  intro sig hs
  have h2 := h.2.2.2
  rw [hs] at h2
  exact (Option.some.inj h2).symm
theorem CB.ws {y : MethodName} {cc : ByteArray} {n np : Nat} {ret : Option FieldType} (h : CB y cc n ret np) {s : State} (hT : Tb s) : ∀ w ∈ [Cond.code y cc n ret], ∀ (a' : Array Value) (U : State), s.WarmedH U.vm → w.before a' U = true := by
  intro w hw a' U hW
  cases List.mem_singleton.mp hw
  exact (Tb.warm hW hT).at h.2.1 a'
section SSC
variable {p : Program} {l : Launch} {e : Env} {R : Room} {s : State} {m : MethodId} {args : Array Value} {below : List Frame} {meth : Method} {c : Code} {H : Heap} {locs : List Loc} {cells slots : Nat} {Q : State → Prop}
variable {cc : ByteArray} {pc : Nat} {ls : Array Slot} {rest : List Value} {E : En} {σ μ : Sg} {dg : Int64}
theorem ss_cwV {y : MethodName} {bytes : ByteArray} {n np idx : Nat} {ret : Option FieldType} {own : String} {rm : Room} (hT : Tb s) (vb : VB y bytes n ret np) (kl : Kw (.methodLink own idx y)) (hR : rm.frames + 1 ≤ R.frames ∧ 8 + (n + 11) + rm.locals ≤ R.locals) : CallW R s args own y.cls idx y bytes n ret [.code y bytes n ret] rm rm.cells rm.slots np :=
  ⟨⟨rfl, rfl, hR.1, hR.2, vb.1.ws hT, List.mem_cons_self, hT.at vb.1.2.1 args, hT.at vb.1.1 args, vb.1.2.2.1, vb.1.np, hT.at kl args⟩, hT.at vb.2.1 args, hT.at vb.2.2 args⟩
theorem ss_cwS {y : MethodName} {bytes : ByteArray} {n np idx : Nat} {ret : Option FieldType} {own : String} {rm : Room} (hT : Tb s) (vb : SB y bytes n ret np) (kl : Kw (.methodLink own idx y)) (hR : rm.frames + 1 ≤ R.frames ∧ 8 + (n + 11) + rm.locals ≤ R.locals) : CallB R s args own idx y bytes n ret [.code y bytes n ret] rm rm.cells rm.slots np ∧ (Cond.static y).before args s = true :=
  ⟨⟨rfl, rfl, hR.1, hR.2, vb.1.ws hT, List.mem_cons_self, hT.at vb.1.2.1 args, hT.at vb.1.1 args, vb.1.2.2.1, vb.1.np, hT.at kl args⟩, hT.at vb.2 args⟩
theorem ss_cwN {y : MethodName} {bytes : ByteArray} {n np idx : Nat} {ret : Option FieldType} {own host : String} {rm : Room} (hT : Tb s) (vb : SB y bytes n ret np) (kl : va_Nw (.methodLinkNest own idx y host) s) (hR : rm.frames + 1 ≤ R.frames ∧ 8 + (n + 11) + rm.locals ≤ R.locals) : va_CN R s args own idx y host bytes n ret [.code y bytes n ret] rm rm.cells rm.slots np ∧ (Cond.static y).before args s = true ∧ True :=
  ⟨⟨⟨rfl, rfl, hR.1, hR.2, vb.1.ws hT, List.mem_cons_self⟩, hT.at vb.1.2.1 args, hT.at vb.1.1 args, vb.1.2.2.1, vb.1.np, va_Nw.use rfl kl⟩, hT.at vb.2 args, trivial⟩
theorem ss_preV {q ci : Nat} {fs : List Value} {C : String} {T : u_T} {N : Nat} {As : List Value} (hK : Ks E s) (hW : Wk E σ μ dg s H locs) (hc : vwCl[ci]? = some (C, T, N)) (hq : okq E q) (he : cellOf E σ μ dg q = .inr (ci, fs)) : PreV s H C (eA E q) (va_Pc (.ref (eA E q) :: As) (Wd E σ μ dg)) As :=
  ⟨fun _ _ _ _ h => ⟨h.1, h.2.call⟩, va_recv (q := (C, T, N)) hK.1 hW.1 hc (ws_at hq he), fun _ hU hv => ⟨rfl, Wd.next hK hW hU hv⟩⟩
theorem ss_preS {As : List Value} (hK : Ks E s) (hW : Wk E σ μ dg s H locs) : PreS s H (va_Pc As (Wd E σ μ dg)) As :=
  ⟨fun _ _ _ _ h => ⟨h.1, h.2.call⟩, fun _ hU hv => ⟨rfl, Wd.next hK hW hU hv⟩⟩
abbrev Qi (E : En) (σ μ : Sg) (dg : Int64) (r0 : Int32) : Array Value → State → Outcome → State → Prop := va_Qi (fun r (_ : Unit) => r = r0) (fun _ t => Wp E σ μ dg t) (eP E)
abbrev Ql (E : En) (σ μ : Sg) (dg : Int64) (r0 : Int64) : Array Value → State → Outcome → State → Prop := va_Ql (fun r (_ : Unit) => r = r0) (fun _ t => Wp E σ μ dg t) (eP E)
abbrev Qf (E : En) (σ μ : Sg) (dg : Int64) (r0 : UInt32) : Array Value → State → Outcome → State → Prop := va_Qf (fun r (_ : Unit) => r = r0) (fun _ t => Wp E σ μ dg t) (eP E)
abbrev Qd (E : En) (σ μ : Sg) (dg : Int64) (r0 : UInt64) : Array Value → State → Outcome → State → Prop := va_Qd (fun r (_ : Unit) => r = r0) (fun _ t => Wp E σ μ dg t) (eP E)
abbrev Qv (E : En) (σ μ : Sg) (dg : Int64) : Array Value → State → Outcome → State → Prop := va_Qv (fun (_ : Unit) => True) (fun _ t => Wp E σ μ dg t) (eP E)
theorem ss_callVi (hx : p.tables.exec = Jvm.exec) (hb : c.code = cc) {nL : Nat} (hml : c.maxLocals = nL) {own : String} (hown : s.vm.findClass own = some m.cls) (hK : Ks E s) (hW : Wk E σ μ dg s H locs) {y : MethodName} {bytes : ByteArray} {n np idx : Nat} {ret : Option FieldType} {fr lo : Nat} {As : List Value} {st0 : List Value} {σ' μ' : Sg} {dg' : Int64} {r0 : Int32} {q ci : Nat} {fs : List Value} {T : u_T} {N : Nat} (vb : VB y bytes n ret np) (kl : Kw (.methodLink own idx y)) (hc : vwCl[ci]? = some (y.cls, T, N)) (hq : okq E q) (he : cellOf E σ μ dg q = .inr (ci, fs)) (hM : Met l y [.code y bytes n ret] (Rm fr lo) (va_Pc (.ref (eA E q) :: As) (Wd E σ μ dg)) (Qi E σ' μ' dg' r0) 0 0 (eP E)) (hst : st0 = As.reverse ++ .ref (eA E q) :: rest) (hdg : decode cc pc = .ok (.invokevirtual idx, 3)) (hnp : As.length = np) (hsz : ls.size = nL) (hroom : (rest.map fun v => v.category).sum ≤ 8) (hR : fr + 1 ≤ R.frames ∧ 8 + (n + 11) + lo ≤ R.locals) (hcs : cells ≤ R.cells ∧ slots ≤ R.slots)
    (kk : ∀ (H' : Heap) (locs' : List Loc), Wk E σ' μ' dg' s H' locs' → W p l e R s m args below meth c H' locs' cells slots Q (F0 m (pc + 3) ls (.int r0 :: rest))) : W p l e R s m args below meth c H locs cells slots Q (F0 m pc ls st0) := by
  subst hst
  exact va_calli (va_runV (Ts := []) (own := own) (rest := rest) ⟨hx, hb, hml, hown, fun _ h => nomatch h⟩ hM (ss_cwV hK.2.1 vb kl hR) (ss_preV hK hW hc hq he) rfl hnp hsz rfl (lv_room hroom) hdg hcs) hW.2 (fun _ _ h => h) (fun _ h => h) (fun _ _ t H1 locs1 ht _ hr hB _ _ hS => by
    subst hr
    exact kk H1 locs1 ⟨by rw [← ht]; exact hB, hS⟩)
theorem ss_callSi (hx : p.tables.exec = Jvm.exec) (hb : c.code = cc) {nL : Nat} (hml : c.maxLocals = nL) {own : String} (hown : s.vm.findClass own = some m.cls) (hK : Ks E s) (hW : Wk E σ μ dg s H locs) {y : MethodName} {bytes : ByteArray} {n np idx : Nat} {ret : Option FieldType} {fr lo : Nat} {As : List Value} {st0 : List Value} {σ' μ' : Sg} {dg' : Int64} {r0 : Int32} (vb : SB y bytes n ret np) (kl : Kw (.methodLink own idx y)) (hM : Met l y [.code y bytes n ret] (Rm fr lo) (va_Pc As (Wd E σ μ dg)) (Qi E σ' μ' dg' r0) 0 0 (eP E)) (hst : st0 = As.reverse ++ rest) (hdg : decode cc pc = .ok (.invokestatic idx, 3)) (hnp : As.length = np) (hsz : ls.size = nL) (hroom : (rest.map fun v => v.category).sum ≤ 8) (hR : fr + 1 ≤ R.frames ∧ 8 + (n + 11) + lo ≤ R.locals) (hcs : cells ≤ R.cells ∧ slots ≤ R.slots)
    (kk : ∀ (H' : Heap) (locs' : List Loc), Wk E σ' μ' dg' s H' locs' → W p l e R s m args below meth c H' locs' cells slots Q (F0 m (pc + 3) ls (.int r0 :: rest))) : W p l e R s m args below meth c H locs cells slots Q (F0 m pc ls st0) := by
  subst hst
  exact va_calli (va_runS (Ts := []) (own := own) (rest := rest) ⟨hx, hb, hml, hown, fun _ h => nomatch h⟩ hM (ss_cwS hK.2.1 vb kl hR) (ss_preS hK hW) rfl hnp hsz rfl (lv_room hroom) hdg hcs) hW.2 (fun _ _ h => h) (fun _ h => h) (fun _ _ t H1 locs1 ht _ hr hB _ _ hS => by
    subst hr
    exact kk H1 locs1 ⟨by rw [← ht]; exact hB, hS⟩)
theorem ss_callNi (hx : p.tables.exec = Jvm.exec) (hb : c.code = cc) {nL : Nat} (hml : c.maxLocals = nL) {own : String} (hown : s.vm.findClass own = some m.cls) (hK : Ks E s) (hW : Wk E σ μ dg s H locs) {y : MethodName} {bytes : ByteArray} {n np idx : Nat} {ret : Option FieldType} {fr lo : Nat} {As : List Value} {st0 : List Value} {σ' μ' : Sg} {dg' : Int64} {r0 : Int32} {host : String} (vb : SB y bytes n ret np) (kl : va_Nw (.methodLinkNest own idx y host) s) (hM : Met l y [.code y bytes n ret] (Rm fr lo) (va_Pc As (Wd E σ μ dg)) (Qi E σ' μ' dg' r0) 0 0 (eP E)) (hst : st0 = As.reverse ++ rest) (hdg : decode cc pc = .ok (.invokestatic idx, 3)) (hnp : As.length = np) (hsz : ls.size = nL) (hroom : (rest.map fun v => v.category).sum ≤ 8) (hR : fr + 1 ≤ R.frames ∧ 8 + (n + 11) + lo ≤ R.locals) (hcs : cells ≤ R.cells ∧ slots ≤ R.slots)
    (kk : ∀ (H' : Heap) (locs' : List Loc), Wk E σ' μ' dg' s H' locs' → W p l e R s m args below meth c H' locs' cells slots Q (F0 m (pc + 3) ls (.int r0 :: rest))) : W p l e R s m args below meth c H locs cells slots Q (F0 m pc ls st0) := by
  subst hst
  exact va_calli (va_runSN (Ts := []) (own := own) (rest := rest) ⟨hx, hb, hml, hown, fun _ h => nomatch h⟩ hM (ss_cwN hK.2.1 vb kl hR) (ss_preS hK hW) rfl hnp hsz rfl (lv_room hroom) hdg hcs) hW.2 (fun _ _ h => h) (fun _ h => h) (fun _ _ t H1 locs1 ht _ hr hB _ _ hS => by
    subst hr
    exact kk H1 locs1 ⟨by rw [← ht]; exact hB, hS⟩)
theorem ss_callVl (hx : p.tables.exec = Jvm.exec) (hb : c.code = cc) {nL : Nat} (hml : c.maxLocals = nL) {own : String} (hown : s.vm.findClass own = some m.cls) (hK : Ks E s) (hW : Wk E σ μ dg s H locs) {y : MethodName} {bytes : ByteArray} {n np idx : Nat} {ret : Option FieldType} {fr lo : Nat} {As : List Value} {st0 : List Value} {σ' μ' : Sg} {dg' : Int64} {r0 : Int64} {q ci : Nat} {fs : List Value} {T : u_T} {N : Nat} (vb : VB y bytes n ret np) (kl : Kw (.methodLink own idx y)) (hc : vwCl[ci]? = some (y.cls, T, N)) (hq : okq E q) (he : cellOf E σ μ dg q = .inr (ci, fs)) (hM : Met l y [.code y bytes n ret] (Rm fr lo) (va_Pc (.ref (eA E q) :: As) (Wd E σ μ dg)) (Ql E σ' μ' dg' r0) 0 0 (eP E)) (hst : st0 = As.reverse ++ .ref (eA E q) :: rest) (hdg : decode cc pc = .ok (.invokevirtual idx, 3)) (hnp : As.length = np) (hsz : ls.size = nL) (hroom : (rest.map fun v => v.category).sum ≤ 8) (hR : fr + 1 ≤ R.frames ∧ 8 + (n + 11) + lo ≤ R.locals) (hcs : cells ≤ R.cells ∧ slots ≤ R.slots)
    (kk : ∀ (H' : Heap) (locs' : List Loc), Wk E σ' μ' dg' s H' locs' → W p l e R s m args below meth c H' locs' cells slots Q (F0 m (pc + 3) ls (.long r0 :: rest))) : W p l e R s m args below meth c H locs cells slots Q (F0 m pc ls st0) := by
  subst hst
  exact va_calll (va_runV (Ts := []) (own := own) (rest := rest) ⟨hx, hb, hml, hown, fun _ h => nomatch h⟩ hM (ss_cwV hK.2.1 vb kl hR) (ss_preV hK hW hc hq he) rfl hnp hsz rfl (lv_room hroom) hdg hcs) hW.2 (fun _ _ h => h) (fun _ h => h) (fun _ _ t H1 locs1 ht _ hr hB _ _ hS => by
    subst hr
    exact kk H1 locs1 ⟨by rw [← ht]; exact hB, hS⟩)
theorem ss_callSl (hx : p.tables.exec = Jvm.exec) (hb : c.code = cc) {nL : Nat} (hml : c.maxLocals = nL) {own : String} (hown : s.vm.findClass own = some m.cls) (hK : Ks E s) (hW : Wk E σ μ dg s H locs) {y : MethodName} {bytes : ByteArray} {n np idx : Nat} {ret : Option FieldType} {fr lo : Nat} {As : List Value} {st0 : List Value} {σ' μ' : Sg} {dg' : Int64} {r0 : Int64} (vb : SB y bytes n ret np) (kl : Kw (.methodLink own idx y)) (hM : Met l y [.code y bytes n ret] (Rm fr lo) (va_Pc As (Wd E σ μ dg)) (Ql E σ' μ' dg' r0) 0 0 (eP E)) (hst : st0 = As.reverse ++ rest) (hdg : decode cc pc = .ok (.invokestatic idx, 3)) (hnp : As.length = np) (hsz : ls.size = nL) (hroom : (rest.map fun v => v.category).sum ≤ 8) (hR : fr + 1 ≤ R.frames ∧ 8 + (n + 11) + lo ≤ R.locals) (hcs : cells ≤ R.cells ∧ slots ≤ R.slots)
    (kk : ∀ (H' : Heap) (locs' : List Loc), Wk E σ' μ' dg' s H' locs' → W p l e R s m args below meth c H' locs' cells slots Q (F0 m (pc + 3) ls (.long r0 :: rest))) : W p l e R s m args below meth c H locs cells slots Q (F0 m pc ls st0) := by
  subst hst
  exact va_calll (va_runS (Ts := []) (own := own) (rest := rest) ⟨hx, hb, hml, hown, fun _ h => nomatch h⟩ hM (ss_cwS hK.2.1 vb kl hR) (ss_preS hK hW) rfl hnp hsz rfl (lv_room hroom) hdg hcs) hW.2 (fun _ _ h => h) (fun _ h => h) (fun _ _ t H1 locs1 ht _ hr hB _ _ hS => by
    subst hr
    exact kk H1 locs1 ⟨by rw [← ht]; exact hB, hS⟩)
theorem ss_callVf (hx : p.tables.exec = Jvm.exec) (hb : c.code = cc) {nL : Nat} (hml : c.maxLocals = nL) {own : String} (hown : s.vm.findClass own = some m.cls) (hK : Ks E s) (hW : Wk E σ μ dg s H locs) {y : MethodName} {bytes : ByteArray} {n np idx : Nat} {ret : Option FieldType} {fr lo : Nat} {As : List Value} {st0 : List Value} {σ' μ' : Sg} {dg' : Int64} {r0 : UInt32} {q ci : Nat} {fs : List Value} {T : u_T} {N : Nat} (vb : VB y bytes n ret np) (kl : Kw (.methodLink own idx y)) (hc : vwCl[ci]? = some (y.cls, T, N)) (hq : okq E q) (he : cellOf E σ μ dg q = .inr (ci, fs)) (hM : Met l y [.code y bytes n ret] (Rm fr lo) (va_Pc (.ref (eA E q) :: As) (Wd E σ μ dg)) (Qf E σ' μ' dg' r0) 0 0 (eP E)) (hst : st0 = As.reverse ++ .ref (eA E q) :: rest) (hdg : decode cc pc = .ok (.invokevirtual idx, 3)) (hnp : As.length = np) (hsz : ls.size = nL) (hroom : (rest.map fun v => v.category).sum ≤ 8) (hR : fr + 1 ≤ R.frames ∧ 8 + (n + 11) + lo ≤ R.locals) (hcs : cells ≤ R.cells ∧ slots ≤ R.slots)
    (kk : ∀ (H' : Heap) (locs' : List Loc), Wk E σ' μ' dg' s H' locs' → W p l e R s m args below meth c H' locs' cells slots Q (F0 m (pc + 3) ls (.float r0 :: rest))) : W p l e R s m args below meth c H locs cells slots Q (F0 m pc ls st0) := by
  subst hst
  exact va_callf (va_runV (Ts := []) (own := own) (rest := rest) ⟨hx, hb, hml, hown, fun _ h => nomatch h⟩ hM (ss_cwV hK.2.1 vb kl hR) (ss_preV hK hW hc hq he) rfl hnp hsz rfl (lv_room hroom) hdg hcs) hW.2 (fun _ _ h => h) (fun _ h => h) (fun _ _ t H1 locs1 ht _ hr hB _ _ hS => by
    subst hr
    exact kk H1 locs1 ⟨by rw [← ht]; exact hB, hS⟩)
theorem ss_callSf (hx : p.tables.exec = Jvm.exec) (hb : c.code = cc) {nL : Nat} (hml : c.maxLocals = nL) {own : String} (hown : s.vm.findClass own = some m.cls) (hK : Ks E s) (hW : Wk E σ μ dg s H locs) {y : MethodName} {bytes : ByteArray} {n np idx : Nat} {ret : Option FieldType} {fr lo : Nat} {As : List Value} {st0 : List Value} {σ' μ' : Sg} {dg' : Int64} {r0 : UInt32} (vb : SB y bytes n ret np) (kl : Kw (.methodLink own idx y)) (hM : Met l y [.code y bytes n ret] (Rm fr lo) (va_Pc As (Wd E σ μ dg)) (Qf E σ' μ' dg' r0) 0 0 (eP E)) (hst : st0 = As.reverse ++ rest) (hdg : decode cc pc = .ok (.invokestatic idx, 3)) (hnp : As.length = np) (hsz : ls.size = nL) (hroom : (rest.map fun v => v.category).sum ≤ 8) (hR : fr + 1 ≤ R.frames ∧ 8 + (n + 11) + lo ≤ R.locals) (hcs : cells ≤ R.cells ∧ slots ≤ R.slots)
    (kk : ∀ (H' : Heap) (locs' : List Loc), Wk E σ' μ' dg' s H' locs' → W p l e R s m args below meth c H' locs' cells slots Q (F0 m (pc + 3) ls (.float r0 :: rest))) : W p l e R s m args below meth c H locs cells slots Q (F0 m pc ls st0) := by
  subst hst
  exact va_callf (va_runS (Ts := []) (own := own) (rest := rest) ⟨hx, hb, hml, hown, fun _ h => nomatch h⟩ hM (ss_cwS hK.2.1 vb kl hR) (ss_preS hK hW) rfl hnp hsz rfl (lv_room hroom) hdg hcs) hW.2 (fun _ _ h => h) (fun _ h => h) (fun _ _ t H1 locs1 ht _ hr hB _ _ hS => by
    subst hr
    exact kk H1 locs1 ⟨by rw [← ht]; exact hB, hS⟩)
theorem ss_callVd (hx : p.tables.exec = Jvm.exec) (hb : c.code = cc) {nL : Nat} (hml : c.maxLocals = nL) {own : String} (hown : s.vm.findClass own = some m.cls) (hK : Ks E s) (hW : Wk E σ μ dg s H locs) {y : MethodName} {bytes : ByteArray} {n np idx : Nat} {ret : Option FieldType} {fr lo : Nat} {As : List Value} {st0 : List Value} {σ' μ' : Sg} {dg' : Int64} {r0 : UInt64} {q ci : Nat} {fs : List Value} {T : u_T} {N : Nat} (vb : VB y bytes n ret np) (kl : Kw (.methodLink own idx y)) (hc : vwCl[ci]? = some (y.cls, T, N)) (hq : okq E q) (he : cellOf E σ μ dg q = .inr (ci, fs)) (hM : Met l y [.code y bytes n ret] (Rm fr lo) (va_Pc (.ref (eA E q) :: As) (Wd E σ μ dg)) (Qd E σ' μ' dg' r0) 0 0 (eP E)) (hst : st0 = As.reverse ++ .ref (eA E q) :: rest) (hdg : decode cc pc = .ok (.invokevirtual idx, 3)) (hnp : As.length = np) (hsz : ls.size = nL) (hroom : (rest.map fun v => v.category).sum ≤ 8) (hR : fr + 1 ≤ R.frames ∧ 8 + (n + 11) + lo ≤ R.locals) (hcs : cells ≤ R.cells ∧ slots ≤ R.slots)
    (kk : ∀ (H' : Heap) (locs' : List Loc), Wk E σ' μ' dg' s H' locs' → W p l e R s m args below meth c H' locs' cells slots Q (F0 m (pc + 3) ls (.double r0 :: rest))) : W p l e R s m args below meth c H locs cells slots Q (F0 m pc ls st0) := by
  subst hst
  exact va_calld (va_runV (Ts := []) (own := own) (rest := rest) ⟨hx, hb, hml, hown, fun _ h => nomatch h⟩ hM (ss_cwV hK.2.1 vb kl hR) (ss_preV hK hW hc hq he) rfl hnp hsz rfl (lv_room hroom) hdg hcs) hW.2 (fun _ _ h => h) (fun _ h => h) (fun _ _ t H1 locs1 ht _ hr hB _ _ hS => by
    subst hr
    exact kk H1 locs1 ⟨by rw [← ht]; exact hB, hS⟩)
theorem ss_callSd (hx : p.tables.exec = Jvm.exec) (hb : c.code = cc) {nL : Nat} (hml : c.maxLocals = nL) {own : String} (hown : s.vm.findClass own = some m.cls) (hK : Ks E s) (hW : Wk E σ μ dg s H locs) {y : MethodName} {bytes : ByteArray} {n np idx : Nat} {ret : Option FieldType} {fr lo : Nat} {As : List Value} {st0 : List Value} {σ' μ' : Sg} {dg' : Int64} {r0 : UInt64} (vb : SB y bytes n ret np) (kl : Kw (.methodLink own idx y)) (hM : Met l y [.code y bytes n ret] (Rm fr lo) (va_Pc As (Wd E σ μ dg)) (Qd E σ' μ' dg' r0) 0 0 (eP E)) (hst : st0 = As.reverse ++ rest) (hdg : decode cc pc = .ok (.invokestatic idx, 3)) (hnp : As.length = np) (hsz : ls.size = nL) (hroom : (rest.map fun v => v.category).sum ≤ 8) (hR : fr + 1 ≤ R.frames ∧ 8 + (n + 11) + lo ≤ R.locals) (hcs : cells ≤ R.cells ∧ slots ≤ R.slots)
    (kk : ∀ (H' : Heap) (locs' : List Loc), Wk E σ' μ' dg' s H' locs' → W p l e R s m args below meth c H' locs' cells slots Q (F0 m (pc + 3) ls (.double r0 :: rest))) : W p l e R s m args below meth c H locs cells slots Q (F0 m pc ls st0) := by
  subst hst
  exact va_calld (va_runS (Ts := []) (own := own) (rest := rest) ⟨hx, hb, hml, hown, fun _ h => nomatch h⟩ hM (ss_cwS hK.2.1 vb kl hR) (ss_preS hK hW) rfl hnp hsz rfl (lv_room hroom) hdg hcs) hW.2 (fun _ _ h => h) (fun _ h => h) (fun _ _ t H1 locs1 ht _ hr hB _ _ hS => by
    subst hr
    exact kk H1 locs1 ⟨by rw [← ht]; exact hB, hS⟩)
theorem ss_callVv (hx : p.tables.exec = Jvm.exec) (hb : c.code = cc) {nL : Nat} (hml : c.maxLocals = nL) {own : String} (hown : s.vm.findClass own = some m.cls) (hK : Ks E s) (hW : Wk E σ μ dg s H locs) {y : MethodName} {bytes : ByteArray} {n np idx : Nat} {ret : Option FieldType} {fr lo : Nat} {As : List Value} {st0 : List Value} {σ' μ' : Sg} {dg' : Int64} {q ci : Nat} {fs : List Value} {T : u_T} {N : Nat} (vb : VB y bytes n ret np) (kl : Kw (.methodLink own idx y)) (hc : vwCl[ci]? = some (y.cls, T, N)) (hq : okq E q) (he : cellOf E σ μ dg q = .inr (ci, fs)) (hM : Met l y [.code y bytes n ret] (Rm fr lo) (va_Pc (.ref (eA E q) :: As) (Wd E σ μ dg)) (Qv E σ' μ' dg') 0 0 (eP E)) (hst : st0 = As.reverse ++ .ref (eA E q) :: rest) (hdg : decode cc pc = .ok (.invokevirtual idx, 3)) (hnp : As.length = np) (hsz : ls.size = nL) (hroom : (rest.map fun v => v.category).sum ≤ 8) (hR : fr + 1 ≤ R.frames ∧ 8 + (n + 11) + lo ≤ R.locals) (hcs : cells ≤ R.cells ∧ slots ≤ R.slots)
    (kk : ∀ (H' : Heap) (locs' : List Loc), Wk E σ' μ' dg' s H' locs' → W p l e R s m args below meth c H' locs' cells slots Q (F0 m (pc + 3) ls rest)) : W p l e R s m args below meth c H locs cells slots Q (F0 m pc ls st0) := by
  subst hst
  exact va_callv (va_runV (Ts := []) (own := own) (rest := rest) ⟨hx, hb, hml, hown, fun _ h => nomatch h⟩ hM (ss_cwV hK.2.1 vb kl hR) (ss_preV hK hW hc hq he) rfl hnp hsz rfl (lv_room hroom) hdg hcs) hW.2 (fun _ _ h => h) (fun _ h => h) (fun _ t H1 locs1 ht _ _ hB _ _ hS => kk H1 locs1 ⟨by rw [← ht]; exact hB, hS⟩)
theorem ss_callSv (hx : p.tables.exec = Jvm.exec) (hb : c.code = cc) {nL : Nat} (hml : c.maxLocals = nL) {own : String} (hown : s.vm.findClass own = some m.cls) (hK : Ks E s) (hW : Wk E σ μ dg s H locs) {y : MethodName} {bytes : ByteArray} {n np idx : Nat} {ret : Option FieldType} {fr lo : Nat} {As : List Value} {st0 : List Value} {σ' μ' : Sg} {dg' : Int64} (vb : SB y bytes n ret np) (kl : Kw (.methodLink own idx y)) (hM : Met l y [.code y bytes n ret] (Rm fr lo) (va_Pc As (Wd E σ μ dg)) (Qv E σ' μ' dg') 0 0 (eP E)) (hst : st0 = As.reverse ++ rest) (hdg : decode cc pc = .ok (.invokestatic idx, 3)) (hnp : As.length = np) (hsz : ls.size = nL) (hroom : (rest.map fun v => v.category).sum ≤ 8) (hR : fr + 1 ≤ R.frames ∧ 8 + (n + 11) + lo ≤ R.locals) (hcs : cells ≤ R.cells ∧ slots ≤ R.slots)
    (kk : ∀ (H' : Heap) (locs' : List Loc), Wk E σ' μ' dg' s H' locs' → W p l e R s m args below meth c H' locs' cells slots Q (F0 m (pc + 3) ls rest)) : W p l e R s m args below meth c H locs cells slots Q (F0 m pc ls st0) := by
  subst hst
  exact va_callv (va_runS (Ts := []) (own := own) (rest := rest) ⟨hx, hb, hml, hown, fun _ h => nomatch h⟩ hM (ss_cwS hK.2.1 vb kl hR) (ss_preS hK hW) rfl hnp hsz rfl (lv_room hroom) hdg hcs) hW.2 (fun _ _ h => h) (fun _ h => h) (fun _ t H1 locs1 ht _ _ hB _ _ hS => kk H1 locs1 ⟨by rw [← ht]; exact hB, hS⟩)
theorem ss_callNv (hx : p.tables.exec = Jvm.exec) (hb : c.code = cc) {nL : Nat} (hml : c.maxLocals = nL) {own : String} (hown : s.vm.findClass own = some m.cls) (hK : Ks E s) (hW : Wk E σ μ dg s H locs) {y : MethodName} {bytes : ByteArray} {n np idx : Nat} {ret : Option FieldType} {fr lo : Nat} {As : List Value} {st0 : List Value} {σ' μ' : Sg} {dg' : Int64} {host : String} (vb : SB y bytes n ret np) (kl : va_Nw (.methodLinkNest own idx y host) s) (hM : Met l y [.code y bytes n ret] (Rm fr lo) (va_Pc As (Wd E σ μ dg)) (Qv E σ' μ' dg') 0 0 (eP E)) (hst : st0 = As.reverse ++ rest) (hdg : decode cc pc = .ok (.invokestatic idx, 3)) (hnp : As.length = np) (hsz : ls.size = nL) (hroom : (rest.map fun v => v.category).sum ≤ 8) (hR : fr + 1 ≤ R.frames ∧ 8 + (n + 11) + lo ≤ R.locals) (hcs : cells ≤ R.cells ∧ slots ≤ R.slots)
    (kk : ∀ (H' : Heap) (locs' : List Loc), Wk E σ' μ' dg' s H' locs' → W p l e R s m args below meth c H' locs' cells slots Q (F0 m (pc + 3) ls rest)) : W p l e R s m args below meth c H locs cells slots Q (F0 m pc ls st0) := by
  subst hst
  exact va_callv (va_runSN (Ts := []) (own := own) (rest := rest) ⟨hx, hb, hml, hown, fun _ h => nomatch h⟩ hM (ss_cwN hK.2.1 vb kl hR) (ss_preS hK hW) rfl hnp hsz rfl (lv_room hroom) hdg hcs) hW.2 (fun _ _ h => h) (fun _ h => h) (fun _ t H1 locs1 ht _ _ hB _ _ hS => kk H1 locs1 ⟨by rw [← ht]; exact hB, hS⟩)
theorem ss_iret (hx : p.tables.exec = Jvm.exec) (hb : c.code = cc) (hr : meth.sig.returnType = some .int) (hlk : meth.locks = false) (hW : Wk E σ μ dg s H locs) {r0 r1 : Int32} (h01 : r1 = r0) (hdg : decode cc pc = .ok (.ireturn, 1)) : W p l e R s m args below meth c H locs 0 0 (MQ below (Qi E σ μ dg r0) args s 0 0 (eP E)) (F0 m pc ls [.int r1]) :=
  W.iret hx hb hr (fun t ht _ => ⟨⟨r1, (), rfl, h01, by show va_P _ _ _ t.heap; rw [ht]; exact hW.1⟩, hW.2.F ht⟩) hW.2.2.2 hdg hlk
theorem ss_lret (hx : p.tables.exec = Jvm.exec) (hb : c.code = cc) (hr : meth.sig.returnType = some .long) (hlk : meth.locks = false) (hW : Wk E σ μ dg s H locs) {r0 r1 : Int64} (h01 : r1 = r0) (hdg : decode cc pc = .ok (.lreturn, 1)) : W p l e R s m args below meth c H locs 0 0 (MQ below (Ql E σ μ dg r0) args s 0 0 (eP E)) (F0 m pc ls [.long r1]) :=
  W.lret hx hb hr (fun t ht _ => ⟨⟨r1, (), rfl, h01, by show va_P _ _ _ t.heap; rw [ht]; exact hW.1⟩, hW.2.F ht⟩) hW.2.2.2 hdg hlk
theorem ss_fret (hx : p.tables.exec = Jvm.exec) (hb : c.code = cc) (hr : meth.sig.returnType = some .float) (hlk : meth.locks = false) (hW : Wk E σ μ dg s H locs) {r0 r1 : UInt32} (h01 : r1 = r0) (hdg : decode cc pc = .ok (.freturn, 1)) : W p l e R s m args below meth c H locs 0 0 (MQ below (Qf E σ μ dg r0) args s 0 0 (eP E)) (F0 m pc ls [.float r1]) :=
  W.fret hx hb hr (fun t ht _ => ⟨⟨r1, (), rfl, h01, by show va_P _ _ _ t.heap; rw [ht]; exact hW.1⟩, hW.2.F ht⟩) hW.2.2.2 hdg hlk
theorem ss_dret (hx : p.tables.exec = Jvm.exec) (hb : c.code = cc) (hr : meth.sig.returnType = some .double) (hlk : meth.locks = false) (hW : Wk E σ μ dg s H locs) {r0 r1 : UInt64} (h01 : r1 = r0) (hdg : decode cc pc = .ok (.dreturn, 1)) : W p l e R s m args below meth c H locs 0 0 (MQ below (Qd E σ μ dg r0) args s 0 0 (eP E)) (F0 m pc ls [.double r1]) :=
  W.dret hx hb hr (fun t ht _ => ⟨⟨r1, (), rfl, h01, by show va_P _ _ _ t.heap; rw [ht]; exact hW.1⟩, hW.2.F ht⟩) hW.2.2.2 hdg hlk
theorem ss_zret (hx : p.tables.exec = Jvm.exec) (hb : c.code = cc) (hr : meth.sig.returnType = some .boolean) (hlk : meth.locks = false) (hW : Wk E σ μ dg s H locs) {r0 r1 : Int32} (h01 : r1 = r0) (hn : narrow .boolean (.int r1) = .int r1) (hdg : decode cc pc = .ok (.ireturn, 1)) : W p l e R s m args below meth c H locs 0 0 (MQ below (Qi E σ μ dg r0) args s 0 0 (eP E)) (F0 m pc ls [.int r1]) :=
  W.zret hx hb hr hn (fun t ht _ => ⟨⟨r1, (), rfl, h01, by show va_P _ _ _ t.heap; rw [ht]; exact hW.1⟩, hW.2.F ht⟩) hW.2.2.2 hdg hlk
theorem ss_vret (hx : p.tables.exec = Jvm.exec) (hb : c.code = cc) (hr : meth.sig.returnType = none) (hlk : meth.locks = false) (hW : Wk E σ μ dg s H locs) (hdg : decode cc pc = .ok (.return_, 1)) : W p l e R s m args below meth c H locs 0 0 (MQ below (Qv E σ μ dg) args s 0 0 (eP E)) (F0 m pc ls []) :=
  W.vret hx hb hr (fun t ht _ => ⟨⟨(), rfl, trivial, by show va_P _ _ _ t.heap; rw [ht]; exact hW.1⟩, hW.2.F ht⟩) hW.2.2.2 hdg hlk
theorem ss_max (hx : p.tables.exec = Jvm.exec) (hb : c.code = cc) {nL : Nat} (hml : c.maxLocals = nL) (hsz : ls.size = nL) {own : String} (hown : s.vm.findClass own = some m.cls) (hK : Ks E s) {idx : Nat} (kl : Kw (.methodLink own idx Lib.Math.max.name)) (k1 : Kw (.static Lib.Math.max.name)) (k2 : Kw (.initialized "java/lang/Math")) (k3 : Kw (.code Lib.Math.max.name Lib.Math.max.code 2 (some .int))) (hR : 1 ≤ R.frames ∧ (rest.map fun v => v.category).sum + 13 ≤ R.locals) (hcs : cells ≤ R.cells ∧ slots ≤ R.slots) {x y : Int32} (hdg : decode cc pc = .ok (.invokestatic idx, 3))
    (kk : W p l e R s m args below meth c H locs cells slots Q (F0 m (pc + 3) ls (.int (if x < y then y else x) :: rest))) : W p l e R s m args below meth c H locs cells slots Q (F0 m pc ls (.int y :: .int x :: rest)) :=
  va_mmax hx hb (hml.trans hsz.symm) hown (hK.2.1.at kl args) (hK.2.1.at k1 args) (hK.2.1.at k2 args) (hK.2.1.at k3 args) hR.1 hR.2 hcs.1 hcs.2 hdg kk
theorem ss_min (hx : p.tables.exec = Jvm.exec) (hb : c.code = cc) {nL : Nat} (hml : c.maxLocals = nL) (hsz : ls.size = nL) {own : String} (hown : s.vm.findClass own = some m.cls) (hK : Ks E s) {idx : Nat} (kl : Kw (.methodLink own idx Lib.Math.min.name)) (k1 : Kw (.static Lib.Math.min.name)) (k2 : Kw (.initialized "java/lang/Math")) (k3 : Kw (.code Lib.Math.min.name Lib.Math.min.code 2 (some .int))) (hR : 1 ≤ R.frames ∧ (rest.map fun v => v.category).sum + 13 ≤ R.locals) (hcs : cells ≤ R.cells ∧ slots ≤ R.slots) {x y : Int32} (hdg : decode cc pc = .ok (.invokestatic idx, 3))
    (kk : W p l e R s m args below meth c H locs cells slots Q (F0 m (pc + 3) ls (.int (if y < x then y else x) :: rest))) : W p l e R s m args below meth c H locs cells slots Q (F0 m pc ls (.int y :: .int x :: rest)) :=
  va_mmin hx hb (hml.trans hsz.symm) hown (hK.2.1.at kl args) (hK.2.1.at k1 args) (hK.2.1.at k2 args) (hK.2.1.at k3 args) hR.1 hR.2 hcs.1 hcs.2 hdg kk
theorem ss_abs (hx : p.tables.exec = Jvm.exec) (hb : c.code = cc) {nL : Nat} (hml : c.maxLocals = nL) (hsz : ls.size = nL) {own : String} (hown : s.vm.findClass own = some m.cls) (hK : Ks E s) {idx : Nat} (kl : Kw (.methodLink own idx Lib.Math.abs.name)) (k1 : Kw (.static Lib.Math.abs.name)) (k2 : Kw (.initialized "java/lang/Math")) (k3 : Kw (.code Lib.Math.abs.name Lib.Math.abs.code 1 (some .int))) (hR : 1 ≤ R.frames ∧ (rest.map fun v => v.category).sum + 13 ≤ R.locals) (hcs : cells ≤ R.cells ∧ slots ≤ R.slots) {x : Int32} (hdg : decode cc pc = .ok (.invokestatic idx, 3))
    (kk : W p l e R s m args below meth c H locs cells slots Q (F0 m (pc + 3) ls (.int (if 0 ≤ x then x else 0 - x) :: rest))) : W p l e R s m args below meth c H locs cells slots Q (F0 m pc ls (.int x :: rest)) :=
  va_mabs hx hb (hml.trans hsz.symm) hown (hK.2.1.at kl args) (hK.2.1.at k1 args) (hK.2.1.at k2 args) (hK.2.1.at k3 args) hR.1 hR.2 hcs.1 hcs.2 hdg kk
end SSC
