/-! methods that may throw -/
def mxI (x y : Int32) : Int32 := if x < y then y else x
def mnI (x y : Int32) : Int32 := if y < x then y else x
def abI (x : Int32) : Int32 := if 0 ≤ x then x else 0 - x
def bd2 {α β γ : Type} (x : Option (α × β)) (k : α → β → Option γ) : Option γ := match x with
  | some (a, b) => k a b
  | none => none
theorem bd2_inv {α β γ : Type} {x : Option (α × β)} {k : α → β → Option γ} {r : γ} (h : bd2 x k = some r) : ∃ a b, x = some (a, b) ∧ k a b = some r := by
  match x, h with
  | some (a, b), h => exact ⟨a, b, rfl, h⟩
def bd3 {α β δ γ : Type} (x : Option (α × β × δ)) (k : α → β → δ → Option γ) : Option γ := match x with
  | some (a, b, d) => k a b d
  | none => none
theorem bd3_inv {α β δ γ : Type} {x : Option (α × β × δ)} {k : α → β → δ → Option γ} {r : γ} (h : bd3 x k = some r) : ∃ a b d, x = some (a, b, d) ∧ k a b d = some r := by
  match x, h with
  | some (a, b, d), h => exact ⟨a, b, d, rfl, h⟩
theorem zb_n {v : Int32} (h : v = 0 ∨ v = 1) : narrow .boolean (.int v) = .int v := by
  rcases h with rfl | rfl <;> rfl
theorem zb_f {v : Int32} (h : v = 0 ∨ v = 1) : fits .boolean (.int v) = true := by
  rcases h with rfl | rfl <;> rfl
theorem zb_v {v : Int32} (h : v = 0 ∨ v = 1) : vp_nar .boolean v = v := by
  rcases h with rfl | rfl <;> rfl
theorem sw_ne {x k : Int32} {n : Int} (h : ¬ x = k) (hk : k.toInt = n) : x.toInt ≠ n := fun e => h (Int32.toInt_inj.mp (e.trans hk.symm))
abbrev Qxi (E : En) (σ μ : Sg) (dg : Int64) (res : Int32 ⊕ Nat) : Array Value → State → Outcome → State → Prop := va_Qi (fun r (_ : Unit) => res = .inl r) (fun _ t => Wp E σ μ dg t) (eP E)
abbrev Qxv (E : En) (σ μ : Sg) (dg : Int64) (res : Unit ⊕ Nat) : Array Value → State → Outcome → State → Prop := va_Qv (fun (_ : Unit) => res = .inl ()) (fun _ t => Wp E σ μ dg t) (eP E)
abbrev Xx {α : Type} (E : En) (σ μ : Sg) (dg : Int64) (res : α ⊕ Nat) : String → State → State → Prop := vx_X (fun (_ : Unit) => True) (fun nm _ t => (∃ k, res = .inr k ∧ nm = exN k) ∧ Wp E σ μ dg t) (eP E)
theorem ss_ofX {α : Type} {res : α ⊕ Nat} {E : En} {σ μ : Sg} {dg : Int64} {l : Launch} {y : MethodName} {cc : ByteArray} {n fr lo : Nat} {ret : Option FieldType} {av : List Value} {Qc : Array Value → State → Outcome → State → Prop} {XC : String → State → State → Prop} {mc ms : Nat} {free : Addr → Prop} (hy : plainName y.cls = true) (hn : (lg_sl av).length ≤ n)
    (body : ∀ (p : Program) (e : Env) (s : State) (m : MethodId) (below : List Frame) (meth : Method) (c : Code), p.tables.exec = Jvm.exec → c.code = cc → meth.sig.returnType = ret → meth.locks = false → c.maxLocals = n → s.vm.findClass y.cls = some m.cls → (∀ x ∈ c.exceptionTable.toList, False) → Ks E s → Wk E σ μ dg s s.heap [] →
      ∀ ls : Array Slot, lv_has ls n (lv_args 0 av) → W p l e (RmX res fr lo) s m av.toArray below meth c s.heap [] 0 0 (vx_MQ below Qc XC av.toArray s mc ms free) (F0 m 0 ls [])) : vx_Met l y [.code y cc n ret] (RmX res fr lo) (va_Pc av (Wd E σ μ dg)) Qc XC mc ms free := by
  refine vx_ofW (cc := cc) (maxL := n) (ret := ret) hy rfl ?_
  intro p e s m args below meth c s₁ B hml hex hv
  obtain ⟨rfl, hK, hP⟩ := hv
  rw [lg_entry_eq]
  exact body p e s m below meth c B.exec B.bytes B.returns B.notSynchronized hml (findClass_of_methodNamed B.named) hex hK ⟨hP, va_S.rf⟩ _ (lv_entry av hn)
section SSX
variable {p : Program} {l : Launch} {e : Env} {R : Room} {s : State} {m : MethodId} {args : Array Value} {below : List Frame} {meth : Method} {c : Code} {H : Heap} {locs : List Loc} {cells slots : Nat} {Q : State → Prop}
variable {cc : ByteArray} {pc : Nat} {ls : Array Slot} {rest : List Value} {E : En} {σ μ : Sg} {dg : Int64}
theorem ss_xcwV {α : Type} {res : α ⊕ Nat} {y : MethodName} {bytes : ByteArray} {n np idx fr lo : Nat} {ret : Option FieldType} {own : String} (hT : Tb s) (vb : VB y bytes n ret np) (kl : Kw (.methodLink own idx y)) (hR : fr + 1 ≤ R.frames ∧ 8 + (n + 11) + lo ≤ R.locals) : CallW R s args own y.cls idx y bytes n ret [.code y bytes n ret] (RmX res fr lo) (xc res) (xs6 res) np :=
  ss_cwV (rm := RmX res fr lo) hT vb kl hR
/-- a call that is known to return -/
theorem ss_xcallVi (hx : p.tables.exec = Jvm.exec) (hb : c.code = cc) {nL : Nat} (hml : c.maxLocals = nL) {own : String} (hown : s.vm.findClass own = some m.cls) (hK : Ks E s) (hW : Wk E σ μ dg s H locs) {y : MethodName} {bytes : ByteArray} {n np idx : Nat} {ret : Option FieldType} {fr lo : Nat} {As : List Value} {st0 : List Value} {σ' μ' : Sg} {dg' : Int64} {r0 : Int32} {q ci : Nat} {fs : List Value} {T : u_T} {N : Nat} (vb : VB y bytes n ret np) (kl : Kw (.methodLink own idx y)) (hc : vwCl[ci]? = some (y.cls, T, N)) (hq : okq E q) (he : cellOf E σ μ dg q = .inr (ci, fs))
    (hM : vx_Met l y [.code y bytes n ret] (RmX (.inl r0 : Int32 ⊕ Nat) fr lo) (va_Pc (.ref (eA E q) :: As) (Wd E σ μ dg)) (Qxi E σ' μ' dg' (.inl r0)) (Xx E σ' μ' dg' (.inl r0 : Int32 ⊕ Nat)) (xc (.inl r0 : Int32 ⊕ Nat)) (xs6 (.inl r0 : Int32 ⊕ Nat)) (eP E)) (hst : st0 = As.reverse ++ .ref (eA E q) :: rest) (hdg : decode cc pc = .ok (.invokevirtual idx, 3)) (hnp : As.length = np) (hsz : ls.size = nL) (hroom : (rest.map fun v => v.category).sum ≤ 8) (hR : fr + 1 ≤ R.frames ∧ 8 + (n + 11) + lo ≤ R.locals) (hcs : cells ≤ R.cells ∧ slots ≤ R.slots)
    (kk : ∀ (H' : Heap) (locs' : List Loc), Wk E σ' μ' dg' s H' locs' → W p l e R s m args below meth c H' locs' cells slots Q (F0 m (pc + 3) ls (.int r0 :: rest))) : W p l e R s m args below meth c H locs cells slots Q (F0 m pc ls st0) := by
  subst hst
  exact vx_calli (vx_runV (Ts := []) (own := own) (rest := rest) ⟨hx, hb, hml, hown, fun _ h => nomatch h⟩ hM (ss_xcwV hK.2.1 vb kl hR) (ss_preV hK hW hc hq he) rfl hnp hsz rfl (lv_room hroom) hdg hcs) hW.2 (fun _ _ h => h) (fun _ h => h) (fun _ _ h => h)
    (fun _ _ _ _ _ _ _ _ _ _ hB => by obtain ⟨⟨k, hk, -⟩, -⟩ := hB; cases hk)
    (fun r _ t H1 locs1 ht _ hr hB _ _ hS => by
      cases hr
      exact kk H1 locs1 ⟨by rw [← ht]; exact hB, hS⟩)
theorem ss_xcallVv (hx : p.tables.exec = Jvm.exec) (hb : c.code = cc) {nL : Nat} (hml : c.maxLocals = nL) {own : String} (hown : s.vm.findClass own = some m.cls) (hK : Ks E s) (hW : Wk E σ μ dg s H locs) {y : MethodName} {bytes : ByteArray} {n np idx : Nat} {ret : Option FieldType} {fr lo : Nat} {As : List Value} {st0 : List Value} {σ' μ' : Sg} {dg' : Int64} {r0 : Unit} {q ci : Nat} {fs : List Value} {T : u_T} {N : Nat} (vb : VB y bytes n ret np) (kl : Kw (.methodLink own idx y)) (hc : vwCl[ci]? = some (y.cls, T, N)) (hq : okq E q) (he : cellOf E σ μ dg q = .inr (ci, fs))
    (hM : vx_Met l y [.code y bytes n ret] (RmX (.inl r0 : Unit ⊕ Nat) fr lo) (va_Pc (.ref (eA E q) :: As) (Wd E σ μ dg)) (Qxv E σ' μ' dg' (.inl r0)) (Xx E σ' μ' dg' (.inl r0 : Unit ⊕ Nat)) (xc (.inl r0 : Unit ⊕ Nat)) (xs6 (.inl r0 : Unit ⊕ Nat)) (eP E)) (hst : st0 = As.reverse ++ .ref (eA E q) :: rest) (hdg : decode cc pc = .ok (.invokevirtual idx, 3)) (hnp : As.length = np) (hsz : ls.size = nL) (hroom : (rest.map fun v => v.category).sum ≤ 8) (hR : fr + 1 ≤ R.frames ∧ 8 + (n + 11) + lo ≤ R.locals) (hcs : cells ≤ R.cells ∧ slots ≤ R.slots)
    (kk : ∀ (H' : Heap) (locs' : List Loc), Wk E σ' μ' dg' s H' locs' → W p l e R s m args below meth c H' locs' cells slots Q (F0 m (pc + 3) ls rest)) : W p l e R s m args below meth c H locs cells slots Q (F0 m pc ls st0) := by
  subst hst
  exact vx_callv (vx_runV (Ts := []) (own := own) (rest := rest) ⟨hx, hb, hml, hown, fun _ h => nomatch h⟩ hM (ss_xcwV hK.2.1 vb kl hR) (ss_preV hK hW hc hq he) rfl hnp hsz rfl (lv_room hroom) hdg hcs) hW.2 (fun _ _ h => h) (fun _ h => h) (fun _ _ h => h)
    (fun _ _ _ _ _ _ _ _ _ _ hB => by obtain ⟨⟨k, hk, -⟩, -⟩ := hB; cases hk)
    (fun _ t H1 locs1 ht _ _ hB _ _ hS => kk H1 locs1 ⟨by rw [← ht]; exact hB, hS⟩)
/-- a call that is known to throw, not caught here -/
theorem ss_xthrVi {β : Type} {Qc : Array Value → State → Outcome → State → Prop} (hx : p.tables.exec = Jvm.exec) (hb : c.code = cc) (hlk : meth.locks = false) (hex : ∀ x ∈ c.exceptionTable.toList, False) {nL : Nat} (hml : c.maxLocals = nL) {own : String} (hown : s.vm.findClass own = some m.cls) (hK : Ks E s) (hW : Wk E σ μ dg s H locs) {y : MethodName} {bytes : ByteArray} {n np idx : Nat} {ret : Option FieldType} {fr lo : Nat} {As : List Value} {st0 : List Value} {σ' μ' : Sg} {dg' : Int64} {k0 : Nat} {q ci : Nat} {fs : List Value} {T : u_T} {N : Nat} (vb : VB y bytes n ret np) (kl : Kw (.methodLink own idx y)) (hc : vwCl[ci]? = some (y.cls, T, N)) (hq : okq E q) (he : cellOf E σ μ dg q = .inr (ci, fs))
    (hM : vx_Met l y [.code y bytes n ret] (RmX (.inr k0 : Int32 ⊕ Nat) fr lo) (va_Pc (.ref (eA E q) :: As) (Wd E σ μ dg)) (Qxi E σ' μ' dg' (.inr k0)) (Xx E σ' μ' dg' (.inr k0 : Int32 ⊕ Nat)) (xc (.inr k0 : Int32 ⊕ Nat)) (xs6 (.inr k0 : Int32 ⊕ Nat)) (eP E)) (hst : st0 = As.reverse ++ .ref (eA E q) :: rest) (hdg : decode cc pc = .ok (.invokevirtual idx, 3)) (hnp : As.length = np) (hsz : ls.size = nL) (hroom : (rest.map fun v => v.category).sum ≤ 8) (hR : fr + 1 ≤ R.frames ∧ 8 + (n + 11) + lo ≤ R.locals) (hcs : 1 ≤ R.cells ∧ 6 ≤ R.slots) :
    W p l e R s m args below meth c H locs 0 0 (vx_MQ below Qc (Xx E σ' μ' dg' (.inr k0 : β ⊕ Nat)) args s (xc (.inr k0 : β ⊕ Nat)) (xs6 (.inr k0 : β ⊕ Nat)) (eP E)) (F0 m pc ls st0) := by
  subst hst
  exact vx_calli (vx_runV (Ts := []) (own := own) (rest := rest) ⟨hx, hb, hml, hown, fun _ h => nomatch h⟩ hM (ss_xcwV hK.2.1 vb kl hR) (ss_preV hK hW hc hq he) rfl hnp hsz rfl (lv_room hroom) hdg hcs) hW.2 (fun _ _ h => h) (fun _ h => h) (fun _ _ h => h)
    (fun nm ce q9 _ t H1 locs1 ht _ _ hB _ _ hS hce hcv hcl => vx_out (E := nm) (fun x hx => (hex x hx).elim) hlk hce hcv hcl (fun t2 ht2 _ => ⟨(), trivial, ⟨by obtain ⟨⟨k, hk, e⟩, -⟩ := hB; cases hk; exact ⟨_, rfl, e⟩, by show va_P _ _ _ t2.heap; rw [ht2, ← ht]; exact hB.2⟩, hS.F ht2⟩) hS.2.2 (Nat.le_refl _) (Nat.le_refl _))
    (fun r _ t H1 locs1 ht _ hr hB _ _ hS => nomatch hr)
theorem ss_xthrVv {β : Type} {Qc : Array Value → State → Outcome → State → Prop} (hx : p.tables.exec = Jvm.exec) (hb : c.code = cc) (hlk : meth.locks = false) (hex : ∀ x ∈ c.exceptionTable.toList, False) {nL : Nat} (hml : c.maxLocals = nL) {own : String} (hown : s.vm.findClass own = some m.cls) (hK : Ks E s) (hW : Wk E σ μ dg s H locs) {y : MethodName} {bytes : ByteArray} {n np idx : Nat} {ret : Option FieldType} {fr lo : Nat} {As : List Value} {st0 : List Value} {σ' μ' : Sg} {dg' : Int64} {k0 : Nat} {q ci : Nat} {fs : List Value} {T : u_T} {N : Nat} (vb : VB y bytes n ret np) (kl : Kw (.methodLink own idx y)) (hc : vwCl[ci]? = some (y.cls, T, N)) (hq : okq E q) (he : cellOf E σ μ dg q = .inr (ci, fs))
    (hM : vx_Met l y [.code y bytes n ret] (RmX (.inr k0 : Unit ⊕ Nat) fr lo) (va_Pc (.ref (eA E q) :: As) (Wd E σ μ dg)) (Qxv E σ' μ' dg' (.inr k0)) (Xx E σ' μ' dg' (.inr k0 : Unit ⊕ Nat)) (xc (.inr k0 : Unit ⊕ Nat)) (xs6 (.inr k0 : Unit ⊕ Nat)) (eP E)) (hst : st0 = As.reverse ++ .ref (eA E q) :: rest) (hdg : decode cc pc = .ok (.invokevirtual idx, 3)) (hnp : As.length = np) (hsz : ls.size = nL) (hroom : (rest.map fun v => v.category).sum ≤ 8) (hR : fr + 1 ≤ R.frames ∧ 8 + (n + 11) + lo ≤ R.locals) (hcs : 1 ≤ R.cells ∧ 6 ≤ R.slots) :
    W p l e R s m args below meth c H locs 0 0 (vx_MQ below Qc (Xx E σ' μ' dg' (.inr k0 : β ⊕ Nat)) args s (xc (.inr k0 : β ⊕ Nat)) (xs6 (.inr k0 : β ⊕ Nat)) (eP E)) (F0 m pc ls st0) := by
  subst hst
  exact vx_callv (vx_runV (Ts := []) (own := own) (rest := rest) ⟨hx, hb, hml, hown, fun _ h => nomatch h⟩ hM (ss_xcwV hK.2.1 vb kl hR) (ss_preV hK hW hc hq he) rfl hnp hsz rfl (lv_room hroom) hdg hcs) hW.2 (fun _ _ h => h) (fun _ h => h) (fun _ _ h => h)
    (fun nm ce q9 _ t H1 locs1 ht _ _ hB _ _ hS hce hcv hcl => vx_out (E := nm) (fun x hx => (hex x hx).elim) hlk hce hcv hcl (fun t2 ht2 _ => ⟨(), trivial, ⟨by obtain ⟨⟨k, hk, e⟩, -⟩ := hB; cases hk; exact ⟨_, rfl, e⟩, by show va_P _ _ _ t2.heap; rw [ht2, ← ht]; exact hB.2⟩, hS.F ht2⟩) hS.2.2 (Nat.le_refl _) (Nat.le_refl _))
    (fun _ t H1 locs1 ht _ hr hB _ _ hS => nomatch hr)
theorem ss_ixret {XC : String → State → State → Prop} (hx : p.tables.exec = Jvm.exec) (hb : c.code = cc) (hr : meth.sig.returnType = some .int) (hlk : meth.locks = false) (hW : Wk E σ μ dg s H locs) {r1 : Int32} (hdg : decode cc pc = .ok (.ireturn, 1)) : W p l e R s m args below meth c H locs 0 0 (vx_MQ below (Qxi E σ μ dg (.inl r1)) XC args s (xc (.inl r1 : Int32 ⊕ Nat)) (xs6 (.inl r1 : Int32 ⊕ Nat)) (eP E)) (F0 m pc ls [.int r1]) :=
  vx_ret (W.iret hx hb hr (fun t ht _ => ⟨⟨r1, (), rfl, rfl, by show va_P _ _ _ t.heap; rw [ht]; exact hW.1⟩, hW.2.F ht⟩) hW.2.2.2 hdg hlk)
theorem ss_vxret {XC : String → State → State → Prop} (hx : p.tables.exec = Jvm.exec) (hb : c.code = cc) (hr : meth.sig.returnType = none) (hlk : meth.locks = false) (hW : Wk E σ μ dg s H locs) (hdg : decode cc pc = .ok (.return_, 1)) : W p l e R s m args below meth c H locs 0 0 (vx_MQ below (Qxv E σ μ dg (.inl ())) XC args s (xc (.inl () : Unit ⊕ Nat)) (xs6 (.inl () : Unit ⊕ Nat)) (eP E)) (F0 m pc ls []) :=
  vx_ret (W.vret hx hb hr (fun t ht _ => ⟨⟨(), rfl, rfl, by show va_P _ _ _ t.heap; rw [ht]; exact hW.1⟩, hW.2.F ht⟩) hW.2.2.2 hdg hlk)
end SSX
def exNm : List String := ["java/lang/RuntimeException", "java/lang/Exception"]
/-- the words of a throw -/
def ThB (k0 ic : Nat) : Prop := (∀ w ∈ (vx_atS RX6 ic (exN k0) exNm).filter goodWord, w ∈ lw_tbl) ∧ (∀ w ∈ (vx_atS RX6 ic (exN k0) exNm).filter (fun w => !goodWord w), w ∈ nwL) ∧ (∀ w ∈ vx_atS RX6 ic (exN k0) exNm, vx_ot w = true) ∧ Bundle.fit (exN k0) = true ∧ Kw (.initialized (exN k0))
theorem th_at {k0 ic : Nat} (h : ThB k0 ic) {E : En} {s : State} (hK : Ks E s) (args : Array Value) : ∀ w ∈ vx_atS RX6 ic (exN k0) exNm, w.before args s = true := by
  intro w hw
  by_cases g : goodWord w = true
  · exact hK.2.1.at ⟨h.1 w (List.mem_filter.mpr ⟨hw, g⟩), g⟩ args
  · have h1 : va_Nw w s := hK.2.2.2.2.2.1.1 w (h.2.1 w (List.mem_filter.mpr ⟨hw, by simpa using g⟩))
    have h2 := h.2.2.1 w hw
    simp only [vx_ot, Bool.or_eq_true] at h2
    rcases h2 with h2 | h2
    · exact va_Nw.use h2 h1
    · exact absurd h2 g
theorem th_good {k0 ic ik : Nat} (h : ThB k0 ic) : ∀ w ∈ Cond.classLink RX6 ik (exN k0) :: Cond.initialized (exN k0) :: vx_atS RX6 ic (exN k0) exNm, vx_ot w = true := by
  intro w hw
  rcases List.mem_cons.mp hw with rfl | hw
  · rfl
  · rcases List.mem_cons.mp hw with rfl | hw
    · rfl
    · exact h.2.2.1 w hw
theorem exNm_fit : ∀ n ∈ exNm, Bundle.fit n = true := by decide +kernel
section SST
variable {p : Program} {l : Launch} {e : Env} {R : Room} {s : State} {m : MethodId} {args : Array Value} {below : List Frame} {meth : Method} {c : Code} {H : Heap} {locs : List Loc}
variable {cc : ByteArray} {pc : Nat} {ls : Array Slot} {rest : List Value} {E : En} {σ μ : Sg} {dg : Int64}
theorem ss_thX {β : Type} {k0 : Nat} (hW : Wk E σ μ dg s H locs) : ∀ t : State, s.vm.Alike t.vm → H.size ≤ t.heap.size → (∀ q : Nat, q < H.size → t.heap[q]? = H[q]?) → Xx E σ μ dg (.inr k0 : β ⊕ Nat) (exN k0) s t := by
  intro t _ h1 h2
  exact ⟨(), trivial, ⟨⟨k0, rfl, rfl⟩, hW.1.kept (fun k q hk => h2 q.1 (hW.1 k q hk).lt)⟩, Nat.le_trans hW.2.1 h1, fun q a b => (h2 q (Nat.lt_of_lt_of_le a hW.2.1)).trans (hW.2.2.1 q a b)⟩
theorem ss_throwS {β : Type} {Qc : Array Value → State → Outcome → State → Prop} (hx : p.tables.exec = Jvm.exec) (hb : c.code = cc) (hfl : l.stackTraces = false) (hlk : meth.locks = false) (hex : ∀ x ∈ c.exceptionTable.toList, False) {nL : Nat} (hml : c.maxLocals = nL) (hsz : ls.size = nL) (hown : s.vm.findClass RX6 = some m.cls) (hK : Ks E s) (hW : Wk E σ μ dg s H locs) {k0 ik is ic : Nat} {text : String} (hs : (is, text) ∈ strs) (kl : Kw (.classLink RX6 ik (exN k0))) (hat : ThB k0 ic)
    (d0 : decode cc pc = .ok (.new ik, 3)) (d3 : decode cc (pc + 3) = .ok (.dup, 1)) (d4 : decode cc (pc + 4) = .ok (.ldc is, 2)) (d6 : decode cc (pc + 6) = .ok (.invokespecial ic, 3)) (d9 : decode cc (pc + 9) = .ok (.athrow, 1)) (hRf : 5 < R.frames) (hRl : (rest.map fun v => v.category).sum + 82 ≤ R.locals) (hcs : 1 ≤ R.cells ∧ 6 ≤ R.slots) :
    W p l e R s m args below meth c H locs 0 0 (vx_MQ below Qc (Xx E σ μ dg (.inr k0 : β ⊕ Nat)) args s (xc (.inr k0 : β ⊕ Nat)) (xs6 (.inr k0 : β ⊕ Nat)) (eP E)) (F0 m pc ls rest) :=
  vx_throwS (A := eP E) (names := exNm) hx hb hfl hown hat.2.2.2.1 exNm_fit (hK.2.1.at kl args) (hK.2.1.at hat.2.2.2.2 args) (hK.2.2.2.2.2.2 _ hs) (th_at hat hK args) (th_good hat) hK.2.2.2.2.1.1 hK.2.2.2.2.1.2 hW.2 (hsz.trans hml.symm) d0 d3 d4 d6 d9 (fun x hx => (hex x hx).elim) hRf hRl (by omega) (by omega) hlk (ss_thX hW) hW.2.2.2 (Nat.le_refl _) (Nat.le_refl _)
theorem ss_throwW {β : Type} {Qc : Array Value → State → Outcome → State → Prop} (hx : p.tables.exec = Jvm.exec) (hb : c.code = cc) (hfl : l.stackTraces = false) (hlk : meth.locks = false) (hex : ∀ x ∈ c.exceptionTable.toList, False) {nL : Nat} (hml : c.maxLocals = nL) (hsz : ls.size = nL) (hown : s.vm.findClass RX6 = some m.cls) (hK : Ks E s) (hW : Wk E σ μ dg s H locs) {k0 ik is ic : Nat} {text : String} (hs : (is, text) ∈ strs) (kl : Kw (.classLink RX6 ik (exN k0))) (hat : ThB k0 ic)
    (d0 : decode cc pc = .ok (.new ik, 3)) (d3 : decode cc (pc + 3) = .ok (.dup, 1)) (d4 : decode cc (pc + 4) = .ok (.ldc_w is, 3)) (d6 : decode cc (pc + 7) = .ok (.invokespecial ic, 3)) (d9 : decode cc (pc + 10) = .ok (.athrow, 1)) (hRf : 5 < R.frames) (hRl : (rest.map fun v => v.category).sum + 82 ≤ R.locals) (hcs : 1 ≤ R.cells ∧ 6 ≤ R.slots) :
    W p l e R s m args below meth c H locs 0 0 (vx_MQ below Qc (Xx E σ μ dg (.inr k0 : β ⊕ Nat)) args s (xc (.inr k0 : β ⊕ Nat)) (xs6 (.inr k0 : β ⊕ Nat)) (eP E)) (F0 m pc ls rest) :=
  vx_throwSW (A := eP E) (names := exNm) hx hb hfl hown hat.2.2.2.1 exNm_fit (hK.2.1.at kl args) (hK.2.1.at hat.2.2.2.2 args) (hK.2.2.2.2.2.2 _ hs) (th_at hat hK args) (th_good hat) hK.2.2.2.2.1.1 hK.2.2.2.2.1.2 hW.2 (hsz.trans hml.symm) d0 d3 d4 d6 d9 (fun x hx => (hex x hx).elim) hRf hRl (by omega) (by omega) hlk (ss_thX hW) hW.2.2.2 (Nat.le_refl _) (Nat.le_refl _)
end SST
