/-! THE LAW'S WRAPPERS: the class's call in a frame that catches, the answer in the law's own row of one long -/
abbrev oE (E : En) (w : Int64) : va_E := .inl (eY E 3, 1, .inr (.inl (fun _ => w)))
def Oc (E : En) (w : Int64) (H : Heap) : Prop := va_at (eD E) vwCl (eO E, oE E w) H
def Ko (E : En) (s : State) : Prop := Ks E s ∧ va_K (eD E) vwCl [(eY E 3, .long)] s ∧ eB E ≤ eO E
def Od (E : En) (σ μ : Sg) (dg : Int64) (w : Int64) (U : State) : Prop := Ko E U ∧ va_P (eD E) vwCl (wsOf E σ μ dg) U.heap ∧ Oc E w U.heap
/-- the heap in the law and in its wrappers -/
def Lk (E : En) (σ μ : Sg) (dg w : Int64) (s : State) (H : Heap) (locs : List Loc) : Prop := va_P (eD E) vwCl (wsOf E σ μ dg) H ∧ Oc E w H ∧ va_S (cP E) s.heap H locs
theorem Od.call {E : En} {σ μ : Sg} {dg w : Int64} {U : State} {g : JFrame} {mk : MethodId} {a : Array Value} (h : Od E σ μ dg w U) : Od E σ μ dg w (U.calling g mk a) := by
  obtain ⟨⟨h1, h2, h3⟩, h4, h5⟩ := h
  have := Wd.call (σ := σ) (μ := μ) (dg := dg) (g := g) (mk := mk) (a := a) ⟨h1, h4⟩
  exact ⟨⟨this.1, va_K.moved (u := U) (U := U.calling g mk a) (Vm.Alike.refl U.vm) h2, h3⟩, this.2, h5⟩
theorem Gd.O {E : En} (h : Gd E) {q : Nat} (hq : q < 103) : eA E q ≠ eO E := (h.2 q hq).2
theorem wsO {E : En} (h : Gd E) {σ μ : Sg} {dg : Int64} {k : Nat} {q : Nat × va_E} (hk : (wsOf E σ μ dg)[k]? = some q) : q.1 ≠ eO E := by
  have hl := (List.getElem?_eq_some_iff.mp hk).1
  rw [ws_len] at hl
  rw [ws_get hl] at hk
  cases hk
  exact h.O hl
def wcd (T : List Nat) : Int32 ⊕ Nat → Option Int32
  | .inl _ => some 0
  | .inr k => match T with
    | [a] => if k = a then some 1 else none
    | [a, b] => if k = a then some 1 else if k = b then some 2 else none
    | _ => none
def wout (w : Int64) : Int32 ⊕ Nat → Int64
  | .inl r => r.toInt64
  | .inr _ => w
abbrev Qo (E : En) (σ μ : Sg) (dg w : Int64) (r0 : Int32) : Array Value → State → Outcome → State → Prop := va_Qi (fun r (_ : Unit) => r = r0) (fun _ t => Wp E σ μ dg t ∧ Oc E w t.heap) (cP E)
abbrev Xo (E : En) : String → State → State → Prop := vx_X (fun (_ : Unit) => True) (fun _ (_ : Unit) _ => False) (cP E)
theorem ow_of {res : Int32 ⊕ Nat} {E : En} {σ μ : Sg} {dg w : Int64} {l : Launch} {y : MethodName} {cc : ByteArray} {n fr lo : Nat} {ret : Option FieldType} {hh : List (Nat × Nat × Nat × Nat)} {av : List Value} {Qc : Array Value → State → Outcome → State → Prop} {XC : String → State → State → Prop} {mc ms : Nat} {free : Addr → Prop} (hy : plainName y.cls = true) (hn : (lg_sl av).length ≤ n)
    (body : ∀ (p : Program) (e : Env) (s : State) (m : MethodId) (below : List Frame) (meth : Method) (c : Code), p.tables.exec = Jvm.exec → c.code = cc → meth.sig.returnType = ret → meth.locks = false → c.maxLocals = n → s.vm.findClass y.cls = some m.cls → c.exceptionTable.toList = tableOf hh → Ko E s → Lk E σ μ dg w s s.heap [] →
      ∀ ls : Array Slot, lv_has ls n (lv_args 0 av) → W p l e (RmX res fr lo) s m av.toArray below meth c s.heap [] 0 0 (vx_MQ below Qc XC av.toArray s mc ms free) (F0 m 0 ls [])) : vx_Met l y [.codeWith y cc n ret hh] (RmX res fr lo) (va_Pc av (Od E σ μ dg w)) Qc XC mc ms free := by
  refine vx_ofWH (cc := cc) (maxL := n) (ret := ret) (hh := hh) hy rfl ?_
  intro p e s m args below meth c s₁ B hml hv
  obtain ⟨rfl, hK, hP, hO⟩ := hv
  rw [lg_entry_eq]
  exact body p e s m below meth c B.exec B.bytes B.returns B.notSynchronized hml (findClass_of_methodNamed B.named) (vx_table (x := y) B (atoms_spec (ws := [.codeWith y cc n ret hh]) B.pre _ List.mem_cons_self)) hK ⟨hP, hO, va_S.rf⟩ _ (lv_entry av hn)
theorem arrV_congr {cI : ClassId} {N : Nat} {f g : Nat → Value} (h : ∀ j, j < N → f j = g j) : arrV cI N f = arrV cI N g := by
  unfold arrV
  congr 2
  funext j
  exact h j.val j.isLt
section OW
variable {p : Program} {l : Launch} {e : Env} {R : Room} {s : State} {m : MethodId} {args : Array Value} {below : List Frame} {meth : Method} {c : Code} {H : Heap} {locs : List Loc} {cells slots : Nat} {Q : State → Prop}
variable {cc : ByteArray} {pc : Nat} {ls : Array Slot} {rest : List Value} {E : En} {σ μ : Sg} {dg w : Int64}
theorem cP_of {E : En} : ∀ q, eP E q → cP E q := fun _ h => h.1
theorem Lk.after {σ' μ' : Sg} {dg' : Int64} {H1 : Heap} {locs1 : List Loc} (hW : Lk E σ μ dg w s H locs) (hP : va_P (eD E) vwCl (wsOf E σ' μ' dg') H1) (hk : ∀ q : Nat, q < H.size → ¬ eP E q → H1[q]? = H[q]?) (hS : va_S (cP E) s.heap H1 locs1) : Lk E σ' μ' dg' w s H1 locs1 := by
  refine ⟨hP, ?_, hS⟩
  have h := hW.2.1
  exact va_at.kept h (hk _ (va_at.lt h) (fun q => q.2 rfl))
theorem ow_call (hx : p.tables.exec = Jvm.exec) (hb : c.code = cc) {nL : Nat} (hml : c.maxLocals = nL) {own : String} (hown : s.vm.findClass own = some m.cls) (hK : Ko E s) (hW : Lk E σ μ dg w s s.heap []) {y : MethodName} {bytes : ByteArray} {n np idx : Nat} {ret : Option FieldType} {fr lo : Nat} {As : List Value} {st0 : List Value} {σ' μ' : Sg} {dg' : Int64} {res : Int32 ⊕ Nat} {q ci : Nat} {fs : List Value} {T : u_T} {N : Nat} (vb : VB y bytes n ret np) (kl : Kw (.methodLink own idx y)) (hc : vwCl[ci]? = some (y.cls, T, N)) (hq : q < 103) (he : cellOf E σ μ dg q = .inr (ci, fs))
    (hM : vx_Met l y [.code y bytes n ret] (RmX res fr lo) (va_Pc (.ref (eA E q) :: As) (Wd E σ μ dg)) (Qxi E σ' μ' dg' res) (Xx E σ' μ' dg' res) (xc res) (xs6 res) (eP E)) (hst : st0 = As.reverse ++ .ref (eA E q) :: rest) (hdg : decode cc pc = .ok (.invokevirtual idx, 3)) (hnp : As.length = np) (hsz : ls.size = nL) (hroom : (rest.map fun v => v.category).sum ≤ 8) (hR : fr + 1 ≤ R.frames ∧ 8 + (n + 11) + lo ≤ R.locals) (hcs : xc res ≤ R.cells ∧ xs6 res ≤ R.slots)
    (kx : ∀ k, res = .inr k → ∀ (H' : Heap) (locs' : List Loc) (ce : Cell) (q9 : Addr), Lk E σ' μ' dg' w s H' locs' → H'[q9]? = some ce → ce.vm = .none → s.vm.findClass (exN k) = some ce.cls → vx_W p l e R s m args below meth c H' locs' (xc res) (xs6 res) Q (F0 m pc ls rest) q9)
    (kk : ∀ r, res = .inl r → ∀ (H' : Heap) (locs' : List Loc), Lk E σ' μ' dg' w s H' locs' → W p l e R s m args below meth c H' locs' (xc res) (xs6 res) Q (F0 m (pc + 3) ls (.int r :: rest))) : W p l e R s m args below meth c s.heap [] 0 0 Q (F0 m pc ls st0) := by
  subst hst
  have hWk : Wk E σ μ dg s s.heap [] := ⟨hW.1, va_S.rf⟩
  exact vx_calli (A0 := cP E) (H0 := s.heap) (vx_runV (Ts := []) (own := own) (rest := rest) ⟨hx, hb, hml, hown, fun _ h => nomatch h⟩ hM (ss_xcwV hK.1.2.1 vb kl hR) (ss_preV hK.1 hWk hc hq he) rfl hnp hsz rfl (lv_room hroom) hdg (by rw [Nat.zero_add, Nat.zero_add]; exact hcs)) va_S.rf (fun _ _ h => h.1) (fun _ h => h.1) (fun _ _ h => h.1)
    (fun nm ce q9 _ t H1 locs1 ht _ _ hB _ hk hS hce hcv hcl => by
      obtain ⟨⟨k, hk1, e1⟩, hP⟩ := hB
      subst e1
      rw [Nat.zero_add, Nat.zero_add]
      exact kx k hk1 H1 locs1 ce q9 (hW.after (by rw [← ht]; exact hP) hk hS) hce hcv hcl)
    (fun r _ t H1 locs1 ht _ hr hB _ hk hS => by
      rw [Nat.zero_add, Nat.zero_add]
      exact kk r hr H1 locs1 (hW.after (by rw [← ht]; exact hB) hk hS))
theorem ow_last (hx : p.tables.exec = Jvm.exec) (hb : c.code = cc) (hK : Ko E s) (hW : Lk E σ μ dg w s H locs) {x : Int64} (hdg : decode cc pc = .ok (.lastore, 1))
    (kk : ∀ (H' : Heap) (locs' : List Loc), Lk E σ μ dg x s H' locs' → W p l e R s m args below meth c H' locs' cells slots Q (F0 m (pc + 1) ls rest)) : W p l e R s m args below meth c H locs cells slots Q (F0 m pc ls (.long x :: .int 0 :: .ref (eO E) :: rest)) := by
  have hin : vp_in 0 1 := show ¬ ((0 : Int32) < 0 ∨ 1 ≤ (0 : Int32).toNatClampNeg) by decide
  refine W.last hx hb (show H[eO E]? = some (vp_cell (eY E 3) (1, .inr (.inl (fun _ => w)))) from hW.2.1) ((hK.2.1.2 0 _ rfl).1 1 (fun _ => .long w)) (fun q => by cases q) (by show ¬ ((0 : Int32) < 0 ∨ (arrV _ _ _).slots.size ≤ _); rw [arrV_size]; exact hin) rfl rfl hdg fun H1 e z oq => ?_
  refine kk H1 _ ⟨hW.1.kept (fun k q hk => oq _ (wsO hK.1.2.2.1 hk)), ?_, hW.2.2.put z oq hK.2.2⟩
  show H1[eO E]? = some (vp_cell (eY E 3) (1, .inr (.inl (fun _ => x))))
  rw [e]
  rw [vp_cell_l, vp_cell_l, arrV_store]
  rw [show arrV (eY E 3) 1 (fun _ => Value.long x) = arrV (eY E 3) 1 (updV (fun _ => Value.long w) 0 (Value.long x)) from ?_]
  · rfl
  · exact arrV_congr (fun j hj => by obtain rfl : j = 0 := by omega
                                     simp [updV])
theorem ow_ret {XC : String → State → State → Prop} {res : Int32 ⊕ Nat} {r1 r0 : Int32} {w0 : Int64} (hx : p.tables.exec = Jvm.exec) (hb : c.code = cc) (hr : meth.sig.returnType = some .int) (hlk : meth.locks = false) (hW : Lk E σ μ dg w s H locs) (h0 : r1 = r0) (h1 : w = w0) (hdg : decode cc pc = .ok (.ireturn, 1)) : W p l e R s m args below meth c H locs (xc res) (xs6 res) (vx_MQ below (Qo E σ μ dg w0 r0) XC args s (xc res) (xs6 res) (cP E)) (F0 m pc ls [.int r1]) := by
  subst h0; subst h1
  exact vx_ret (W.iret hx hb hr (fun t ht _ => ⟨⟨r1, (), rfl, rfl, by show va_P _ _ _ t.heap; rw [ht]; exact hW.1, by rw [ht]; exact hW.2.1⟩, hW.2.2.F ht⟩) hW.2.2.2.2 hdg hlk)
end OW
