/-! CONSTRUCTORS: the heap from the base on, cell by cell: an opaque beginning, then what this call has made -/
def pw (b : Nat) (cs : List va_E) : va_W := cs.mapIdx (fun k e => (b + k, e))
theorem pw_get (b : Nat) (cs : List va_E) (k : Nat) : (pw b cs)[k]? = (cs[k]?).map (fun e => (b + k, e)) := by
  unfold pw
  rw [List.getElem?_mapIdx]
theorem pw_len (b : Nat) (cs : List va_E) : (pw b cs).length = cs.length := by simp [pw]
theorem pw_at {b k : Nat} {cs : List va_E} {e : va_E} (h : cs[k]? = some e) : (pw b cs)[k]? = some (b + k, e) := by rw [pw_get, h]; rfl
theorem pw_set {b k : Nat} {cs : List va_E} {e : va_E} : (pw b cs).set k (b + k, e) = pw b (cs.set k e) := by
  apply List.ext_getElem?
  intro i
  by_cases hik : i = k
  · subst hik
    by_cases hl : i < cs.length
    · rw [List.getElem?_set_self (by rw [pw_len]; exact hl), pw_get, List.getElem?_set_self hl]; rfl
    · rw [List.getElem?_eq_none (by rw [List.length_set, pw_len]; omega), List.getElem?_eq_none (by rw [pw_len, List.length_set]; omega)]
  · rw [List.getElem?_set_ne (Ne.symm hik), pw_get, pw_get, List.getElem?_set_ne (Ne.symm hik)]
theorem pw_app {b : Nat} {cs : List va_E} {e : va_E} : pw b cs ++ [(b + cs.length, e)] = pw b (cs ++ [e]) := by
  apply List.ext_getElem?
  intro i
  by_cases hl : i < cs.length
  · rw [List.getElem?_append_left (by rw [pw_len]; exact hl), pw_get, pw_get, List.getElem?_append_left hl]
  · by_cases he : i = cs.length
    · subst he
      rw [List.getElem?_append_right (by rw [pw_len]; exact Nat.le_refl _), pw_get, List.getElem?_append_right (Nat.le_refl _), pw_len, Nat.sub_self]
      rfl
    · rw [List.getElem?_eq_none (by simp [pw_len]; omega), List.getElem?_eq_none (by simp [pw_len]; omega)]
theorem pw_D (b : Nat) (cs : List va_E) : va_D (fun q => b ≤ q) (pw b cs) := by
  refine ⟨fun i j p q hi hj e => ?_, fun k q hk => ?_⟩
  · rw [pw_get] at hi hj
    obtain ⟨_, -, rfl⟩ := Option.map_eq_some_iff.mp hi
    obtain ⟨_, -, rfl⟩ := Option.map_eq_some_iff.mp hj
    dsimp only at e
    omega
  · rw [pw_get] at hk
    obtain ⟨_, -, rfl⟩ := Option.map_eq_some_iff.mp hk
    exact Nat.le_add_right _ _
def nwC : List Cond := [.methodLinkNest RX6 11 yX4_init RX6, .methodLinkNest RX6 18 yX3_init RX6, .methodLinkNest RX3 11 yX4_init RX6, .methodLinkNest RX6 33 yX0_init RX6, .methodLinkNest RX6 40 yX1_init RX6, .methodLinkNest RX1 11 yX5_init RX6, .methodLinkNest RX6 47 yX2_init RX6, .methodLinkNest RX2 20 yX5_init RX6, .methodLinkNest RX6 57 yX5_init RX6]
theorem nwC_warm {s U : State} (hW : s.WarmedH U.vm) : ∀ w ∈ nwC, va_Nw w s → va_Nw w U := by
  intro w hw h
  simp only [nwC, List.mem_cons, List.not_mem_nil, or_false] at hw
  rcases hw with rfl | rfl | rfl | rfl | rfl | rfl | rfl | rfl | rfl <;> exact h.warmM hW
abbrev cP (E : En) : Nat → Prop := fun q => eB E ≤ q
def Kc (E : En) (s : State) : Prop := va_K (eD E) vwCl (tyOf E) s ∧ Tb s ∧ (∀ w ∈ nwC, va_Nw w s) ∧ va_AO RX4 s
def Pw (E : En) (cs : List va_E) (H : Heap) : Prop := H.size = eB E + cs.length ∧ va_P (eD E) vwCl (pw (eB E) cs) H
def Cw (E : En) (pre suf : List va_E) (s : State) (H : Heap) (locs : List Loc) : Prop := Pw E (pre ++ suf) H ∧ va_S (cP E) s.heap H locs
def Cd (E : En) (pre suf : List va_E) (U : State) : Prop := Kc E U ∧ Pw E (pre ++ suf) U.heap
theorem Kc.warm {E : En} {s U : State} (h : Kc E s) (hW : s.WarmedH U.vm) : Kc E U := ⟨va_K.moved hW.alike h.1, h.2.1.warm hW, fun w hw => nwC_warm hW w hw (h.2.2.1 w hw), va_AO.moved hW.alike h.2.2.2⟩
theorem Cd.call {E : En} {pre suf : List va_E} {U : State} {g : JFrame} {mk : MethodId} {a : Array Value} (h : Cd E pre suf U) : Cd E pre suf (U.calling g mk a) :=
  ⟨Kc.warm (U := U.calling g mk a) h.1 (State.WarmedH.refl U), h.2⟩
abbrev Qc0 (E : En) (pre suf : List va_E) : Array Value → State → Outcome → State → Prop := va_Qv (fun (_ : Unit) => True) (fun _ t => Pw E (pre ++ suf) t.heap) (cP E)
abbrev Rc (fr lo mc ms : Nat) : Room := { frames := fr, cells := mc, slots := ms, locals := lo }
theorem cn_of {E : En} {pre suf : List va_E} {l : Launch} {y : MethodName} {cc : ByteArray} {n fr lo mc ms : Nat} {suf' : List va_E} {a : Nat} (hy : plainName y.cls = true) (hn : 1 ≤ n) (hnm : y.name = "<init>")
    (body : ∀ (p : Program) (e : Env) (s : State) (m : MethodId) (below : List Frame) (meth : Method) (c : Code), p.tables.exec = Jvm.exec → c.code = cc → meth.sig.returnType = none → meth.locks = false → c.maxLocals = n → s.vm.findClass y.cls = some m.cls → meth.name = "<init>" → Kc E s → Cw E pre suf s s.heap [] →
      ∀ ls : Array Slot, lv_has ls n [(0, .ref a)] → W p l e (Rc fr lo mc ms) s m [.ref a].toArray below meth c s.heap [] 0 0 (MQ below (Qc0 E pre suf') [.ref a].toArray s mc ms (cP E)) (F0 m 0 ls [])) : Met l y [.code y cc n none] (Rc fr lo mc ms) (va_Pc [.ref a] (Cd E pre suf)) (Qc0 E pre suf') mc ms (cP E) := by
  refine Met.ofW (cc := cc) (maxL := n) (ret := none) hy rfl ?_
  intro p e s m args below meth c s₁ B hml hv
  obtain ⟨rfl, hK, hP⟩ := hv
  rw [lg_entry_eq]
  exact body p e s m below meth c B.exec B.bytes B.returns B.notSynchronized hml (findClass_of_methodNamed B.named) ((name_of_methodNamed B.named B.method).1.trans hnm) hK ⟨hP, va_S.rf⟩ _ (lv_entry [.ref a] hn)
theorem suf_at {pre suf : List va_E} {n j : Nat} {e : va_E} (hn : pre.length = n) (h : suf[j]? = some e) : (pre ++ suf)[n + j]? = some e := by
  rw [List.getElem?_append_right (by omega), ← hn, Nat.add_sub_cancel_left]; exact h
theorem suf_set {pre suf : List va_E} {n j : Nat} {e : va_E} (hn : pre.length = n) : (pre ++ suf).set (n + j) e = pre ++ suf.set j e := by
  rw [List.set_append_right _ _ (by omega), ← hn, Nat.add_sub_cancel_left]
section CTOR
variable {p : Program} {l : Launch} {e : Env} {R : Room} {s : State} {m : MethodId} {args : Array Value} {below : List Frame} {meth : Method} {c : Code} {H : Heap} {locs : List Loc} {cells slots : Nat} {Q : State → Prop}
variable {cc : ByteArray} {pc : Nat} {ls : Array Slot} {rest : List Value} {E : En} {pre suf suf' : List va_E} {n : Nat}
theorem cn_obj (hx : p.tables.exec = Jvm.exec) (hb : c.code = cc) {nL : Nat} (hml : c.maxLocals = nL) (hsz : ls.size = nL) {own : String} (hown : s.vm.findClass own = some m.cls) (hK : Kc E s) {idx : Nat} (k1 : Kw (.methodLink own idx Lib.objectInit)) (k2 : Kw (.instanceMethod Lib.objectInit)) (k3 : Kw (.code Lib.objectInit ⟨#[0xb1]⟩ 1 none)) {a : Nat} (hR : 1 ≤ R.frames ∧ 12 ≤ R.locals) (hd : decode cc pc = .ok (.invokespecial idx, 3))
    (kk : W p l e R s m args below meth c H locs cells slots Q (F0 m (pc + 3) ls [])) : W p l e R s m args below meth c H locs cells slots Q (F0 m pc ls [.ref a]) :=
  W.objInit hx hb hown (hK.2.1.at k1 args) (hK.2.1.at k2 args) (hK.2.1.at k3 args) rfl (hsz.trans hml.symm) rfl hd hR.1 hR.2 kk
theorem cn_get (hx : p.tables.exec = Jvm.exec) (hb : c.code = cc) {own : String} (hown : s.vm.findClass own = some m.cls) (hK : Kc E s) (hW : Cw E pre suf s H locs) (hn : pre.length = n) {C : String} {T : u_T} {N ci index k : Nat} (j : Nat) {fs : List Value} {v : Value}
    (hin : ∀ w ∈ u_ws C T N, Kw w) (hc : vwCl[ci]? = some (C, T, N)) (hk : k < N) (he : suf[j]? = some (.inr (ci, fs))) (hv : fs[k]? = some v) (hl : Kw (.fieldLink own index (T k).1 (T k).2.1 (T k).2.2.1)) (hdg : decode cc pc = .ok (.getfield index, 3))
    (kk : W p l e R s m args below meth c H locs cells slots Q (F0 m (pc + 3) ls (v :: rest))) : W p l e R s m args below meth c H locs cells slots Q (F0 m pc ls (.ref (eB E + (n + j)) :: rest)) :=
  va_get (C := C) (T := T) (N := N) (Ts := u_ws C T N) hx hb (fun w h => hK.2.1.at (hin w h) args) (fun _ h => h) hown hK.1 hW.1.2 (n + j) (pw_at (suf_at hn he)) hc k hk (hK.2.1.at hl args) (fun _ h => h) hv hdg kk
theorem Cw.set {j : Nat} {e0 e1 : va_E} {H' : Heap} {i : Nat} (hW : Cw E pre suf s H locs) (hn : pre.length = n) (he : suf[j]? = some e0) (hs : suf.set j e1 = suf') (hat : va_at (eD E) vwCl (eB E + (n + j), e1) H') (hz : H'.size = H.size) (ho : ∀ q, q ≠ eB E + (n + j) → H'[q]? = H[q]?) : Cw E pre suf' s H' (locs ++ [⟨eB E + (n + j), i⟩]) := by
  refine ⟨⟨?_, ?_⟩, hW.2.put hz ho (Nat.le_add_right _ _)⟩
  · rw [hz, hW.1.1, ← hs]; simp
  · rw [← hs, ← suf_set (n := n) hn, ← pw_set]
    exact hW.1.2.set (pw_D _ _) (pw_at (suf_at hn he)) hat ho
theorem cn_put (hx : p.tables.exec = Jvm.exec) (hb : c.code = cc) {own : String} (hown : s.vm.findClass own = some m.cls) (hK : Kc E s) (hW : Cw E pre suf s H locs) (hn : pre.length = n) {C : String} {T : u_T} {N ci index k : Nat} (j : Nat) {fs : List Value} {v : Value} {ty0 : Nat → FieldType}
    (hin : ∀ w ∈ u_ws C T N, Kw w) (hty : ∀ k, k < N → parseFieldDescriptor (T k).2.2.1 = some (ty0 k)) (hnm : ∀ a, a < N → ∀ b, b < N → a ≠ b → (T a).2.1 ≠ (T b).2.1) (hc : vwCl[ci]? = some (C, T, N)) (hk : k < N) (he : suf[j]? = some (.inr (ci, fs))) (hs : suf.set j (.inr (ci, fs.set k v)) = suf') (hkl : k < fs.length) (hfin : (T k).2.2.2 = false) (hna : narrow (ty0 k) v = v) (hfit : fits (ty0 k) v = true) (hl : Kw (.fieldLink own index (T k).1 (T k).2.1 (T k).2.2.1)) (hdg : decode cc pc = .ok (.putfield index, 3))
    (kk : ∀ (H' : Heap) (locs' : List Loc), Cw E pre suf' s H' locs' → W p l e R s m args below meth c H' locs' cells slots Q (F0 m (pc + 3) ls rest)) : W p l e R s m args below meth c H locs cells slots Q (F0 m pc ls (v :: .ref (eB E + (n + j)) :: rest)) := by
  have hts : ∀ w ∈ u_ws C T N, w.before args s = true := fun w h => hK.2.1.at (hin w h) args
  have hap := va_apart (own := own) hts (fun _ h => h) ty0 hty hnm hK.1 hc
  obtain ⟨r, h1, cell, q1, q2, q3, q4⟩ := hW.1.2 (n + j) _ (pw_at (suf_at hn he))
  have hr : r = (C, T, N) := Option.some.inj (h1.symm.trans hc)
  subst hr
  obtain ⟨hS, hfc, kC, hkC, hkind⟩ := hK.1.1 ci _ hc
  obtain ⟨cf, kf, fi, f, hi, hsl⟩ := hS k hk
  have hlay := hts _ (u_in_lay hk)
  unfold u_lay at hlay
  rw [if_neg (by rw [hfin]; decide)] at hlay
  have hst := (u_facts hfc hkC (u_lays hts (fun _ h => h) hk) hi).1
  have h6 := u_store hfc hkC hkind hlay hi (hty k hk) hna hfit
  refine W.putK hx hb (f := f) ⟨hown, hK.2.1.at hl args, ⟨_, _, _, hi⟩, hst⟩ (by rw [q2]; exact h6) q1 q3 (by rw [hsl]; exact k2_hasslot (q4 k hk)) rfl rfl hdg fun H' e1 e2 e3 => ?_
  rw [hsl] at e1 ⊢
  exact kk H' _ (hW.set hn he hs ⟨_, hc, t_OB.to (V := updV (vp_V fs) k v) ⟨_, e1, q2, q3, t_set q4 hap hk v⟩ (fun j _ => vp_updV_set hkl v j)⟩ e2 e3)
theorem cn_putF (hx : p.tables.exec = Jvm.exec) (hb : c.code = cc) {own : String} (hown : s.vm.findClass own = some m.cls) (hin2 : meth.name = "<init>") (hK : Kc E s) (hW : Cw E pre suf s H locs) (hn : pre.length = n) {C : String} {T : u_T} {N ci index k : Nat} (j : Nat) {fs : List Value} {v : Value} {ty0 : Nat → FieldType}
    (hin : ∀ w ∈ u_ws C T N, Kw w) (hty : ∀ k, k < N → parseFieldDescriptor (T k).2.2.1 = some (ty0 k)) (hnm : ∀ a, a < N → ∀ b, b < N → a ≠ b → (T a).2.1 ≠ (T b).2.1) (hc : vwCl[ci]? = some (C, T, N)) (hk : k < N) (he : suf[j]? = some (.inr (ci, fs))) (hs : suf.set j (.inr (ci, fs.set k v)) = suf') (hkl : k < fs.length) (hfin : (T k).2.2.2 = true) (hdecl : (T k).1 = own) (hna : narrow (ty0 k) v = v) (hfit : fits (ty0 k) v = true) (hl : Kw (.fieldLink own index (T k).1 (T k).2.1 (T k).2.2.1)) (hdg : decode cc pc = .ok (.putfield index, 3))
    (kk : ∀ (H' : Heap) (locs' : List Loc), Cw E pre suf' s H' locs' → W p l e R s m args below meth c H' locs' cells slots Q (F0 m (pc + 3) ls rest)) : W p l e R s m args below meth c H locs cells slots Q (F0 m pc ls (v :: .ref (eB E + (n + j)) :: rest)) := by
  have hts : ∀ w ∈ u_ws C T N, w.before args s = true := fun w h => hK.2.1.at (hin w h) args
  have hap := va_apart (own := own) hts (fun _ h => h) ty0 hty hnm hK.1 hc
  obtain ⟨r, h1, cell, q1, q2, q3, q4⟩ := hW.1.2 (n + j) _ (pw_at (suf_at hn he))
  have hr : r = (C, T, N) := Option.some.inj (h1.symm.trans hc)
  subst hr
  obtain ⟨hS, hfc, kC, hkC, hkind⟩ := hK.1.1 ci _ hc
  obtain ⟨cf, kf, fi, f, hi, hsl⟩ := hS k hk
  have hlay := hts _ (u_in_lay hk)
  unfold u_lay at hlay
  rw [if_pos hfin] at hlay
  have hst := (u_facts hfc hkC (u_lays hts (fun _ h => h) hk) hi).1
  have hcf : m.cls = cf := by
    obtain ⟨_, _, c', _, _, _, -, -, hf', -, -, -, hown2, -⟩ := Cond.laysFinal_spec hlay
    have e1 : c' = cf := by have := hi.symm.trans hf'; simp at this; exact this.1.symm
    rw [hdecl] at hown2
    rw [← e1]; exact Option.some.inj (hown.symm.trans hown2)
  have h6 := u_fits hfc hkC hkind (Or.inr hlay) hi (hty k hk) hna hfit
  refine W.putFinK hx hb hown (hK.2.1.at hl args) hi hst hcf hin2 (by rw [q2]; exact h6) q1 q3 (by rw [hsl]; exact k2_hasslot (q4 k hk)) rfl rfl hdg fun H' e1 e2 e3 => ?_
  rw [hsl] at e1 ⊢
  exact kk H' _ (hW.set hn he hs ⟨_, hc, t_OB.to (V := updV (vp_V fs) k v) ⟨_, e1, q2, q3, t_set q4 hap hk v⟩ (fun j _ => vp_updV_set hkl v j)⟩ e2 e3)
theorem cn_iast (hx : p.tables.exec = Jvm.exec) (hb : c.code = cc) (hK : Kc E s) (hW : Cw E pre suf s H locs) (hn : pre.length = n) (j : Nat) {len : Nat} {f : Nat → Int32} {i x : Int32} (he : suf[j]? = some (.inl (eY E 0, len, .inl f))) (hs : suf.set j (.inl (eY E 0, len, .inl (upd f i.toNatClampNeg x))) = suf') (hin : vp_in i len) (hdg : decode cc pc = .ok (.iastore, 1))
    (kk : ∀ (H' : Heap) (locs' : List Loc), Cw E pre suf' s H' locs' → W p l e R s m args below meth c H' locs' cells slots Q (F0 m (pc + 1) ls rest)) : W p l e R s m args below meth c H locs cells slots Q (F0 m pc ls (.int x :: .int i :: .ref (eB E + (n + j)) :: rest)) := by
  have hat := hW.1.2 (n + j) _ (pw_at (suf_at hn he))
  refine W.iast hx hb hat ((hK.1.2 0 _ tys0).1 len (fun j => .int (f j))) (fun q => by cases q) (by show ¬ (i < 0 ∨ (arrV _ _ _).slots.size ≤ _); rw [arrV_size]; exact hin) rfl rfl hdg fun H1 e1 z oq => ?_
  refine kk H1 _ (hW.set hn he hs ?_ z oq)
  show H1[_]? = some (vp_cell _ _)
  rw [e1]
  rw [vp_cell_i, vp_cell_i, arrV_store]
  congr 2
  funext q
  by_cases hq : q = i.toNatClampNeg
  · subst hq
    simp [updV, upd]
  · simp [updV, upd, hq]
theorem cn_iald (hx : p.tables.exec = Jvm.exec) (hb : c.code = cc) (hK : Kc E s) (hW : Cw E pre suf s H locs) (hn : pre.length = n) (j : Nat) {len : Nat} {f : Nat → Int32} {i : Int32} (he : suf[j]? = some (.inl (eY E 0, len, .inl f))) (hin : vp_in i len) (hdg : decode cc pc = .ok (.iaload, 1))
    (kk : W p l e R s m args below meth c H locs cells slots Q (F0 m (pc + 1) ls (.int (f i.toNatClampNeg) :: rest))) : W p l e R s m args below meth c H locs cells slots Q (F0 m pc ls (.int i :: .ref (eB E + (n + j)) :: rest)) :=
  va_iald hx hb hK.1 hW.1.2 (n + j) 0 (pw_at (suf_at hn he)) tys0 hin hdg kk
theorem cn_aast (hx : p.tables.exec = Jvm.exec) (hb : c.code = cc) (hK : Kc E s) (hW : Cw E pre suf s H locs) (hn : pre.length = n) (j jv : Nat) {len : Nat} {f : Nat → Option Nat} {i : Int32} {vs : List Value} (he : suf[j]? = some (.inl (eY E 2, len, .inr (.inr (.inr (.inr f)))))) (hv : suf[jv]? = some (.inr (4, vs))) (hs : suf.set j (.inl (eY E 2, len, .inr (.inr (.inr (.inr (va_up f i.toNatClampNeg (some (eB E + (n + jv))))))))) = suf') (hin : vp_in i len) (hdg : decode cc pc = .ok (.aastore, 1))
    (kk : ∀ (H' : Heap) (locs' : List Loc), Cw E pre suf' s H' locs' → W p l e R s m args below meth c H' locs' cells slots Q (F0 m (pc + 1) ls rest)) : W p l e R s m args below meth c H locs cells slots Q (F0 m pc ls (.ref (eB E + (n + jv)) :: .int i :: .ref (eB E + (n + j)) :: rest)) := by
  have hlt : i.toNatClampNeg < len := Nat.not_le.mp fun q => hin (Or.inr q)
  have h0 : ¬ i < 0 := fun q => hin (Or.inl q)
  obtain ⟨r', hr', cellV, g1, g2, g3, -⟩ := hW.1.2 (n + jv) _ (pw_at (suf_at hn hv))
  have hcls := (hK.1.1 4 (RX4, TX4, 11) rfl).2
  obtain ⟨kA, comp, k1, k2, k3, -⟩ := (hK.1.2 2 _ tys2).2
  have hcomp : comp = (eD E).1 4 := Option.some.inj (k3.symm.trans hcls.1)
  subst hcomp
  obtain ⟨kC, hkC, -⟩ := hcls.2
  refine W.aast hx hb (hW.1.2 (n + j) _ (pw_at (suf_at hn he))) (fun q h => by cases h) (fun h => by cases h) k1 k2 rfl hkC ⟨h0, by show _ < (arrV _ _ _).slots.size; rw [arrV_size]; exact hlt⟩ g1 (fun q h => by rw [g3] at h; cases h) (by rw [g2]; exact hkC) (by rw [g2]; exact va_assign hcls) rfl rfl hdg fun H1 e1 z oq => ?_
  refine kk H1 _ (hW.set hn he hs ?_ z oq)
  show H1[_]? = some (vp_cell _ _)
  rw [e1]
  rw [vp_cell_q, vp_cell_q, arrV_store]
  congr 2
  funext q
  by_cases hq : q = i.toNatClampNeg
  · subst hq
    simp [updV, va_up, va_rf]
  · simp [updV, va_up, hq]
theorem Cw.push {e1 : va_E} {H' : Heap} (hW : Cw E pre suf s H locs) (hs : suf ++ [e1] = suf') (hat : va_at (eD E) vwCl (H.size, e1) H') (hz : H'.size = H.size + 1) (ho : ∀ q, q < H.size → H'[q]? = H[q]?) : Cw E pre suf' s H' locs := by
  refine ⟨⟨?_, ?_⟩, Nat.le_trans hW.2.1 (by omega), fun q h1 h2 => (ho q (Nat.lt_of_lt_of_le h1 hW.2.1)).trans (hW.2.2.1 q h1 h2), hW.2.2.2⟩
  · rw [hz, hW.1.1, ← hs]; simp; omega
  · rw [← hs, ← List.append_assoc, ← pw_app]
    refine va_P.app (hW.1.2.kept (fun k q hk => ho q.1 ((hW.1.2 k q hk).lt))) (fun k q hk => ?_)
    have hz0 : k < 1 := (List.getElem?_eq_some_iff.mp hk).1
    rw [show k = 0 by omega] at hk
    cases hk
    rw [← hW.1.1]
    exact hat
theorem cn_new (hx : p.tables.exec = Jvm.exec) (hb : c.code = cc) {own C : String} {T : u_T} {N ci index : Nat} {ty : Nat → FieldType} (hin : ∀ w ∈ u_ws C T N, Kw w) (hty : ∀ k, k < N → parseFieldDescriptor (T k).2.2.1 = some (ty k)) (hown : s.vm.findClass own = some m.cls) (hcl : Kw (.classLink own index C)) (hinst : Kw (.instantiable C N)) (hini : Kw (.initialized C)) (hK : Kc E s) (hW : Cw E pre suf s H locs) (hn : pre.length = n) (j : Nat) (hj : suf.length = j) (hc : vwCl[ci]? = some (C, T, N)) {fs : List Value} (hfs : ∀ j, j < N → defaultValue (ty j) = vp_V fs j) (hs : suf ++ [.inr (ci, fs)] = suf') {k0 s0 : Nat} (hk0 : cells = k0) (hs0 : slots = s0) (hR : k0 + 1 ≤ R.cells ∧ s0 + N ≤ R.slots) (hdg : decode cc pc = .ok (.new index, 3))
    (kk : ∀ H' : Heap, Cw E pre suf' s H' locs → W p l e R s m args below meth c H' locs (k0 + 1) (s0 + N) Q (F0 m (pc + 3) ls (.ref (eB E + (n + j)) :: rest))) : W p l e R s m args below meth c H locs cells slots Q (F0 m pc ls rest) := by
  subst hk0; subst hs0
  have hKn := hK.1.1 ci _ hc
  have hts : ∀ w ∈ u_ws C T N, w.before args s = true := fun w h => hK.2.1.at (hin w h) args
  have hsz : H.size = eB E + (n + j) := by rw [hW.1.1]; simp; omega
  refine W.newcK hx hb hown (hK.2.1.at hcl args) (hK.2.1.at hinst args) (hK.2.1.at hini args) rfl hdg hR.1 hR.2 hKn.2.1 rfl fun H1 kC hkC e1 z1 o1 => ?_
  rw [hsz]
  exact kk H1 (hW.push hs ⟨_, hc, (u_born ty hts (fun _ h => h) hKn hkC e1 hty).to hfs⟩ z1 o1)
theorem cn_newi (hx : p.tables.exec = Jvm.exec) (hb : c.code = cc) (harr : Kw (.arrayClass .int)) (hK : Kc E s) (hW : Cw E pre suf s H locs) (hn : pre.length = n) (j : Nat) (hj : suf.length = j) {i : Int32} {len : Nat} (hi : ¬ i < 0) (hlen : i.toNatClampNeg = len) (hb4 : len * 4 ≤ 536870912) (hs : suf ++ [.inl (eY E 0, len, .inl (fun _ => 0))] = suf') {k0 s0 : Nat} (hk0 : cells = k0) (hs0 : slots = s0) (hR : k0 + 1 ≤ R.cells ∧ s0 + len ≤ R.slots) (hdg : decode cc pc = .ok (.newarray .int, 2))
    (kk : ∀ H' : Heap, Cw E pre suf' s H' locs → W p l e R s m args below meth c H' locs (k0 + 1) (s0 + len) Q (F0 m (pc + 2) ls (.ref (eB E + (n + j)) :: rest))) : W p l e R s m args below meth c H locs cells slots Q (F0 m pc ls (.int i :: rest)) := by
  subst hk0; subst hs0
  have hsz : H.size = eB E + (n + j) := by rw [hW.1.1]; simp; omega
  refine va_newaK (atype := .int) hx hb (hK.2.1.at harr args) rfl hdg rfl hi hlen hb4 hR.1 hR.2 hsz fun H1 cA e1 z1 o1 _ hNm => ?_
  have hcA : cA = eY E 0 := by
    have h9 : s.vm.findClass ("[" ++ FieldType.int.toString) = some (eY E 0) := (hK.1.2 0 _ tys0).2
    exact Option.some.inj (hNm.symm.trans h9)
  subst hcA
  refine kk H1 (hW.push hs ?_ (by rw [z1, hsz]) (fun q hq => o1 q (by rw [← hsz]; exact hq)))
  show H1[H.size]? = some (vp_cell _ _)
  rw [vp_cell_i, hsz]
  exact e1
theorem cn_newz (hx : p.tables.exec = Jvm.exec) (hb : c.code = cc) (harr : Kw (.arrayClass .boolean)) (hK : Kc E s) (hW : Cw E pre suf s H locs) (hn : pre.length = n) (j : Nat) (hj : suf.length = j) {i : Int32} {len : Nat} (hi : ¬ i < 0) (hlen : i.toNatClampNeg = len) (hb4 : len * 1 ≤ 536870912) (hs : suf ++ [.inl (eY E 1, len, .inl (fun _ => 0))] = suf') {k0 s0 : Nat} (hk0 : cells = k0) (hs0 : slots = s0) (hR : k0 + 1 ≤ R.cells ∧ s0 + len ≤ R.slots) (hdg : decode cc pc = .ok (.newarray .boolean, 2))
    (kk : ∀ H' : Heap, Cw E pre suf' s H' locs → W p l e R s m args below meth c H' locs (k0 + 1) (s0 + len) Q (F0 m (pc + 2) ls (.ref (eB E + (n + j)) :: rest))) : W p l e R s m args below meth c H locs cells slots Q (F0 m pc ls (.int i :: rest)) := by
  subst hk0; subst hs0
  have hsz : H.size = eB E + (n + j) := by rw [hW.1.1]; simp; omega
  refine va_newaK (atype := .boolean) hx hb (hK.2.1.at harr args) rfl hdg rfl hi hlen hb4 hR.1 hR.2 hsz fun H1 cA e1 z1 o1 _ hNm => ?_
  have hcA : cA = eY E 1 := by
    have h9 : s.vm.findClass ("[" ++ FieldType.boolean.toString) = some (eY E 1) := (hK.1.2 1 _ tys1).2
    exact Option.some.inj (hNm.symm.trans h9)
  subst hcA
  refine kk H1 (hW.push hs ?_ (by rw [z1, hsz]) (fun q hq => o1 q (by rw [← hsz]; exact hq)))
  show H1[H.size]? = some (vp_cell _ _)
  rw [vp_cell_i, hsz]
  exact e1
theorem cn_newq (hx : p.tables.exec = Jvm.exec) (hb : c.code = cc) {own : String} {index : Nat} (hown : s.vm.findClass own = some m.cls) (hcl : Kw (.classLink own index RX4)) (hK : Kc E s) (hW : Cw E pre suf s H locs) (hn : pre.length = n) (j : Nat) (hj : suf.length = j) {i : Int32} {len : Nat} (hi : ¬ i < 0) (hlen : i.toNatClampNeg = len) (hb4 : len * 4 ≤ 536870912) (hs : suf ++ [.inl (eY E 2, len, .inr (.inr (.inr (.inr (fun _ => none)))))] = suf') {k0 s0 : Nat} (hk0 : cells = k0) (hs0 : slots = s0) (hR : k0 + 1 ≤ R.cells ∧ s0 + len ≤ R.slots) (hdg : decode cc pc = .ok (.anewarray index, 3))
    (kk : ∀ H' : Heap, Cw E pre suf' s H' locs → W p l e R s m args below meth c H' locs (k0 + 1) (s0 + len) Q (F0 m (pc + 3) ls (.ref (eB E + (n + j)) :: rest))) : W p l e R s m args below meth c H locs cells slots Q (F0 m pc ls (.int i :: rest)) := by
  subst hk0; subst hs0; subst hlen
  have hsz : H.size = eB E + (n + j) := by rw [hW.1.1]; simp; omega
  refine W.anew hx hb hown (hK.2.1.at hcl args) (va_AO.use hK.2.2.2) rfl hdg rfl hi hb4 hR.1 hR.2 fun cA kA comp f1 f2 f3 f4 => ?_
  have hcA : cA = eY E 2 := by
    obtain ⟨kA', comp', g1, g2, g3, g4⟩ := (hK.1.2 2 _ tys2).2
    exact Option.some.inj (f1.symm.trans g4)
  subst hcA
  rw [hsz]
  refine kk _ (hW.push hs ?_ (by rw [Array.size_push]) (fun q hq => by rw [Array.getElem?_push, if_neg (Nat.ne_of_lt hq)]))
  show (H.push _)[H.size]? = some (vp_cell _ _)
  rw [vp_cell_q, Array.getElem?_push_size, ← arrV_new]
  rfl
theorem cn_call (hx : p.tables.exec = Jvm.exec) (hb : c.code = cc) {nL : Nat} (hml : c.maxLocals = nL) (hsz : ls.size = nL) {own host : String} (hown : s.vm.findClass own = some m.cls) (hK : Kc E s) (hW : Cw E pre suf s H locs) {y : MethodName} {bytes : ByteArray} {nl idx fr lo mc ms : Nat} {pre2 suf2 suf2' : List va_E} {a : Nat} (hsplit : pre ++ suf = pre2 ++ suf2) (hjoin : pre2 ++ suf2' = pre ++ suf') (vb : CB y bytes nl none 0) (ki : Kw (.instanceMethod y)) (hy : y.name = "<init>") (kl : va_Nw (.methodLinkNest own idx y host) s)
    (hM : Met l y [.code y bytes nl none] (Rc fr lo mc ms) (va_Pc [.ref a] (Cd E pre2 suf2)) (Qc0 E pre2 suf2') mc ms (cP E)) (hroom : (rest.map fun v => v.category).sum ≤ 8) (hR : fr + 1 ≤ R.frames ∧ 8 + (nl + 11) + lo ≤ R.locals) {k0 s0 k1 s1 : Nat} (hk0 : cells = k0) (hs0 : slots = s0) (hk1 : k0 + mc = k1) (hs1 : s0 + ms = s1) (hcs : k1 ≤ R.cells ∧ s1 ≤ R.slots) (hdg : decode cc pc = .ok (.invokespecial idx, 3))
    (kk : ∀ (H' : Heap) (locs' : List Loc), Cw E pre suf' s H' locs' → W p l e R s m args below meth c H' locs' k1 s1 Q (F0 m (pc + 3) ls rest)) : W p l e R s m args below meth c H locs cells slots Q (F0 m pc ls (.ref a :: rest)) := by
  subst hk0; subst hs0; subst hk1; subst hs1
  have hp : PreS s H (va_Pc [.ref a] (Cd E pre2 suf2)) [.ref a] := ⟨fun _ _ _ _ h => ⟨h.1, h.2.call⟩, fun U hU hv => ⟨rfl, hK.warm hv, by rw [hU, ← hsplit]; exact hW.1⟩⟩
  have cw : va_CN R s args own idx y host bytes nl none [.code y bytes nl none] (Rc fr lo mc ms) mc ms 0 ∧ y.name = "<init>" ∧ (Cond.instanceMethod y).before args s = true :=
    ⟨⟨⟨rfl, rfl, hR.1, hR.2, vb.ws hK.2.1, List.mem_cons_self⟩, hK.2.1.at vb.2.1 args, hK.2.1.at vb.1 args, vb.2.2.1, vb.np, va_Nw.use rfl kl⟩, hy, hK.2.1.at ki args⟩
  exact va_callv (va_runIN (Ts := []) (own := own) (As := []) (rest := rest) ⟨hx, hb, hml, hown, fun _ h => nomatch h⟩ hM cw hp rfl rfl hsz rfl (lv_room hroom) hdg hcs) hW.2 (fun _ _ h => h) (fun _ h => h)
    (fun _ t H1 locs1 ht _ _ hB _ _ hS => kk H1 locs1 ⟨by rw [← ht, ← hjoin]; exact hB, hS⟩)
theorem cn_ret (hx : p.tables.exec = Jvm.exec) (hb : c.code = cc) (hr : meth.sig.returnType = none) (hlk : meth.locks = false) (hW : Cw E pre suf s H locs) {k0 s0 : Nat} (hk0 : cells = k0) (hs0 : slots = s0) (hdg : decode cc pc = .ok (.return_, 1)) : W p l e R s m args below meth c H locs cells slots (MQ below (Qc0 E pre suf) args s k0 s0 (cP E)) (F0 m pc ls []) := by
  subst hk0; subst hs0
  exact W.vret hx hb hr (fun t ht _ => ⟨⟨(), rfl, trivial, by show Pw E _ t.heap; rw [ht]; exact hW.1⟩, hW.2.F ht⟩) hW.2.2.2 hdg hlk
end CTOR
