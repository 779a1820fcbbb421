/-! THE ENTRY: the law's first steps -/
section EN
variable {p : Program} {l : Launch} {e : Env} {R : Room} {s : State} {m : MethodId} {args : Array Value} {below : List Frame} {meth : Method} {c : Code} {H : Heap} {locs : List Loc} {cells slots : Nat} {Q : State → Prop}
variable {cc : ByteArray} {pc : Nat} {ls : Array Slot} {rest : List Value} {E : En} {pre suf suf' : List va_E} {n : Nat}
theorem cn_callL (hx : p.tables.exec = Jvm.exec) (hb : c.code = cc) {nL : Nat} (hml : c.maxLocals = nL) (hsz : ls.size = nL) {own : String} (hown : s.vm.findClass own = some m.cls) (hK : Kc E s) (hW : Cw E pre suf s H locs) {y : MethodName} {bytes : ByteArray} {nl idx fr lo mc ms : Nat} {pre2 suf2 suf2' : List va_E} {a : Nat} (hsplit : pre ++ suf = pre2 ++ suf2) (hjoin : pre2 ++ suf2' = pre ++ suf') (vb : CB y bytes nl none 0) (ki : Kw (.instanceMethod y)) (hy : y.name = "<init>") (kl : Kw (.methodLink own idx y))
    (hM : Met l y [.code y bytes nl none] (Rc fr lo mc ms) (va_Pc [.ref a] (Cd E pre2 suf2)) (Qc0 E pre2 suf2') mc ms (cP E)) (hroom : (rest.map fun v => v.category).sum ≤ 8) (hR : fr + 1 ≤ R.frames ∧ 8 + (nl + 11) + lo ≤ R.locals) {k0 s0 k1 s1 : Nat} (hk0 : cells = k0) (hs0 : slots = s0) (hk1 : k0 + mc = k1) (hs1 : s0 + ms = s1) (hcs : k1 ≤ R.cells ∧ s1 ≤ R.slots) (hdg : decode cc pc = .ok (.invokespecial idx, 3))
    (kk : ∀ (H' : Heap) (locs' : List Loc), Cw E pre suf' s H' locs' → W p l e R s m args below meth c H' locs' k1 s1 Q (F0 m (pc + 3) ls rest)) : W p l e R s m args below meth c H locs cells slots Q (F0 m pc ls (.ref a :: rest)) := by
  subst hk0; subst hs0; subst hk1; subst hs1
  have hp : PreS s H (va_Pc [.ref a] (Cd E pre2 suf2)) [.ref a] := ⟨fun _ _ _ _ h => ⟨h.1, h.2.call⟩, fun U hU hv => ⟨rfl, hK.warm hv, by rw [hU, ← hsplit]; exact hW.1⟩⟩
  have cw : CallB R s args own idx y bytes nl none [.code y bytes nl none] (Rc fr lo mc ms) mc ms 0 ∧ y.name = "<init>" ∧ (Cond.instanceMethod y).before args s = true :=
    ⟨⟨rfl, rfl, hR.1, hR.2, vb.ws hK.2.1, List.mem_cons_self, hK.2.1.at vb.2.1 args, hK.2.1.at vb.1 args, vb.2.2.1, vb.np, hK.2.1.at kl args⟩, hy, hK.2.1.at ki args⟩
  exact va_callv (va_runI (Ts := []) (own := own) (As := []) (rest := rest) ⟨hx, hb, hml, hown, fun _ h => nomatch h⟩ hM cw hp rfl rfl hsz rfl (lv_room hroom) hdg hcs) hW.2 (fun _ _ h => h) (fun _ h => h)
    (fun _ t H1 locs1 ht _ _ hB _ _ hS => kk H1 locs1 ⟨by rw [← ht, ← hjoin]; exact hB, hS⟩)
theorem cn_newl (hx : p.tables.exec = Jvm.exec) (hb : c.code = cc) (harr : Kw (.arrayClass .long)) (hK : Kc E s) (hL : va_K (eD E) vwCl [(eY E 3, .long)] s) (hW : Cw E pre suf s H locs) (hn : pre.length = n) (j : Nat) (hj : suf.length = j) (hs : suf ++ [oE E 0] = suf') {k0 s0 : Nat} (hk0 : cells = k0) (hs0 : slots = s0) (hR : k0 + 1 ≤ R.cells ∧ s0 + 1 ≤ R.slots) (hdg : decode cc pc = .ok (.newarray .long, 2))
    (kk : ∀ H' : Heap, Cw E pre suf' s H' locs → W p l e R s m args below meth c H' locs (k0 + 1) (s0 + 1) Q (F0 m (pc + 2) ls (.ref (eB E + (n + j)) :: rest))) : W p l e R s m args below meth c H locs cells slots Q (F0 m pc ls (.int 1 :: rest)) := by
  subst hk0; subst hs0
  have hsz : H.size = eB E + (n + j) := by rw [hW.1.1]; simp; omega
  refine va_newaK (atype := .long) (N := 1) hx hb (hK.2.1.at harr args) rfl hdg rfl (by decide) (by decide) (by decide) hR.1 hR.2 hsz fun H1 cA e1 z1 o1 _ hNm => ?_
  have hcA : cA = eY E 3 := by
    have h9 : s.vm.findClass ("[" ++ FieldType.long.toString) = some (eY E 3) := (hL.2 0 _ rfl).2
    exact Option.some.inj (hNm.symm.trans h9)
  subst hcA
  refine kk H1 (hW.push hs ?_ (by rw [z1, hsz]) (fun q hq => o1 q (by rw [← hsz]; exact hq)))
  show H1[H.size]? = some (vp_cell _ _)
  rw [vp_cell_l, hsz]
  exact e1
end EN
