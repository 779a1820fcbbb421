section SSW
variable {p : Program} {l : Launch} {e : Env} {R : Room} {s : State} {m : MethodId} {args : Array Value} {below : List Frame} {meth : Method} {c : Code} {H : Heap} {locs : List Loc} {cells slots : Nat} {Q : State → Prop}
variable {cc : ByteArray} {pc : Nat} {ls : Array Slot} {rest : List Value}
theorem ss_ldcwF {T : State} (X : Stand p l e R s m args below meth c T locs cells slots) (hexec : p.tables.exec = Jvm.exec) {own : String} {index : Nat} {v : UInt32} (hown : s.vm.findClass own = some m.cls)
    (hconst : (Cond.constantFloat own index v).before args s = true) {g : JFrame} (hg : g.method = m) (hdg : decode c.code g.pc = .ok (.ldc_w index, 3)) :
    ∀ target, Steps p.tables e below (T.setTop { g with pc := g.pc + 3, stack := .float v :: g.stack }) target → Steps p.tables e below (T.setTop g) target := by
  obtain ⟨k, cf, hk, hcf, hcp⟩ := Cond.constantFloat_spec hown hconst
  obtain ⟨k', hk', he⟩ := X.warmed.alike.2.2 _ _ hk
  intro target hrest
  subst hg
  jvm_step X.here [hexec, hdg, ldc_w.wp_float (s := T) (f := g) X.here.top hk' (by rw [he]; exact hcf) hcp]
  exact hrest
theorem lv_ldcfw (hexec : p.tables.exec = Jvm.exec) (hb : c.code = cc) {own : String} {index : Nat} {v : UInt32} (hown : s.vm.findClass own = some m.cls) (hconst : (Jvm.Cond.constantFloat own index v).before args s = true) (hdg : decode cc pc = .ok (.ldc_w index, 3)) (k : W p l e R s m args below meth c H locs cells slots Q (F0 m (pc + 3) ls (.float v :: rest))) : W p l e R s m args below meth c H locs cells slots Q (F0 m pc ls rest) := by
  intro T hT X
  obtain ⟨t, a, b⟩ := k T hT X
  exact ⟨t, ss_ldcwF X hexec hown hconst (g := F0 m pc ls rest) rfl (by rw [hb]; exact hdg) t a, b⟩
end SSW
theorem kA_link : Kw (.methodLink RX6 385 arraycopyName) := ⟨List.mem_append_right _ (List.mem_of_getElem? (i := 333) (by decide +kernel)), by decide +kernel⟩
theorem kA_nat : Kw (.native arraycopyName) := ⟨List.mem_append_right _ (List.mem_of_getElem? (i := 335) (by decide +kernel)), by decide +kernel⟩
theorem kA_stat : Kw (.static arraycopyName) := ⟨List.mem_append_right _ (List.mem_of_getElem? (i := 334) (by decide +kernel)), by decide +kernel⟩
theorem kA_ini : Kw (.initialized "java/lang/System") := ⟨List.mem_append_right _ (List.mem_of_getElem? (i := 14) (by decide +kernel)), by decide +kernel⟩
set_option maxHeartbeats 4000000 in
set_option maxRecDepth 100000 in
/-- the rows are of one length here -/
theorem mX6_copyRow (l : Launch) {E : En} {σ μ : Sg} {dg : Int64} {q1 q2 n : Nat} (hq1 : okq E q1) (hq2 : okq E q2) (he1 : cellOf E σ μ dg q1 = .inl (eY E 0, n, .inl (σ q1))) (he2 : cellOf E σ μ dg q2 = .inl (eY E 0, n, .inl (σ q2))) (he3 : cellOf E (upR σ q2 (va_cpy (σ q1) (σ q2) 0 0 n)) μ dg q2 = .inl (eY E 0, n, .inl (va_cpy (σ q1) (σ q2) 0 0 n))) (hne : ∀ a, a < 103 → a ≠ q2 → cellOf E (upR σ q2 (va_cpy (σ q1) (σ q2) 0 0 n)) μ dg a = cellOf E σ μ dg a) (hn : n < 2 ^ 31) : Met l yX6_copyRow [.code yX6_copyRow cX6_copyRow 2 none] (Rm 1 60) (va_Pc [.ref (eA E q1), .ref (eA E q2)] (Wd E σ μ dg)) (Qv E (upR σ q2 (va_cpy (σ q1) (σ q2) 0 0 n)) μ dg) 0 0 (eP E) := by
  refine ss_of (by decide) (Nat.le_of_ble_eq_true rfl) (fun p e s m below meth c hx hb hr hlk hml hown hK hW ls hl => ?_)
  have hown : s.vm.findClass RX6 = some m.cls := hown
  have hl : lv_has ls 2 [(0, .ref (eA E q1)), (1, .ref (eA E q2))] := hl
  refine lv_aload_n hx hb dX6_copyRow_0 rfl (lv_at hl 0 rfl) ?_
  refine lv_iconst (v := 0) hx hb dX6_copyRow_1 (by decide) ?_
  refine lv_aload_n hx hb dX6_copyRow_2 rfl (lv_at hl 1 rfl) ?_
  refine lv_iconst (v := 0) hx hb dX6_copyRow_3 (by decide) ?_
  refine lv_aload_n hx hb dX6_copyRow_4 rfl (lv_at hl 0 rfl) ?_
  refine ss_alen hx hb hK hW (t := 0) hq1 he1 rfl (v := nI n) rfl dX6_copyRow_5 ?_
  refine lv_aload_n hx hb dX6_copyRow_6 rfl (lv_at hl 1 rfl) ?_
  refine ss_alen hx hb hK hW (t := 0) hq2 he2 rfl (v := nI n) rfl dX6_copyRow_7 ?_
  refine ss_min hx hb hml hl.1 hown hK kM_RX6_373 kMs_min kMi kMc_min ⟨Nat.le_of_ble_eq_true rfl, Nat.le_of_ble_eq_true rfl⟩ ⟨Nat.zero_le _, Nat.zero_le _⟩ dX6_copyRow_8 ?_
  rw [if_neg (show ¬ nI n < nI n from Int32.lt_irrefl)]
  have hc : (nI n).toNatClampNeg = n := nI_clamp hn
  have h0 : ((0 : Int32).toNatClampNeg) = 0 := by decide
  refine va_copyi hx hb (hml.trans hl.1.symm) hown (hK.2.1.at kA_link _) (hK.2.1.at kA_nat _) (hK.2.1.at kA_stat _) (hK.2.1.at kA_ini _) hK.1 hW.1 (hK.2.2.1.D σ μ dg) hW.2 (ix q1) (ix q2) 0 0 (ws_at hq1 he1) (ws_at hq2 he2) tys0 tys0 rfl (by decide) (by decide) (nI_pos hn) (by rw [hc, h0]; omega) (by rw [hc, h0]; omega) (fun _ _ => rfl) (Nat.le_of_ble_eq_true rfl) (Nat.le_of_ble_eq_true rfl) dX6_copyRow_11 (fun H locs h1 _ h3 => ?_)
  rw [hc, h0, ws_set hq2 he3 hne hK.2.2.1.2] at h1
  exact ss_vret hx hb hr hlk ⟨h1, h3⟩ dX6_copyRow_14
