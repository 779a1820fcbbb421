/-! THE WORLD: the class's cells at places; ints in a store of places and slots -/
abbrev En : Type := va_G × (Nat → ClassId) × (Nat → Nat) × Nat × Nat × (Nat → Nat) × Nat
abbrev eD (E : En) : va_G := E.1
abbrev eY (E : En) : Nat → ClassId := E.2.1
abbrev eA (E : En) : Nat → Nat := E.2.2.1
abbrev eB (E : En) : Nat := E.2.2.2.1
abbrev eT (E : En) : Nat := E.2.2.2.2.1
abbrev eS (E : En) : Nat → Nat := E.2.2.2.2.2.1
/-- 1 where the law's own row of 64 ints is there (place 92), otherwise 0 -/
abbrev eX (E : En) : Nat := E.2.2.2.2.2.2
abbrev eP (E : En) : Nat → Prop := fun q => eB E ≤ q
abbrev okq (E : En) (q : Nat) : Prop := q ≠ 9 ∧ q < 92 + eX E
theorem okq_lt {E : En} {q : Nat} (h : q ≠ 9 ∧ q < 92) : okq E q := ⟨h.1, by have := h.2; omega⟩
theorem okq_92 {E : En} (h : eX E = 1) : okq E 92 := ⟨by decide, by omega⟩
abbrev Sg : Type := Nat → Nat → Int32
def up2 (σ : Sg) (q k : Nat) (v : Int32) : Sg := fun a => if a = q then upd (σ q) k v else σ a
theorem up2_self (σ : Sg) (q k : Nat) (v : Int32) : up2 σ q k v q = upd (σ q) k v := if_pos rfl
theorem up2_ne {σ : Sg} {q k a : Nat} {v : Int32} (h : a ≠ q) : up2 σ q k v a = σ a := if_neg h
/-- a whole row anew -/
def upR (σ : Sg) (q : Nat) (f : Nat → Int32) : Sg := fun a => if a = q then f else σ a
theorem upR_self (σ : Sg) (q : Nat) (f : Nat → Int32) : upR σ q f q = f := if_pos rfl
theorem upR_ne {σ : Sg} {q a : Nat} {f : Nat → Int32} (h : a ≠ q) : upR σ q f a = σ a := if_neg h
def cSt (E : En) (σ : Sg) (b : Nat) : Nat → va_E
  | 0 => .inr (4, [.int (σ b 0), .ref (eA E (b + 1)), .ref (eA E (b + 2)), .int (σ b 3), .ref (eA E (b + 3)), .ref (eA E (b + 4)), .ref (eA E (b + 5)), .ref (eA E (b + 6)), .ref (eA E (b + 7)), .int (σ b 9), .int (σ b 10)])
  | 1 => .inl (eY E 0, 64, .inl (σ (b + 1)))
  | 2 => .inl (eY E 0, 3, .inl (σ (b + 2)))
  | 3 => .inl (eY E 0, 32, .inl (σ (b + 3)))
  | 4 => .inl (eY E 0, 32, .inl (σ (b + 4)))
  | 5 => .inl (eY E 1, 32, .inl (σ (b + 5)))
  | 6 => .inl (eY E 0, 64, .inl (σ (b + 6)))
  | _ => .inl (eY E 0, 64, .inl (σ (b + 7)))
def cWk (_ : En) (σ : Sg) (b : Nat) : va_E := .inr (5, [.int (σ b 0), .int (σ b 1)])
def cDc (E : En) (σ : Sg) (b w : Nat) : Nat → va_E
  | 0 => .inr (2, [.ref (eA E (b + 1)), .ref (eA E (b + 2)), .ref (eA E w), .int (σ b 3)])
  | 1 => .inl (eY E 0, 64, .inl (σ (b + 1)))
  | _ => .inl (eY E 0, 64, .inl (σ (b + 2)))
def cFx (E : En) (σ μ : Sg) (dg : Int64) : Nat → va_E
  | 0 => .inr (6, [.ref (eA E 10), .ref (eA E 1), .ref (eA E 3), .ref (eA E 4), .ref (eA E 5), .ref (eA E 8), .ref (eA E 86), .ref (eA E 89), .ref (eA E 85)])
  | 1 => .inr (3, [.ref (eA E 2), .int (σ 1 1)])
  | 2 => .inl (eY E 2, 6, .inr (.inr (.inr (.inr (fun k => some (eA E (10 + 8 * (σ 2 k).toNatClampNeg)))))))
  | 3 => .inl (eY E 2, 2, .inr (.inr (.inr (.inr (fun k => some (eA E (10 + 8 * (1 + k))))))))
  | 4 => .inl (eY E 1, 2, .inl (σ 4))
  | 5 => .inr (0, [.ref (eA E 6), .int (σ 5 1), .int (σ 5 2), .int (σ 5 3), .ref (eA E 7), .int (σ 5 5), .int (σ 5 6), .int (σ 5 7), .int (σ 5 8), .int (σ 5 9)])
  | 6 => .inl (eY E 0, 40, .inl (σ 6))
  | 7 => .inl (eY E 0, 15, .inl (σ 7))
  | _ => .inr (1, [.ref (eA E 82)])
def cMd (E : En) (σ : Sg) (q : Nat) : va_E := .inl (eY E 0, 64, .inl (σ q))
def cellOf (E : En) (σ μ : Sg) (dg : Int64) (q : Nat) : va_E :=
  if q < 10 then cFx E σ μ dg q
  else if q < 82 then cSt E σ (10 + 8 * ((q - 10) / 8)) ((q - 10) % 8)
  else if q < 86 then cWk E σ q
  else if q < 92 then cDc E σ (86 + 3 * ((q - 86) / 3)) (82 + (1 + (q - 86) / 3)) ((q - 86) % 3)
  else cMd E σ q
theorem c_fx {E : En} {σ μ : Sg} {dg : Int64} {q : Nat} (h : q < 10) : cellOf E σ μ dg q = cFx E σ μ dg q := if_pos h
theorem c_st {E : En} {σ μ : Sg} {dg : Int64} {i : Nat} (hi : i < 9) (j : Nat) (hj : j < 8) : cellOf E σ μ dg (10 + 8 * i + j) = cSt E σ (10 + 8 * i) j := by
  have h1 : (10 + 8 * i + j - 10) / 8 = i := by omega
  have h2 : (10 + 8 * i + j - 10) % 8 = j := by omega
  unfold cellOf
  rw [if_neg (by omega), if_pos (by omega), h1, h2]
theorem c_wk {E : En} {σ μ : Sg} {dg : Int64} {w : Nat} (hw : w < 4) : cellOf E σ μ dg (82 + w) = cWk E σ (82 + w) := by
  unfold cellOf
  rw [if_neg (by omega), if_neg (by omega), if_pos (by omega)]
theorem c_dc {E : En} {σ μ : Sg} {dg : Int64} {d : Nat} (hd : d < 2) (j : Nat) (hj : j < 3) : cellOf E σ μ dg (86 + 3 * d + j) = cDc E σ (86 + 3 * d) (82 + (1 + d)) j := by
  have h1 : (86 + 3 * d + j - 86) / 3 = d := by omega
  have h2 : (86 + 3 * d + j - 86) % 3 = j := by omega
  unfold cellOf
  rw [if_neg (by omega), if_neg (by omega), if_neg (by omega), if_pos (by omega), h1, h2]
theorem c_md {E : En} {σ μ : Sg} {dg : Int64} (j : Nat) : cellOf E σ μ dg (92 + j) = cMd E σ (92 + j) := by
  unfold cellOf
  rw [if_neg (by omega), if_neg (by omega), if_neg (by omega), if_neg (by omega)]
theorem c_ma {E : En} {σ μ : Sg} {dg : Int64} : cellOf E σ μ dg 92 = .inl (eY E 0, 64, .inl (σ 92)) := c_md 0
theorem c_congr {E : En} {σ σ' μ : Sg} {dg : Int64} {k : Nat} (h : σ' k = σ k) : cellOf E σ' μ dg k = cellOf E σ μ dg k := by
  by_cases h1 : k < 10
  · rw [c_fx h1, c_fx h1]
    rcases (show k = 0 ∨ k = 1 ∨ k = 2 ∨ k = 3 ∨ k = 4 ∨ k = 5 ∨ k = 6 ∨ k = 7 ∨ k = 8 ∨ k = 9 by omega) with rfl | rfl | rfl | rfl | rfl | rfl | rfl | rfl | rfl | rfl <;> simp only [cFx, h]
  · by_cases h2 : k < 82
    · obtain ⟨i, j, hj, rfl⟩ : ∃ i j, j < 8 ∧ k = 10 + 8 * i + j := ⟨(k - 10) / 8, (k - 10) % 8, by omega, by omega⟩
      rw [c_st (by omega) j hj, c_st (by omega) j hj]
      rcases (show j = 0 ∨ j = 1 ∨ j = 2 ∨ j = 3 ∨ j = 4 ∨ j = 5 ∨ j = 6 ∨ j = 7 by omega) with rfl | rfl | rfl | rfl | rfl | rfl | rfl | rfl <;> simp only [cSt, Nat.add_zero] at h ⊢ <;> simp only [h]
    · by_cases h3 : k < 86
      · obtain ⟨w, rfl⟩ : ∃ w, k = 82 + w := ⟨k - 82, by omega⟩
        rw [c_wk (by omega), c_wk (by omega)]
        simp only [cWk, h]
      · by_cases h4 : k < 92
        · obtain ⟨d, j, hj, rfl⟩ : ∃ d j, j < 3 ∧ k = 86 + 3 * d + j := ⟨(k - 86) / 3, (k - 86) % 3, by omega, by omega⟩
          rw [c_dc (by omega) j hj, c_dc (by omega) j hj]
          rcases (show j = 0 ∨ j = 1 ∨ j = 2 by omega) with rfl | rfl | rfl <;> simp only [cDc, Nat.add_zero] at h ⊢ <;> simp only [h]
        · obtain ⟨j, rfl⟩ : ∃ j, k = 92 + j := ⟨k - 92, by omega⟩
          rw [c_md, c_md]
          simp only [cMd, h]
theorem c_up2 {E : En} {σ μ : Sg} {dg : Int64} {q s : Nat} {v : Int32} {k : Nat} (h : k ≠ q) : cellOf E (up2 σ q s v) μ dg k = cellOf E σ μ dg k := c_congr (up2_ne h)
theorem c_upR {E : En} {σ μ : Sg} {dg : Int64} {q : Nat} {f : Nat → Int32} {k : Nat} (h : k ≠ q) : cellOf E (upR σ q f) μ dg k = cellOf E σ μ dg k := c_congr (upR_ne h)
/-- places in the world's list: no 9 -/
def pl (i : Nat) : Nat := if i < 9 then i else i + 1
def ix (q : Nat) : Nat := if q < 9 then q else q - 1
theorem pl_ix {q : Nat} (h : q ≠ 9) : pl (ix q) = q := by
  unfold pl ix
  by_cases h1 : q < 9
  · rw [if_pos h1, if_pos h1]
  · rw [if_neg h1, if_neg (by omega)]
    omega
theorem ix_pl (i : Nat) : ix (pl i) = i := by
  unfold pl ix
  by_cases h1 : i < 9
  · rw [if_pos h1, if_pos h1]
  · rw [if_neg h1, if_neg (by omega)]
    omega
theorem pl_ok {E : En} {i : Nat} (h : i < 91 + eX E) : okq E (pl i) := by
  unfold pl
  by_cases h1 : i < 9
  · rw [if_pos h1]
    exact ⟨by omega, by omega⟩
  · rw [if_neg h1]
    exact ⟨by omega, by omega⟩
theorem ix_ok {E : En} {q : Nat} (h : okq E q) : ix q < 91 + eX E := by
  obtain ⟨h1, h2⟩ := h
  unfold ix
  by_cases h3 : q < 9
  · rw [if_pos h3]
    omega
  · rw [if_neg h3]
    omega
def wsOf (E : En) (σ μ : Sg) (dg : Int64) : va_W := (List.range (91 + eX E)).map (fun i => (eA E (pl i), cellOf E σ μ dg (pl i)))
theorem ws_get {E : En} {σ μ : Sg} {dg : Int64} {q : Nat} (hq : okq E q) : (wsOf E σ μ dg)[ix q]? = some (eA E q, cellOf E σ μ dg q) := by
  unfold wsOf
  rw [List.getElem?_map, List.getElem?_range (ix_ok hq)]
  show some (eA E (pl (ix q)), cellOf E σ μ dg (pl (ix q))) = _
  rw [pl_ix hq.1]
theorem ws_at {E : En} {σ μ : Sg} {dg : Int64} {q : Nat} {z : va_E} (hq : okq E q) (h : cellOf E σ μ dg q = z) : (wsOf E σ μ dg)[ix q]? = some (eA E q, z) := by rw [ws_get hq, h]
theorem ws_len (E : En) (σ μ : Sg) (dg : Int64) : (wsOf E σ μ dg).length = 91 + eX E := by simp [wsOf]
theorem ws_by {E : En} {σ μ : Sg} {dg : Int64} {k : Nat} (hk : k < 91 + eX E) : (wsOf E σ μ dg)[k]? = some (eA E (pl k), cellOf E σ μ dg (pl k)) := by
  have h := ws_get (σ := σ) (μ := μ) (dg := dg) (pl_ok hk)
  rw [ix_pl] at h
  exact h
theorem ws_set {E : En} {σ μ σ' μ' : Sg} {dg dg' : Int64} {q : Nat} {z : va_E} (hq : okq E q) (hz : cellOf E σ' μ' dg' q = z) (hne : ∀ k, k < 103 → k ≠ q → cellOf E σ' μ' dg' k = cellOf E σ μ dg k) (hx : eX E ≤ 1) : (wsOf E σ μ dg).set (ix q) (eA E q, z) = wsOf E σ' μ' dg' := by
  apply List.ext_getElem?
  intro k
  by_cases hk : k < 91 + eX E
  · by_cases hkq : k = ix q
    · subst hkq
      rw [List.getElem?_set_self (by rw [ws_len]; exact hk), ws_get hq, hz]
    · have h3 := (pl_ok hk).2
      rw [List.getElem?_set_ne (Ne.symm hkq), ws_by hk, ws_by hk, hne (pl k) (by omega) (fun e => hkq (by rw [← e, ix_pl]))]
  · rw [List.getElem?_eq_none (by rw [List.length_set, ws_len]; omega), List.getElem?_eq_none (by rw [ws_len]; omega)]
abbrev tyOf (E : En) : List (ClassId × FieldType) := [(eY E 0, .int), (eY E 1, .boolean), (eY E 2, .object RX4)]
/-- the tables' words -/
def Tb (s : State) : Prop := ∀ w ∈ lw_tbl, goodWord w = true → w.before #[] s = true
def Kw (w : Cond) : Prop := w ∈ lw_tbl ∧ goodWord w = true
theorem Tb.at {s : State} (h : Tb s) {w : Cond} (k : Kw w) (a : Array Value) : w.before a s = true := word_at (State.WarmedH.refl s) (good_of_word k.2) (h w k.1 k.2)
theorem Tb.warm {s U : State} (hW : s.WarmedH U.vm) (h : Tb s) : Tb U := fun w hm hg => word_at hW (good_of_word hg) (h w hm hg)
def Gd (E : En) : Prop := ((∀ i j, okq E i → okq E j → eA E i = eA E j → i = j) ∧ ∀ i, okq E i → eP E (eA E i)) ∧ eX E ≤ 1
theorem Gd.D {E : En} (h : Gd E) (σ μ : Sg) (dg : Int64) : va_D (eP E) (wsOf E σ μ dg) := by
  have key : ∀ (k : Nat) (q : Nat × va_E), (wsOf E σ μ dg)[k]? = some q → k < 91 + eX E ∧ q.1 = eA E (pl k) := by
    intro k q hk
    have hl := (List.getElem?_eq_some_iff.mp hk).1
    rw [ws_len] at hl
    rw [ws_by hl] at hk
    cases hk
    exact ⟨hl, rfl⟩
  refine ⟨fun i j p q hi hj e => ?_, fun k q hk => ?_⟩
  · obtain ⟨h1, e1⟩ := key i p hi
    obtain ⟨h2, e2⟩ := key j q hj
    have h3 := h.1.1 _ _ (pl_ok h1) (pl_ok h2) (by rw [← e1, ← e2]; exact e)
    rw [← ix_pl i, ← ix_pl j, h3]
  · obtain ⟨h1, e1⟩ := key k q hk
    show eP E q.1
    rw [e1]
    exact h.1.2 _ (pl_ok h1)
def stepsL : List Int32 := [7, 8, 9, 10, 12, 14, 16, 18, 20, 23, 26, 29, 32, 36, 40, 45, 50, 56, 62, 69, 76, 84, 93, 103, 114, 126, 139, 153, 169, 186, 205, 226, 249, 274, 302, 333, 367, 404, 445, 490, 540, 595, 655, 721, 794, 874, 962, 1059, 1165]
def nwL : List Cond := [.methodLinkNest RX5 35 yX6_clip RX6, .methodLinkNest RX4 47 yX6_copyRow RX6, .declares ⟨"java/lang/RuntimeException", "<init>", "(Ljava/lang/String;)V"⟩, .declares ⟨"java/lang/Exception", "<init>", "(Ljava/lang/String;)V"⟩, .declares ⟨"java/lang/Throwable", "<init>", "(Ljava/lang/String;)V"⟩, .castable "java/lang/IllegalArgumentException" "java/lang/IllegalArgumentException", .castable "java/lang/IndexOutOfBoundsException" "java/lang/IndexOutOfBoundsException", .castable "java/lang/IllegalStateException" "java/lang/IllegalStateException"]
theorem nw_warm {s U : State} (hW : s.WarmedH U.vm) : ∀ w ∈ nwL, va_Nw w s → va_Nw w U := by
  intro w hw h
  simp only [nwL, List.mem_cons, List.not_mem_nil, or_false] at hw
  rcases hw with rfl | rfl | rfl | rfl | rfl | rfl | rfl | rfl
  · exact h.warmM hW
  · exact h.warmM hW
  · exact h.warmD hW
  · exact h.warmD hW
  · exact h.warmD hW
  · exact h.warmC hW
  · exact h.warmC hW
  · exact h.warmC hW
/-- what the run finds of statics, texts and nest mates -/
def Zs (strs : List (Nat × String)) (E : En) (U : State) (H : Heap) : Prop :=
  (va_Z RX5 "STEPS" "[I" (.ref (eT E)) (eP E) U H ∧ va_T .int (eT E) 49 (fun k => .int (stepsL.getD k 0)) (eP E) U H) ∧
  (vx_Zq Bundle.tN "UNASSIGNED_STACK" Bundle.steD (eP E) U H ∧ vx_Zq Bundle.tN "SUPPRESSED_SENTINEL" Bundle.listD (eP E) U H) ∧
  ((∀ w ∈ nwL, va_Nw w U) ∧ True) ∧
  ∀ q ∈ strs, vk_R RX6 q.1 q.2 (eS E q.1) U
theorem Zs.next {strs : List (Nat × String)} {E : En} {s U : State} {H : Heap} (h : Zs strs E s s.heap) (hW : s.WarmedH U.vm) (hU : U.heap = H) (hk : ∀ a : Nat, a < s.heap.size → ¬ eP E a → H[a]? = s.heap[a]?) : Zs strs E U U.heap := by
  rw [hU]
  obtain ⟨⟨h1, h2⟩, ⟨h3, h4⟩, ⟨h5, h6⟩, h7⟩ := h
  exact ⟨⟨va_Z.moved hW.alike (h1.kept hk), va_T.moved hW.alike (h2.kept hk)⟩, ⟨vx_Zq.moved hW.alike (h3.kept hk), vx_Zq.moved hW.alike (h4.kept hk)⟩, ⟨fun w hw => nw_warm hW w hw (h5 w hw), trivial⟩, fun q hq => vk_R.warm hW (h7 q hq)⟩
theorem Zs.call {strs : List (Nat × String)} {E : En} {U : State} {g : JFrame} {mk : MethodId} {a : Array Value} (h : Zs strs E U U.heap) : Zs strs E (U.calling g mk a) (U.calling g mk a).heap := Zs.next (U := U.calling g mk a) h (State.WarmedH.refl U) rfl (fun _ _ _ => rfl)
def strs : List (Nat × String) := [(64, "a wave has 1 to 64 samples"), (101, "a kind is 0 to 2"), (103, "a height is 0 to 2047"), (105, "a period is 1 to 64"), (371, "a slot is 0 or 1"), (233, "there is no snapshot in the slot"), (236, "there is no saved state"), (276, "no such number"), (86, "no such sample"), (249, "no such property"), (92, "a sample is -2048 to 2047"), (142, "no such setting"), (150, "the value is out of the setting's range"), (360, "no such block"), (365, "no such sample, or it has no code"), (367, "a bit is 0 to 3"), (209, "the buffer does not tell such a block"), (369, "there are not all these samples"), (286, "a step's number is 0 to 48")]
/-- what stays as it is all through a method -/
def Ks (E : En) (s : State) : Prop := va_K (eD E) vwCl (tyOf E) s ∧ Tb s ∧ Gd E ∧ Zs strs E s s.heap
/-- the world that a method is called in -/
def Wd (E : En) (σ μ : Sg) (dg : Int64) (U : State) : Prop := Ks E U ∧ va_P (eD E) vwCl (wsOf E σ μ dg) U.heap
/-- the heap as the walk has left it -/
def Wk (E : En) (σ μ : Sg) (dg : Int64) (s : State) (H : Heap) (locs : List Loc) : Prop := va_P (eD E) vwCl (wsOf E σ μ dg) H ∧ va_S (eP E) s.heap H locs
def Wp (E : En) (σ μ : Sg) (dg : Int64) (t : State) : Prop := va_P (eD E) vwCl (wsOf E σ μ dg) t.heap
theorem Wd.call {E : En} {σ μ : Sg} {dg : Int64} {U : State} {g : JFrame} {mk : MethodId} {a : Array Value} (h : Wd E σ μ dg U) : Wd E σ μ dg (U.calling g mk a) := by
  obtain ⟨⟨h1, h2, h3, h4⟩, h5⟩ := h
  exact ⟨⟨va_K.moved (u := U) (U := U.calling g mk a) (Vm.Alike.refl U.vm) h1, Tb.warm (U := U.calling g mk a) (State.WarmedH.refl U) h2, h3, h4.call⟩, h5⟩
theorem Wd.next {E : En} {σ μ : Sg} {dg : Int64} {s U : State} {H : Heap} {locs : List Loc} (hK : Ks E s) (hW : Wk E σ μ dg s H locs) (hU : U.heap = H) (hv : s.WarmedH U.vm) : Wd E σ μ dg U := by
  obtain ⟨h1, h2, h3, h4⟩ := hK
  exact ⟨⟨va_K.moved hv.alike h1, h2.warm hv, h3, h4.next hv hU hW.2.2.1⟩, by rw [hU]; exact hW.1⟩
/-- the head of a method -/
theorem ss_of {E : En} {σ μ : Sg} {dg : Int64} {l : Launch} {y : MethodName} {cc : ByteArray} {n : Nat} {ret : Option FieldType} {rm : Room} {av : List Value} {Qc : Array Value → State → Outcome → State → Prop} {mc ms : Nat} {free : Addr → Prop} (hy : plainName y.cls = true) (hn : (lg_sl av).length ≤ n)
    (body : ∀ (p : Program) (e : Env) (s : State) (m : MethodId) (below : List Frame) (meth : Method) (c : Code), p.tables.exec = Jvm.exec → c.code = cc → meth.sig.returnType = ret → meth.locks = false → c.maxLocals = n → s.vm.findClass y.cls = some m.cls → Ks E s → Wk E σ μ dg s s.heap [] →
      ∀ ls : Array Slot, lv_has ls n (lv_args 0 av) → W p l e rm s m av.toArray below meth c s.heap [] 0 0 (MQ below Qc av.toArray s mc ms free) (F0 m 0 ls [])) : Met l y [.code y cc n ret] rm (va_Pc av (Wd E σ μ dg)) Qc mc ms free := by
  refine Met.ofW (cc := cc) (maxL := n) (ret := ret) hy rfl ?_
  intro p e s m args below meth c s₁ B hml hv
  obtain ⟨rfl, hK, hP⟩ := hv
  rw [lg_entry_eq]
  exact body p e s m below meth c B.exec B.bytes B.returns B.notSynchronized hml (findClass_of_methodNamed B.named) hK ⟨hP, va_S.rf⟩ _ (lv_entry av hn)
section SSR
variable {p : Program} {l : Launch} {e : Env} {R : Room} {s : State} {m : MethodId} {args : Array Value} {below : List Frame} {meth : Method} {c : Code} {H : Heap} {locs : List Loc} {cells slots : Nat} {Q : State → Prop}
variable {cc : ByteArray} {pc : Nat} {ls : Array Slot} {rest : List Value} {E : En} {σ μ : Sg} {dg : Int64}
/-- getfield -/
theorem ss_get (hx : p.tables.exec = Jvm.exec) (hb : c.code = cc) {own : String} (hown : s.vm.findClass own = some m.cls) (hK : Ks E s) (hW : Wk E σ μ dg s H locs) {C : String} {T : u_T} {N ci index q k : Nat} {fs : List Value} {v : Value}
    (hin : ∀ w ∈ u_ws C T N, Kw w) (hc : vwCl[ci]? = some (C, T, N)) (hk : k < N) (hq : okq E q) (he : cellOf E σ μ dg q = .inr (ci, fs)) (hv : fs[k]? = some v) (hl : Kw (.fieldLink own index (T k).1 (T k).2.1 (T k).2.2.1)) (hdg : decode cc pc = .ok (.getfield index, 3))
    (kk : W p l e R s m args below meth c H locs cells slots Q (F0 m (pc + 3) ls (v :: rest))) : W p l e R s m args below meth c H locs cells slots Q (F0 m pc ls (.ref (eA E q) :: rest)) :=
  va_get (C := C) (T := T) (N := N) (Ts := u_ws C T N) hx hb (fun w h => hK.2.1.at (hin w h) args) (fun _ h => h) hown hK.1 hW.1 (ix q) (ws_at hq he) hc k hk (hK.2.1.at hl args) (fun _ h => h) hv hdg kk
/-- putfield -/
theorem ss_put (hx : p.tables.exec = Jvm.exec) (hb : c.code = cc) {own : String} (hown : s.vm.findClass own = some m.cls) (hK : Ks E s) (hW : Wk E σ μ dg s H locs) {C : String} {T : u_T} {N ci index q k : Nat} {fs : List Value} {v : Value} {ty0 : Nat → FieldType} {σ' μ' : Sg} {dg' : Int64}
    (hin : ∀ w ∈ u_ws C T N, Kw w) (hty : ∀ k, k < N → parseFieldDescriptor (T k).2.2.1 = some (ty0 k)) (hnm : ∀ a, a < N → ∀ b, b < N → a ≠ b → (T a).2.1 ≠ (T b).2.1) (hc : vwCl[ci]? = some (C, T, N)) (hk : k < N) (hq : okq E q) (he : cellOf E σ μ dg q = .inr (ci, fs)) (hkl : k < fs.length)
    (he' : cellOf E σ' μ' dg' q = .inr (ci, fs.set k v)) (hne : ∀ a, a < 103 → a ≠ q → cellOf E σ' μ' dg' a = cellOf E σ μ dg a) (hfin : (T k).2.2.2 = false) (hn : narrow (ty0 k) v = v) (hfit : fits (ty0 k) v = true) (hl : Kw (.fieldLink own index (T k).1 (T k).2.1 (T k).2.2.1)) (hdg : decode cc pc = .ok (.putfield index, 3))
    (kk : ∀ (H' : Heap) (locs' : List Loc), Wk E σ' μ' dg' s H' locs' → W p l e R s m args below meth c H' locs' cells slots Q (F0 m (pc + 3) ls rest)) : W p l e R s m args below meth c H locs cells slots Q (F0 m pc ls (v :: .ref (eA E q) :: rest)) := by
  refine va_put (C := C) (T := T) (N := N) (Ts := u_ws C T N) hx hb (fun w h => hK.2.1.at (hin w h) args) (fun _ h => h) ty0 hty hnm hown hK.1 hW.1 (hK.2.2.1.D σ μ dg) hW.2 (ix q) (ws_at hq he) hc k hk (hK.2.1.at hl args) (fun _ h => h) hfin (hty k hk) hn hfit hkl hdg (fun H' locs' h1 _ h3 => kk H' locs' ⟨?_, h3⟩)
  rw [ws_set hq he' hne hK.2.2.1.2] at h1
  exact h1
theorem tys0 {E : En} : (tyOf E)[0]? = some (eY E 0, .int) := rfl
theorem tys1 {E : En} : (tyOf E)[1]? = some (eY E 1, .boolean) := rfl
theorem tys2 {E : En} : (tyOf E)[2]? = some (eY E 2, .object RX4) := rfl
theorem ss_iald (hx : p.tables.exec = Jvm.exec) (hb : c.code = cc) (hK : Ks E s) (hW : Wk E σ μ dg s H locs) {q n : Nat} {f : Nat → Int32} (hq : okq E q) (he : cellOf E σ μ dg q = .inl (eY E 0, n, .inl f)) {i : Int32} (hin : vp_in i n) (hdg : decode cc pc = .ok (.iaload, 1))
    (kk : W p l e R s m args below meth c H locs cells slots Q (F0 m (pc + 1) ls (.int (f i.toNatClampNeg) :: rest))) : W p l e R s m args below meth c H locs cells slots Q (F0 m pc ls (.int i :: .ref (eA E q) :: rest)) :=
  va_iald hx hb hK.1 hW.1 (ix q) 0 (ws_at hq he) tys0 hin hdg kk
theorem ss_zald (hx : p.tables.exec = Jvm.exec) (hb : c.code = cc) (hK : Ks E s) (hW : Wk E σ μ dg s H locs) {q n : Nat} {f : Nat → Int32} (hq : okq E q) (he : cellOf E σ μ dg q = .inl (eY E 1, n, .inl f)) {i : Int32} (hin : vp_in i n) (hdg : decode cc pc = .ok (.baload, 1))
    (kk : W p l e R s m args below meth c H locs cells slots Q (F0 m (pc + 1) ls (.int (f i.toNatClampNeg) :: rest))) : W p l e R s m args below meth c H locs cells slots Q (F0 m pc ls (.int i :: .ref (eA E q) :: rest)) :=
  va_zald hx hb hK.1 hW.1 (ix q) 1 (ws_at hq he) tys1 hin hdg kk
theorem ss_iast (hx : p.tables.exec = Jvm.exec) (hb : c.code = cc) (hK : Ks E s) (hW : Wk E σ μ dg s H locs) {q n : Nat} {f : Nat → Int32} {σ' μ' : Sg} {i x : Int32} (hq : okq E q) (he : cellOf E σ μ dg q = .inl (eY E 0, n, .inl f)) (he' : cellOf E σ' μ' dg q = .inl (eY E 0, n, .inl (upd f i.toNatClampNeg x))) (hne : ∀ a, a < 103 → a ≠ q → cellOf E σ' μ' dg a = cellOf E σ μ dg a) (hin : vp_in i n) (hdg : decode cc pc = .ok (.iastore, 1))
    (kk : ∀ (H' : Heap) (locs' : List Loc), Wk E σ' μ' dg s H' locs' → W p l e R s m args below meth c H' locs' cells slots Q (F0 m (pc + 1) ls rest)) : W p l e R s m args below meth c H locs cells slots Q (F0 m pc ls (.int x :: .int i :: .ref (eA E q) :: rest)) := by
  refine va_iast hx hb hK.1 hW.1 (hK.2.2.1.D σ μ dg) hW.2 (ix q) 0 (ws_at hq he) tys0 hin hdg (fun H' locs' h1 _ h3 => kk H' locs' ⟨?_, h3⟩)
  rw [ws_set hq he' hne hK.2.2.1.2] at h1
  exact h1
theorem ss_zast (hx : p.tables.exec = Jvm.exec) (hb : c.code = cc) (hK : Ks E s) (hW : Wk E σ μ dg s H locs) {q n : Nat} {f : Nat → Int32} {σ' μ' : Sg} {i x : Int32} (hq : okq E q) (he : cellOf E σ μ dg q = .inl (eY E 1, n, .inl f)) (he' : cellOf E σ' μ' dg q = .inl (eY E 1, n, .inl (upd f i.toNatClampNeg x))) (hne : ∀ a, a < 103 → a ≠ q → cellOf E σ' μ' dg a = cellOf E σ μ dg a) (hin : vp_in i n) (hbx : vp_nar .boolean x = x) (hdg : decode cc pc = .ok (.bastore, 1))
    (kk : ∀ (H' : Heap) (locs' : List Loc), Wk E σ' μ' dg s H' locs' → W p l e R s m args below meth c H' locs' cells slots Q (F0 m (pc + 1) ls rest)) : W p l e R s m args below meth c H locs cells slots Q (F0 m pc ls (.int x :: .int i :: .ref (eA E q) :: rest)) := by
  refine va_zast hx hb hK.1 hW.1 (hK.2.2.1.D σ μ dg) hW.2 (ix q) 1 (ws_at hq he) tys1 hin hdg (fun H' locs' h1 _ h3 => kk H' locs' ⟨?_, h3⟩)
  rw [hbx, ws_set hq he' hne hK.2.2.1.2] at h1
  exact h1
/-- reading the class's rows of States: the States have their numbers -/
theorem ss_aald (hx : p.tables.exec = Jvm.exec) (hb : c.code = cc) (hK : Ks E s) (hW : Wk E σ μ dg s H locs) {q n : Nat} {f : Nat → Option Nat} (hq : okq E q) (he : cellOf E σ μ dg q = .inl (eY E 2, n, .inr (.inr (.inr (.inr f))))) {i : Int32} (hin : vp_in i n) {b : Nat} (hf : f i.toNatClampNeg = some b) (hdg : decode cc pc = .ok (.aaload, 1))
    (kk : W p l e R s m args below meth c H locs cells slots Q (F0 m (pc + 1) ls (.ref b :: rest))) : W p l e R s m args below meth c H locs cells slots Q (F0 m pc ls (.int i :: .ref (eA E q) :: rest)) :=
  va_aldq hx hb hK.1 hW.1 (ix q) 2 (ws_at hq he) tys2 hin hdg (by rw [hf]; exact kk)
/-- writing one of the saved States' places -/
theorem ss_aast (hx : p.tables.exec = Jvm.exec) (hb : c.code = cc) (hK : Ks E s) (hW : Wk E σ μ dg s H locs) {j : Nat} (hj : j < 9) {i : Int32} (hin : vp_in i 6) (hdg : decode cc pc = .ok (.aastore, 1))
    (kk : ∀ (H' : Heap) (locs' : List Loc), Wk E (up2 σ 2 i.toNatClampNeg (nI j)) μ dg s H' locs' → W p l e R s m args below meth c H' locs' cells slots Q (F0 m (pc + 1) ls rest)) : W p l e R s m args below meth c H locs cells slots Q (F0 m pc ls (.ref (eA E (10 + 8 * j)) :: .int i :: .ref (eA E 2) :: rest)) := by
  refine va_astq hx hb hK.1 hW.1 (hK.2.2.1.D σ μ dg) hW.2 (ix 2) 2 (ix (10 + 8 * j)) 4 (ws_at (okq_lt (by omega)) (c_fx (by decide))) tys2 (ws_at (okq_lt (by omega)) (c_st hj 0 (by decide))) rfl hin hdg (fun H' locs' h1 _ h3 => kk H' locs' ⟨?_, h3⟩)
  rw [ws_set (σ' := up2 σ 2 i.toNatClampNeg (nI j)) (μ' := μ) (dg' := dg) (okq_lt (by omega)) ?_ (fun k _ hk => c_up2 hk) hK.2.2.1.2] at h1
  · exact h1
  · rw [c_fx (by decide)]
    simp only [cFx, up2_self]
    congr 2
    congr 1
    congr 1
    congr 1
    congr 1
    congr 1
    funext k
    by_cases hk : k = i.toNatClampNeg
    · subst hk
      simp only [upd, va_up, if_true]
      rw [nI_clamp (n := j) (by omega)]
    · simp only [upd, va_up, if_neg hk]
theorem ss_alen (hx : p.tables.exec = Jvm.exec) (hb : c.code = cc) (hK : Ks E s) (hW : Wk E σ μ dg s H locs) {q t : Nat} {cA : ClassId} {x : vp_A} (hq : okq E q) (he : cellOf E σ μ dg q = .inl (cA, x)) {ty : FieldType} (ht : (tyOf E)[t]? = some (cA, ty)) {v : Int32} (hv : Int32.ofNat x.1 = v) (hdg : decode cc pc = .ok (.arraylength, 1))
    (kk : W p l e R s m args below meth c H locs cells slots Q (F0 m (pc + 1) ls (.int v :: rest))) : W p l e R s m args below meth c H locs cells slots Q (F0 m pc ls (.ref (eA E q) :: rest)) :=
  va_alen hx hb hK.1 hW.1 (ix q) t (ws_at hq he) ht hv hdg kk
theorem ss_gets (hx : p.tables.exec = Jvm.exec) (hb : c.code = cc) (hown : s.vm.findClass RX5 = some m.cls) (hK : Ks E s) (hW : Wk E σ μ dg s H locs) {index : Nat} (hl : Kw (.fieldLink RX5 index RX5 "STEPS" "[I")) (hdg : decode cc pc = .ok (.getstatic index, 3))
    (kk : W p l e R s m args below meth c H locs cells slots Q (F0 m (pc + 3) ls (.ref (eT E) :: rest))) : W p l e R s m args below meth c H locs cells slots Q (F0 m pc ls rest) :=
  va_gets hx hb hK.2.2.2.1.1 hW.2 hown (hK.2.1.at hl args) (fun _ h => h) hdg kk
theorem ss_ti (hx : p.tables.exec = Jvm.exec) (hb : c.code = cc) (hK : Ks E s) (hW : Wk E σ μ dg s H locs) {i : Int32} (hin : vp_in i 49) (hdg : decode cc pc = .ok (.iaload, 1))
    (kk : W p l e R s m args below meth c H locs cells slots Q (F0 m (pc + 1) ls (.int (stepsL.getD i.toNatClampNeg 0) :: rest))) : W p l e R s m args below meth c H locs cells slots Q (F0 m pc ls (.int i :: .ref (eT E) :: rest)) :=
  va_ti hx hb hK.2.2.2.1.2 hW.2 hin rfl hdg kk
theorem ss_tlen (hx : p.tables.exec = Jvm.exec) (hb : c.code = cc) (hK : Ks E s) (hW : Wk E σ μ dg s H locs) (hdg : decode cc pc = .ok (.arraylength, 1))
    (kk : W p l e R s m args below meth c H locs cells slots Q (F0 m (pc + 1) ls (.int 49 :: rest))) : W p l e R s m args below meth c H locs cells slots Q (F0 m pc ls (.ref (eT E) :: rest)) :=
  va_tlen hx hb hK.2.2.2.1.2 hW.2 (by decide) hdg kk
end SSR
