def Op_wave (Rel : Sg → Sg → Int64 → Prop) : Prop := ∀ σ μ dg, Rel σ μ dg → ∀ (a1 : Int32), ∃ res σ' r μ', fX6_wave a1 σ = some (res, σ') ∧ fX7_wave a1 μ = some (r, μ') ∧ tel [0] res r (μ' 20 0) ∧ Rel σ' μ' dg
def Op_sample (Rel : Sg → Sg → Int64 → Prop) : Prop := ∀ σ μ dg, Rel σ μ dg → ∀ (a1 : Int32) (a2 : Int32), ∃ res σ' r μ', fX6_sample a1 a2 σ = some (res, σ') ∧ fX7_sample a1 a2 μ = some (r, μ') ∧ tel [1, 0] res r (μ' 20 0) ∧ Rel σ' μ' dg
def Op_add (Rel : Sg → Sg → Int64 → Prop) : Prop := ∀ σ μ dg, Rel σ μ dg → ∀ (a1 : Int32) (a2 : Int32) (a3 : Int32), ∃ res σ' r μ', fX6_add a1 a2 a3 σ = some (res, σ') ∧ fX7_add a1 a2 a3 μ = some (r, μ') ∧ tel [0] res r (μ' 20 0) ∧ Rel σ' μ' dg
def Op_take (Rel : Sg → Sg → Int64 → Prop) : Prop := ∀ σ μ dg, Rel σ μ dg → ∃ res σ' r μ', fX6_take σ = some (res, σ') ∧ fX7_take μ = some (r, μ') ∧ tel [2] res r (μ' 20 0) ∧ Rel σ' μ' dg
def Op_set (Rel : Sg → Sg → Int64 → Prop) : Prop := ∀ σ μ dg, Rel σ μ dg → ∀ (a1 : Int32) (a2 : Int32), ∃ res σ' r μ', fX6_set a1 a2 σ = some (res, σ') ∧ fX7_set a1 a2 μ = some (r, μ') ∧ tel [1, 0] res r (μ' 20 0) ∧ Rel σ' μ' dg
def Op_code (Rel : Sg → Sg → Int64 → Prop) : Prop := ∀ σ μ dg, Rel σ μ dg → ∃ r σ' μ', fX6_code σ = some (r, σ') ∧ fX7_code μ = some (r, μ') ∧ Rel σ' μ' dg
def Op_lose (Rel : Sg → Sg → Int64 → Prop) : Prop := ∀ σ μ dg, Rel σ μ dg → ∀ (a1 : Int32), ∃ res σ' r μ', fX6_lose a1 σ = some (res, σ') ∧ fX7_lose a1 μ = some (r, μ') ∧ tel [1] res r (μ' 20 0) ∧ Rel σ' μ' dg
def Op_spoil (Rel : Sg → Sg → Int64 → Prop) : Prop := ∀ σ μ dg, Rel σ μ dg → ∀ (a1 : Int32) (a2 : Int32), ∃ res σ' r μ', fX6_spoil a1 a2 σ = some (res, σ') ∧ fX7_spoil a1 a2 μ = some (r, μ') ∧ tel [1, 0] res r (μ' 20 0) ∧ Rel σ' μ' dg
def Op_append (Rel : Sg → Sg → Int64 → Prop) : Prop := ∀ σ μ dg, Rel σ μ dg → ∀ (a1 : Int32), ∃ res σ' r μ', fX6_append a1 σ = some (res, σ') ∧ fX7_append a1 μ = some (r, μ') ∧ tel [0, 2] res r (μ' 20 0) ∧ Rel σ' μ' dg
def Op_clearBuffer (Rel : Sg → Sg → Int64 → Prop) : Prop := ∀ σ μ dg, Rel σ μ dg → ∃ r σ' μ', fX6_clearBuffer σ = some (r, σ') ∧ fX7_clearBuffer μ = some (r, μ') ∧ Rel σ' μ' dg
def Op_firstError (Rel : Sg → Sg → Int64 → Prop) : Prop := ∀ σ μ dg, Rel σ μ dg → ∃ r σ' μ', fX6_firstError σ = some (r, σ') ∧ fX7_firstError μ = some (r, μ') ∧ Rel σ' μ' dg
def Op_load (Rel : Sg → Sg → Int64 → Prop) : Prop := ∀ σ μ dg, Rel σ μ dg → ∀ (a1 : Int32), ∃ res σ' r μ', fX6_load a1 σ = some (res, σ') ∧ fX7_load a1 μ = some (r, μ') ∧ tel [1, 0] res r (μ' 20 0) ∧ Rel σ' μ' dg
def Op_write (Rel : Sg → Sg → Int64 → Prop) : Prop := ∀ σ μ dg, Rel σ μ dg → ∀ (a1 : Int32), ∃ res σ' r μ', fX6_write a1 σ = some (res, σ') ∧ fX7_write a1 μ = some (r, μ') ∧ tel [1] res r (μ' 20 0) ∧ Rel σ' μ' dg
def Op_keep (Rel : Sg → Sg → Int64 → Prop) : Prop := ∀ σ μ dg, Rel σ μ dg → ∀ (a1 : Int32), ∃ res σ' r μ', fX6_keep a1 σ = some (res, σ') ∧ fX7_keep a1 μ = some (r, μ') ∧ tel [0] res r (μ' 20 0) ∧ Rel σ' μ' dg
def Op_goBack (Rel : Sg → Sg → Int64 → Prop) : Prop := ∀ σ μ dg, Rel σ μ dg → ∀ (a1 : Int32), ∃ res σ' r μ', fX6_goBack a1 σ = some (res, σ') ∧ fX7_goBack a1 μ = some (r, μ') ∧ tel [0, 2] res r (μ' 20 0) ∧ Rel σ' μ' dg
def Op_undo (Rel : Sg → Sg → Int64 → Prop) : Prop := ∀ σ μ dg, Rel σ μ dg → ∃ res σ' r μ', fX6_undo σ = some (res, σ') ∧ fX7_undo μ = some (r, μ') ∧ tel [2] res r (μ' 20 0) ∧ Rel σ' μ' dg
def Op_step (Rel : Sg → Sg → Int64 → Prop) : Prop := ∀ σ μ dg, Rel σ μ dg → ∀ (a1 : Int32), ∃ res σ' r μ', fX6_step a1 σ = some (res, σ') ∧ fX7_step a1 μ = some (r, μ') ∧ tel [1] res r (μ' 20 0) ∧ Rel σ' μ' dg
def Op_sampleOf (Rel : Sg → Sg → Int64 → Prop) : Prop := ∀ σ μ dg, Rel σ μ dg → ∀ (a1 : Int32) (a2 : Int32), ∃ res σ' r μ', fX6_sampleOf a1 a2 σ = some (res, σ') ∧ fX7_sampleOf a1 a2 μ = some (r, μ') ∧ tel [1, 0] res r (μ' 20 0) ∧ Rel σ' μ' dg
def Op_blockOf (Rel : Sg → Sg → Int64 → Prop) : Prop := ∀ σ μ dg, Rel σ μ dg → ∀ (a1 : Int32) (a2 : Int32), ∃ res σ' r μ', fX6_blockOf a1 a2 σ = some (res, σ') ∧ fX7_blockOf a1 a2 μ = some (r, μ') ∧ tel [1, 0] res r (μ' 20 0) ∧ Rel σ' μ' dg
def Op_count (Rel : Sg → Sg → Int64 → Prop) : Prop := ∀ σ μ dg, Rel σ μ dg → ∀ (a1 : Int32), ∃ res σ' r μ', fX6_count a1 σ = some (res, σ') ∧ fX7_count a1 μ = some (r, μ') ∧ tel [0] res r (μ' 20 0) ∧ Rel σ' μ' dg
def Op_setting (Rel : Sg → Sg → Int64 → Prop) : Prop := ∀ σ μ dg, Rel σ μ dg → ∀ (a1 : Int32), ∃ res σ' r μ', fX6_setting a1 σ = some (res, σ') ∧ fX7_setting a1 μ = some (r, μ') ∧ tel [1] res r (μ' 20 0) ∧ Rel σ' μ' dg
def Op_ifCoded (Rel : Sg → Sg → Int64 → Prop) : Prop := ∀ σ μ dg, Rel σ μ dg → ∀ (a1 : Int32) (a2 : Int32) (a3 : Int32) (a4 : Int32), ∃ res σ' r μ', fX6_ifCoded a1 a2 a3 a4 σ = some (res, σ') ∧ fX7_ifCoded a1 a2 a3 a4 μ = some (r, μ') ∧ tel [0] res r (μ' 20 0) ∧ Rel σ' μ' dg
def Op_ifBlock (Rel : Sg → Sg → Int64 → Prop) : Prop := ∀ σ μ dg, Rel σ μ dg → ∀ (a1 : Int32) (a2 : Int32) (a3 : Int32), ∃ res σ' r μ', fX6_ifBlock a1 a2 a3 σ = some (res, σ') ∧ fX7_ifBlock a1 a2 a3 μ = some (r, μ') ∧ tel [1, 0] res r (μ' 20 0) ∧ Rel σ' μ' dg
def Op_bestStep (Rel : Sg → Sg → Int64 → Prop) : Prop := ∀ σ μ dg, Rel σ μ dg → ∀ (a1 : Int32) (a2 : Int32), ∃ res σ' r μ', fX6_bestStep a1 a2 σ = some (res, σ') ∧ fX7_bestStep a1 a2 μ = some (r, μ') ∧ tel [1] res r (μ' 20 0) ∧ Rel σ' μ' dg
def Op_ifSpoiled (Rel : Sg → Sg → Int64 → Prop) : Prop := ∀ σ μ dg, Rel σ μ dg → ∀ (a1 : Int32) (a2 : Int32), ∃ res σ' r μ', fX6_ifSpoiled a1 a2 σ = some (res, σ') ∧ fX7_ifSpoiled a1 a2 μ = some (r, μ') ∧ tel [1, 0] res r (μ' 20 0) ∧ Rel σ' μ' dg
def Op_meanSquare (Rel : Sg → Sg → Int64 → Prop) : Prop := ∀ σ μ dg, Rel σ μ dg → ∃ r σ' μ', fX6_meanSquare σ = some (r, σ') ∧ fX7_meanSquare μ = some (r, μ') ∧ Op.cmpValue (FP.dcmp r r) .l = 0 ∧ Rel σ' μ' dg
def Op_loudness (Rel : Sg → Sg → Int64 → Prop) : Prop := ∀ σ μ dg, Rel σ μ dg → ∃ r σ' μ', fX6_loudness σ = some (r, σ') ∧ fX7_loudness μ = some (r, μ') ∧ vf_n64 (FP.f2d r) ∧ Op.cmpValue (FP.dcmp (FP.f2d r) (FP.f2d r)) .l = 0 ∧ Rel σ' μ' dg
def Op_digest (Rel : Sg → Sg → Int64 → Prop) : Prop := ∀ σ μ dg, Rel σ μ dg → ∃ r σ' μ' dg', fX6_digest σ = some (r, σ') ∧ fX7_digest μ dg = some (r, μ', dg') ∧ Rel σ' μ' dg'
/-- every kind of step: the class and the model answer alike, and Rel is kept -/
def OpsOk (Rel : Sg → Sg → Int64 → Prop) : Prop := Op_wave Rel ∧ Op_sample Rel ∧ Op_add Rel ∧ Op_take Rel ∧ Op_set Rel ∧ Op_code Rel ∧ Op_lose Rel ∧ Op_spoil Rel ∧ Op_append Rel ∧ Op_clearBuffer Rel ∧ Op_firstError Rel ∧ Op_load Rel ∧ Op_write Rel ∧ Op_keep Rel ∧ Op_goBack Rel ∧ Op_undo Rel ∧ Op_step Rel ∧ Op_sampleOf Rel ∧ Op_blockOf Rel ∧ Op_count Rel ∧ Op_setting Rel ∧ Op_ifCoded Rel ∧ Op_ifBlock Rel ∧ Op_bestStep Rel ∧ Op_ifSpoiled Rel ∧ Op_meanSquare Rel ∧ Op_loudness Rel ∧ Op_digest Rel
theorem and31 (x : Int32) : ∃ k, k < 32 ∧ x &&& 31 = nI k := by
  refine ⟨(x.toBitVec &&& 31#32).toNat, ?_, ?_⟩
  · rw [BitVec.toNat_and]
    exact Nat.lt_of_le_of_lt Nat.and_le_right (by decide)
  · apply Int32.toBitVec_inj.mp
    rw [Int32.toBitVec_and]
    show _ = BitVec.ofNat 32 _
    rw [BitVec.ofNat_toNat, BitVec.setWidth_eq]
    rfl
theorem l5_gt {L t : Nat} (hL : L ≤ 2560) (ht : t ≤ 512) (h : ¬ 5 * t + 5 ≤ L) : nI L - 5 < nI (5 * t) := by
  rw [Int32.lt_iff_toInt_lt, show (5 : Int32) = nI 5 from rfl, pk_sub_toInt (by omega) (by omega), nI_toInt (by omega)]
  omega
theorem l5_le {L t : Nat} (hL : L ≤ 2560) (h : 5 * t + 5 ≤ L) : ¬ nI L - 5 < nI (5 * t) := by
  rw [show (5 : Int32) = nI 5 from rfl, pk_sub (by omega)]
  exact nI_nlt (by omega) (by omega)
section LOOP
variable {p : Program} {l : Launch} {e : Env} {s : State} {m : MethodId} {args : Array Value} {below : List Frame} {meth : Method} {c : Code} {Q : State → Prop} {E : En} {b L : Nat} {xs : Nat → Int32} {Rel : Sg → Sg → Int64 → Prop}
set_option maxHeartbeats 4000000 in
theorem lw_loop (hfl : l.stackTraces = false) (hx : p.tables.exec = Jvm.exec) (hb : c.code = code) (hml : c.maxLocals = 9) (hown : s.vm.findClass RL = some m.cls) (hB : s.heap.size = eB E) (hK : Ko E s) (hX : va_X b L xs s s.heap) (hbl : b < s.heap.size) (hL : L ≤ 2560) (hops : OpsOk Rel)
    (hend : ∀ (H : Heap) (locs : List Loc) (ls : Array Slot) (cells slots : Nat), va_S (cP E) s.heap H locs → cells ≤ 1157 → slots ≤ 14449 → W p l e room_1 s m args below meth c H locs cells slots Q (F0 m 1683 ls [])) :
    ∀ q t, t + q = 512 → ∀ (σ μ : Sg) (dg w : Int64) (H : Heap) (locs : List Loc) (ls : Array Slot), Rel σ μ dg → Lk E σ μ dg w s H locs → lv_has ls 9 [(4, .int (nI (5 * t))), (3, .ref (eO E)), (2, .ref (eA E 9)), (1, .ref (eA E 0)), (0, .ref b)] → W p l e room_1 s m args below meth c H locs (104 + t) (6083 + 6 * t) Q (F0 m 23 ls []) := by
  have hbA : ¬ cP E b := fun q => by
    have : eB E ≤ b := q
    omega
  intro q
  induction q with
  | zero =>
    intro t ht σ μ dg w H locs ls hR hW hl
    refine lv_iload hx hb dL_law_23 (lv_at hl 0 rfl) ?_
    refine lv_aload_n hx hb dL_law_25 rfl (lv_at hl 4 rfl) ?_
    refine va_slen (A := cP E) hx hb hX hbl hbA hW.2.2 dL_law_26 ?_
    refine lv_iconst (v := 5) hx hb dL_law_27 (by decide) ?_
    refine lv_isub hx hb dL_law_28 ?_
    refine lv_icmp_gt (tgt := 1683) hx hb dL_law_29 (by decide) (fun _ => hend H locs ls _ _ hW.2.2 (by omega) (by omega)) (fun h => absurd (l5_gt hL (by omega) (by omega)) h)
  | succ q ih =>
    intro t ht σ μ dg w H locs ls hR hW hl
    refine lv_iload hx hb dL_law_23 (lv_at hl 0 rfl) ?_
    refine lv_aload_n hx hb dL_law_25 rfl (lv_at hl 4 rfl) ?_
    refine va_slen (A := cP E) hx hb hX hbl hbA hW.2.2 dL_law_26 ?_
    refine lv_iconst (v := 5) hx hb dL_law_27 (by decide) ?_
    refine lv_isub hx hb dL_law_28 ?_
    by_cases h5 : 5 * t + 5 ≤ L
    · refine lv_icmp_gt (tgt := 1683) hx hb dL_law_29 (by decide) (fun h => absurd h (l5_le hL h5)) (fun _ => ?_)
      refine lv_aload_n hx hb dL_law_32 rfl (lv_at hl 4 rfl) ?_
      refine lv_iload hx hb dL_law_33 (lv_at hl 0 rfl) ?_
      refine lo_sld (k := 5 * t) hx hb hB hW hX hbl rfl (by omega) hL dL_law_35 ?_
      refine lv_bipush (v := 31) hx hb dL_law_36 (by decide) ?_
      refine lv_iand hx hb dL_law_38 ?_
      have hnext : ∀ (σ' μ' : Sg) (dg' w' : Int64) (H' : Heap) (locs' : List Loc) (ls' : Array Slot), Rel σ' μ' dg' → Lk E σ' μ' dg' w' s H' locs' → lv_has ls' 9 [(4, .int (nI (5 * t))), (3, .ref (eO E)), (2, .ref (eA E 9)), (1, .ref (eA E 0)), (0, .ref b)] → W p l e room_1 s m args below meth c H' locs' (104 + t + 1) (6083 + 6 * t + 6) Q (F0 m 1677 ls' []) := by
        intro σ' μ' dg' w' H' locs' ls' hR' hW' hl'
        refine lv_iinc (v := nI (5 * (t + 1))) (lv' := [(4, .int (nI (5 * (t + 1)))), (3, .ref (eO E)), (2, .ref (eA E 9)), (1, .ref (eA E 0)), (0, .ref b)]) hx hb dL_law_1677 hl' (k := 0) rfl (nI_add (5 * t) 5) (by decide) rfl (fun ls2 hl2 => ?_)
        refine lv_goto (tgt := 23) hx hb dL_law_1680 (by decide) ?_
        exact ih (t + 1) (by omega) σ' μ' dg' w' H' locs' ls2 hR' hW' hl2
      obtain ⟨k, hk, hv⟩ := and31 (xs (5 * t))
      rw [hv]
      obtain ⟨o0, o1, o2, o3, o4, o5, o6, o7, o8, o9, o10, o11, o12, o13, o14, o15, o16, o17, o18, o19, o20, o21, o22, o23, o24, o25, o26, o27⟩ := hops
      have hcs : 104 + t + 1 ≤ 1157 ∧ 6083 + 6 * t + 6 ≤ 14449 := ⟨by omega, by omega⟩
      rcases (show k = 0 ∨ k = 1 ∨ k = 2 ∨ k = 3 ∨ k = 4 ∨ k = 5 ∨ k = 6 ∨ k = 7 ∨ k = 8 ∨ k = 9 ∨ k = 10 ∨ k = 11 ∨ k = 12 ∨ k = 13 ∨ k = 14 ∨ k = 15 ∨ k = 16 ∨ k = 17 ∨ k = 18 ∨ k = 19 ∨ k = 20 ∨ k = 21 ∨ k = 22 ∨ k = 23 ∨ k = 24 ∨ k = 25 ∨ k = 26 ∨ k = 27 ∨ 28 ≤ k by omega) with rfl | rfl | rfl | rfl | rfl | rfl | rfl | rfl | rfl | rfl | rfl | rfl | rfl | rfl | rfl | rfl | rfl | rfl | rfl | rfl | rfl | rfl | rfl | rfl | rfl | rfl | rfl | rfl | h28
      · exact lv_tableIn (tgt := 164) (off := 125) hx hb dL_law_39 (by decide) (by decide) (by decide) (by decide) (lc_wave hfl hx hb hml hown hB hK hX hbl hL h5 hcs o0 hR hW hl hnext)
      · exact lv_tableIn (tgt := 220) (off := 181) hx hb dL_law_39 (by decide) (by decide) (by decide) (by decide) (lc_sample hfl hx hb hml hown hB hK hX hbl hL h5 hcs o1 hR hW hl hnext)
      · exact lv_tableIn (tgt := 288) (off := 249) hx hb dL_law_39 (by decide) (by decide) (by decide) (by decide) (lc_add hfl hx hb hml hown hB hK hX hbl hL h5 hcs o2 hR hW hl hnext)
      · exact lv_tableIn (tgt := 368) (off := 329) hx hb dL_law_39 (by decide) (by decide) (by decide) (by decide) (lc_take hfl hx hb hml hown hB hK hX hbl hL h5 hcs o3 hR hW hl hnext)
      · exact lv_tableIn (tgt := 412) (off := 373) hx hb dL_law_39 (by decide) (by decide) (by decide) (by decide) (lc_set hfl hx hb hml hown hB hK hX hbl hL h5 hcs o4 hR hW hl hnext)
      · exact lv_tableIn (tgt := 480) (off := 441) hx hb dL_law_39 (by decide) (by decide) (by decide) (by decide) (lc_code hfl hx hb hml hown hB hK hX hbl hL h5 hcs o5 hR hW hl hnext)
      · exact lv_tableIn (tgt := 493) (off := 454) hx hb dL_law_39 (by decide) (by decide) (by decide) (by decide) (lc_lose hfl hx hb hml hown hB hK hX hbl hL h5 hcs o6 hR hW hl hnext)
      · exact lv_tableIn (tgt := 549) (off := 510) hx hb dL_law_39 (by decide) (by decide) (by decide) (by decide) (lc_spoil hfl hx hb hml hown hB hK hX hbl hL h5 hcs o7 hR hW hl hnext)
      · exact lv_tableIn (tgt := 617) (off := 578) hx hb dL_law_39 (by decide) (by decide) (by decide) (by decide) (lc_append hfl hx hb hml hown hB hK hX hbl hL h5 hcs o8 hR hW hl hnext)
      · exact lv_tableIn (tgt := 673) (off := 634) hx hb dL_law_39 (by decide) (by decide) (by decide) (by decide) (lc_clearBuffer hfl hx hb hml hown hB hK hX hbl hL h5 hcs o9 hR hW hl hnext)
      · exact lv_tableIn (tgt := 686) (off := 647) hx hb dL_law_39 (by decide) (by decide) (by decide) (by decide) (lc_firstError hfl hx hb hml hown hB hK hX hbl hL h5 hcs o10 hR hW hl hnext)
      · exact lv_tableIn (tgt := 699) (off := 660) hx hb dL_law_39 (by decide) (by decide) (by decide) (by decide) (lc_load hfl hx hb hml hown hB hK hX hbl hL h5 hcs o11 hR hW hl hnext)
      · exact lv_tableIn (tgt := 755) (off := 716) hx hb dL_law_39 (by decide) (by decide) (by decide) (by decide) (lc_write hfl hx hb hml hown hB hK hX hbl hL h5 hcs o12 hR hW hl hnext)
      · exact lv_tableIn (tgt := 811) (off := 772) hx hb dL_law_39 (by decide) (by decide) (by decide) (by decide) (lc_keep hfl hx hb hml hown hB hK hX hbl hL h5 hcs o13 hR hW hl hnext)
      · exact lv_tableIn (tgt := 867) (off := 828) hx hb dL_law_39 (by decide) (by decide) (by decide) (by decide) (lc_goBack hfl hx hb hml hown hB hK hX hbl hL h5 hcs o14 hR hW hl hnext)
      · exact lv_tableIn (tgt := 923) (off := 884) hx hb dL_law_39 (by decide) (by decide) (by decide) (by decide) (lc_undo hfl hx hb hml hown hB hK hX hbl hL h5 hcs o15 hR hW hl hnext)
      · exact lv_tableIn (tgt := 967) (off := 928) hx hb dL_law_39 (by decide) (by decide) (by decide) (by decide) (lc_step hfl hx hb hml hown hB hK hX hbl hL h5 hcs o16 hR hW hl hnext)
      · exact lv_tableIn (tgt := 1023) (off := 984) hx hb dL_law_39 (by decide) (by decide) (by decide) (by decide) (lc_sampleOf hfl hx hb hml hown hB hK hX hbl hL h5 hcs o17 hR hW hl hnext)
      · exact lv_tableIn (tgt := 1091) (off := 1052) hx hb dL_law_39 (by decide) (by decide) (by decide) (by decide) (lc_blockOf hfl hx hb hml hown hB hK hX hbl hL h5 hcs o18 hR hW hl hnext)
      · exact lv_tableIn (tgt := 1159) (off := 1120) hx hb dL_law_39 (by decide) (by decide) (by decide) (by decide) (lc_count hfl hx hb hml hown hB hK hX hbl hL h5 hcs o19 hR hW hl hnext)
      · exact lv_tableIn (tgt := 1215) (off := 1176) hx hb dL_law_39 (by decide) (by decide) (by decide) (by decide) (lc_setting hfl hx hb hml hown hB hK hX hbl hL h5 hcs o20 hR hW hl hnext)
      · exact lv_tableIn (tgt := 1271) (off := 1232) hx hb dL_law_39 (by decide) (by decide) (by decide) (by decide) (lc_ifCoded hfl hx hb hml hown hB hK hX hbl hL h5 hcs o21 hR hW hl hnext)
      · exact lv_tableIn (tgt := 1363) (off := 1324) hx hb dL_law_39 (by decide) (by decide) (by decide) (by decide) (lc_ifBlock hfl hx hb hml hown hB hK hX hbl hL h5 hcs o22 hR hW hl hnext)
      · exact lv_tableIn (tgt := 1443) (off := 1404) hx hb dL_law_39 (by decide) (by decide) (by decide) (by decide) (lc_bestStep hfl hx hb hml hown hB hK hX hbl hL h5 hcs o23 hR hW hl hnext)
      · exact lv_tableIn (tgt := 1511) (off := 1472) hx hb dL_law_39 (by decide) (by decide) (by decide) (by decide) (lc_ifSpoiled hfl hx hb hml hown hB hK hX hbl hL h5 hcs o24 hR hW hl hnext)
      · exact lv_tableIn (tgt := 1579) (off := 1540) hx hb dL_law_39 (by decide) (by decide) (by decide) (by decide) (lc_meanSquare hfl hx hb hml hown hB hK hX hbl hL h5 hcs o25 hR hW hl hnext)
      · exact lv_tableIn (tgt := 1620) (off := 1581) hx hb dL_law_39 (by decide) (by decide) (by decide) (by decide) (lc_loudness hfl hx hb hml hown hB hK hX hbl hL h5 hcs o26 hR hW hl hnext)
      · exact lv_tableIn (tgt := 1663) (off := 1624) hx hb dL_law_39 (by decide) (by decide) (by decide) (by decide) (lc_digest hfl hx hb hml hown hB hK hX hbl hL h5 hcs o27 hR hW hl hnext)
      · refine lv_tableOut (tgt := 1677) hx hb dL_law_39 (Or.inr (by rw [nI_toInt (by omega)]; omega)) (by decide) ?_
        exact W.widen (by omega) (by omega) (hnext σ μ dg w H locs ls hR hW hl)
    · refine lv_icmp_gt (tgt := 1683) hx hb dL_law_29 (by decide) (fun _ => hend H locs ls _ _ hW.2.2 (by omega) (by omega)) (fun h => absurd (l5_gt hL (by omega) h5) h)
end LOOP
