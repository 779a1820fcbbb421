/-! P31: writing, reading, loading a block -/
theorem Rl.bf {σ μ σ' : Sg} {L : Nat} (hR : Rl σ μ 0) (hx : Gx σ σ') (hL : L ≤ 40) (h51 : σ' 5 1 = nI L) : Rl σ' (up2 (upR μ 4 (σ' 6)) 20 7 (nI L)) 0 := by
  have hR' := hR
  obtain ⟨hS, _, hB, _, _, _, hD⟩ := hR'
  have wq : ∀ q, q ≠ 4 → q ≠ 20 → up2 (upR μ 4 (σ' 6)) 20 7 (nI L) q = μ q := fun q h4 h20 => by rw [up2_ne h20, upR_ne h4]
  refine hR.re ?_ ?_ ⟨L, hL, h51, by rw [up2_self, pk_us], fun k hk => by rw [up2_ne (by decide), upR_self]⟩ (hD.fr (by rw [hx.1 86 (by decide) (by decide)]) (hx.1 87 (by decide) (by decide)) (hx.1 88 (by decide) (by decide)) (wq 0 (by decide) (by decide))) (fun q hq => hx.1 q (by omega) (by omega)) (wq 1 (by decide) (by decide)) (wq 2 (by decide) (by decide)) (wq 3 (by decide) (by decide)) (wq 5 (by decide) (by decide)) (by rw [up2_self, pk_un (by decide), upR_ne (by decide)])
  · rw [wq 0 (by decide) (by decide)]
    exact hS.eqs (EqS.of (fun j hj => hx.1 _ (by omega) (by omega)))
  · intro k hk
    rw [hx.1 _ (by decide) (by decide)]
    exact hB 0 (by decide) k hk
/-- the block b of the state s as a text -/
def tb (s : Nat → Int32) (M B b : Nat) : List Int32 := tx (s (199 + b)) (s (231 + b)) (fun k => s (71 + k)) (eo M B b - (b * B + 1)) (b * B + 1)
theorem tx_congr {v j : Int32} {f g : Nat → Int32} {m k : Nat} (h : ∀ i, k ≤ i → i < k + m → f i = g i) : tx v j f m k = tx v j g m k := by
  unfold tx
  rw [cds_congr m k h]
theorem lk_wr {σ μ : Sg} {M B b : Nat} (hR : Rl σ μ 0) (hm : MS (μ 0) M B) (h1 : μ 0 1 = 1) (hb : b * B < M) : ∃ σ' μ', fX6_write (nI b) σ = some (.inl (nI (tb (μ 0) M B b).length), σ') ∧ Rl σ' μ' 0 ∧ μ' 0 = μ 0 ∧ Bt σ' (tb (μ 0) M B b) := by
  have ha := hR.ba hm
  obtain ⟨ho, hd⟩ := hR.co hm h1
  have hm' := hm
  obtain ⟨m1, m2, m3, m4, _⟩ := hm'
  obtain ⟨d1, ⟨j, hj, ej⟩, _⟩ := hd.1 b hb
  obtain ⟨c1, c2, _⟩ := ho.2.1 b hb
  have he1 : eo M B b ≤ M := Nat.min_le_left _ _
  obtain ⟨σ', e1, e2, e3⟩ := x_tell m2 m3 m4 hb ha.1 ha.2.1 (show σ 13 b = μ 0 (199 + b) from c1) (show σ 14 b = μ 0 (231 + b) from c2) d1 (by rw [ej]; exact inV_nI (by omega))
  have e2' : Bt σ' (tb (μ 0) M B b) := by
    unfold tb
    rw [tx_congr (f := fun k => μ 0 (71 + k)) (g := σ 16) (fun i h1 h2 => ((ho.2.2 i (by omega)).1).symm)]
    exact e2
  refine ⟨σ', _, ?_, hR.bf e3 e2'.1 e2'.2.1, by rw [up2_ne (by decide), upR_ne (by decide)], e2'⟩
  unfold fX6_write
  rw [hb_1 hm ho hb, bx_s, e1, bd_s, e2'.2.1]
theorem x_rdB {σ : Sg} {s : Nat → Int32} {M B b : Nat} (hm : MS s M B) (hd : CdS s M B) (hb : b * B < M) (hB : Bt σ (tb s M B b)) : ∃ τ j, j < 49 ∧ s (231 + b) = nI j ∧ inV (s (199 + b)) ∧ fX0_read σ = some (nI (tb s M B b).length, τ) ∧ Fx σ τ ∧ τ 5 6 = 2 ∧ τ 5 2 = s (199 + b) ∧ τ 5 3 = nI j ∧ τ 5 5 = nI (eo M B b - (b * B + 1)) ∧ ∀ i, i < eo M B b - (b * B + 1) → τ 7 i = s (71 + (b * B + 1 + i)) ∧ c16 (s (71 + (b * B + 1 + i))) := by
  obtain ⟨m1, m2, m3, m4, _⟩ := hm
  obtain ⟨d1, ⟨j, hj, ej⟩, _⟩ := hd.1 b hb
  have he1 : eo M B b ≤ M := Nat.min_le_left _ _
  have he3 : eo M B b ≤ b * B + B := Nat.min_le_right _ _
  have hc : ∀ i, i < eo M B b - (b * B + 1) → c16 (s (71 + (b * B + 1 + i))) := by
    intro i hi
    have hq := kq (B := B) (b := b) (k := b * B + 1 + i) (by omega) (by omega)
    exact (hd.2 (b * B + 1 + i) (by omega)).2 (by omega)
  unfold tb at hB ⊢
  rw [ej] at hB ⊢
  obtain ⟨τ, t1, t2, t3, t4, t5, t6, t7⟩ := x_readT (f := fun k => s (71 + k)) d1 hj (by omega) hc hB
  exact ⟨τ, j, hj, rfl, d1, t1, t2, t3, t4, t5, t6, fun i hi => ⟨t7 i hi, hc i hi⟩⟩
theorem lk_fe {σ μ : Sg} {M B b : Nat} (hR : Rl σ μ 0) (hm : MS (μ 0) M B) (h1 : μ 0 1 = 1) (hb : b * B < M) (hB : Bt σ (tb (μ 0) M B b)) : ∃ σ', fX6_firstError σ = some (nI (tb (μ 0) M B b).length, σ') ∧ Rl σ' μ 0 ∧ Bt σ' (tb (μ 0) M B b) := by
  obtain ⟨_, hd⟩ := hR.co hm h1
  obtain ⟨τ, j, _, _, _, t1, t2, _⟩ := x_rdB hm hd hb hB
  refine ⟨τ, ?_, hR.rd t2 (Fm.rf μ) 0, hB.fx t2⟩
  unfold fX6_firstError
  rw [t1, bd2_s]
theorem lk_cb {σ μ : Sg} {L : Nat} (hR : Rl σ μ 0) (h51 : σ 5 1 = nI L) : ∃ σ' μ', fX6_clearBuffer σ = some (nI L, σ') ∧ Rl σ' μ' 0 ∧ μ' 0 = μ 0 := by
  refine ⟨up2 σ 5 1 0, _, ?_, hR.bf (L := 0) ⟨fun q h5 _ => up2_ne h5, fun k hk => by rw [up2_self, pk_un hk]⟩ (by decide) (by rw [up2_self, pk_us]; rfl), by rw [up2_ne (by decide), upR_ne (by decide)]⟩
  unfold fX6_clearBuffer
  rw [h51, nm_s, nm_s]
/-- the block o of s, with the first sample v, the start jn, the codes f from k on -/
def ldS (s : Nat → Int32) (B o e : Nat) (v jn : Int32) (f : Nat → Int32) : Nat → Int32 := fun i => if i = 199 + o then v else if i = 231 + o then jn else if i = 263 + o then 0 else if 71 + (o * B + 1) ≤ i ∧ i < 71 + e then f (i - (71 + (o * B + 1))) else s i
/-- the block b of s is put into the block o -/
def cpS (s : Nat → Int32) (M B b o : Nat) : Nat → Int32 := ldS s B o (eo M B o) (s (199 + b)) (s (231 + b)) (fun i => s (71 + (b * B + 1 + i)))
theorem ch_load {σ μ : Sg} {M B b o : Nat} (hR : Rl σ μ 0) (hm : MS (μ 0) M B) (h1 : μ 0 1 = 1) (hb : b * B < M) (ho0 : o * B < M) (hsame : eo M B o - o * B = eo M B b - b * B) (hBt : Bt σ (tb (μ 0) M B b)) : ∃ σ' μ', fX6_load (nI o) σ = some (.inl (cntN (md (cpS (μ 0) M B b o) B) (md (μ 0) B) M 0 0), σ') ∧ Rl σ' μ' 0 ∧ μ' 0 = cpS (μ 0) M B b o ∧ MS (μ' 0) M B ∧ μ' 0 1 = 1 ∧ σ' 5 1 = nI 0 := by
  have ha := hR.ba hm
  obtain ⟨ho, hd⟩ := hR.co hm h1
  have hS := hR.1
  have n10 : ¬ (1 : Int32) = 0 := by decide
  have hm' := hm
  obtain ⟨m1, m2, m3, m4, m5, m6, m7, m8, m9, m10⟩ := hm'
  have hb32 := b32 m2 m3 ho0
  have he1 : eo M B o ≤ M := Nat.min_le_left _ _
  have he2 : o * B < eo M B o := by unfold eo; omega
  have he3 : eo M B o ≤ o * B + B := Nat.min_le_right _ _
  have heb : b * B < eo M B b := by unfold eo; omega
  obtain ⟨σ8, j, hj, ej, w5, e3, e5, w3, w4, w6, hc2, hc4⟩ := x_rdB hm hd hb hBt
  have hR8 : Rl σ8 μ 0 := hR.rd e5 (Fm.rf μ) 0
  have s8 : ∀ q, q ≠ 5 → q ≠ 7 → σ8 q = σ q := e5.1
  have htb : fX0_tellsBlock σ = some (1, σ8) := by
    unfold fX0_tellsBlock
    rw [e3, bd2_s, e5.2, hBt.2.1, if_pos rfl, if_pos w3]
  have hcf : fX4_codesOf 0 (nI o) σ8 = some (nI (eo M B o - o * B - 1)) := by
    have z12 : σ8 12 0 = nI B := by rw [s8 12 (by decide) (by decide)]; exact ha.2.1
    unfold fX4_codesOf
    rw [x_eo m2 m4 (by rw [s8 10 (by decide) (by decide)]; exact ha.1) z12 ho0, bd_s, x_so z12, bd_s, pk_sub (by omega), show nI (eo M B o - o * B) - 1 = nI (eo M B o - o * B - 1) from pk_sub (b := 1) (by omega)]
  have hXt : fX6_load (nI o) σ = (bd (fX2_decode 0 0 σ8) fun s14 => bd (fX6_beginChange s14) fun s16 => bd (fX4_putBlock 0 (nI o) s16) fun s18 => nm (up2 s18 5 1 0) fun s19 => nm (up2 s19 (86 + 3 * 1) 3 0) fun s20 => bd (fX2_decode 1 0 s20) fun s22 => bd (fX2_othersThan 1 0 (s22 (10 + 8 * 0) 0) s22) fun r24 => some (.inl r24, s22)) := by
    unfold fX6_load
    rw [hb_1 hm ho ho0, bx_s, htb, bd2_s, if_neg n10, hcf, bd_s, hc2, show eo M B b - (b * B + 1) = eo M B o - o * B - 1 by omega, if_pos rfl]
  obtain ⟨s14, x1, x3, x5, x2⟩ := lk_dec hR8 hm h1
  have x2' : ∀ q, q < 82 ∨ 89 ≤ q → s14 q = σ8 q := by
    obtain ⟨s14', y1, y2, _⟩ := x_decR hR8 hm h1
    rw [x1] at y1
    cases y1
    exact y2
  obtain ⟨s16, μ15, b1, b2, b4, b5, f15, b6, b7⟩ := bg x5.1
  have b3'' := b2
  obtain ⟨_, _, r3, _, _, rT, _⟩ := b3''
  have s16q : ∀ q, 5 ≤ q → (q < 34 ∨ 89 ≤ q) → s16 q = σ8 q := fun q q1 q2 => by rw [b5 q (by omega) (by omega) (by omega) (by omega), x2' q (by omega)]
  have s16n : ∀ q, 10 ≤ q → q < 18 → s16 q = σ q := fun q q1 q2 => by rw [s16q q (by omega) (by omega), s8 q (by omega) (by omega)]
  have a10 : s16 10 0 = nI M := by rw [s16n 10 (by decide) (by decide)]; exact ha.1
  have a12 : s16 12 0 = nI B := by rw [s16n 12 (by decide) (by decide)]; exact ha.2.1
  obtain ⟨v, hv⟩ : ∃ v, v = μ 0 (199 + b) := ⟨_, rfl⟩
  obtain ⟨g, hg⟩ : ∃ g : Nat → Int32, ∀ i, g i = μ 0 (71 + (b * B + 1 + i)) := ⟨_, fun _ => rfl⟩
  obtain ⟨s', hs'⟩ : ∃ s', s' = cpS (μ 0) M B b o := ⟨_, rfl⟩
  have hsv : ∀ i, s' i = if i = 199 + o then v else if i = 231 + o then nI j else if i = 263 + o then 0 else if 71 + (o * B + 1) ≤ i ∧ i < 71 + eo M B o then g (i - (71 + (o * B + 1))) else μ 0 i := by
    intro i
    rw [hs', hg, hv, ← ej]
    rfl
  rw [← hv] at w4 w5
  obtain ⟨sA, hsA⟩ : ∃ sA, sA = up2 (up2 (up2 s16 13 o v) 14 o (nI j)) 15 o 0 := ⟨_, rfl⟩
  have sAq : ∀ q, q ≠ 13 → q ≠ 14 → q ≠ 15 → sA q = s16 q := fun q q1 q2 q3 => by rw [hsA, up2_ne q3, up2_ne q2, up2_ne q1]
  obtain ⟨s18, p1, p2, p3⟩ := x_pbL m2 m4 ho0 (eo M B o - (o * B + 1)) 80 0 sA (by omega) (by omega) (by rw [sAq 10 (by decide) (by decide) (by decide)]; exact a10) (by rw [sAq 12 (by decide) (by decide) (by decide)]; exact a12)
  have hpb : fX4_putBlock 0 (nI o) s16 = some s18 := by
    unfold fX4_putBlock
    simp only [gi hb32 (by decide), nm_s, Nat.mul_zero, Nat.add_zero, Nat.reduceAdd]
    rw [nI_clamp (show o < 2 ^ 31 by omega), s16q 5 (by decide) (by decide), w4, up2_ne (show 5 ≠ 13 by decide), s16q 5 (by decide) (by decide), w6, ← hsA, x_so (show sA 12 0 = nI B by rw [sAq 12 (by decide) (by decide) (by decide)]; exact a12), bd_s]
    rw [show fX4_putBlock_L36 0 (nI o) 80 (nI (o * B)) 0 sA = fX4_putBlock_L36 0 (nI o) 80 (nI (o * B)) (nI 0) sA from by rw [← n0], p1]
  obtain ⟨s20, hs20⟩ : ∃ s20, s20 = up2 (up2 s18 5 1 0) 89 3 0 := ⟨_, rfl⟩
  have s20q : ∀ q, q ≠ 5 → q ≠ 89 → s20 q = s18 q := fun q q1 q2 => by rw [hs20, up2_ne q2, up2_ne q1]
  have t13 : s20 13 = upd (σ 13) o v := by rw [s20q 13 (by decide) (by decide), p2 13 (by decide), hsA, up2_ne (by decide), up2_ne (by decide), up2_self, s16n 13 (by decide) (by decide)]
  have t14 : s20 14 = upd (σ 14) o (nI j) := by rw [s20q 14 (by decide) (by decide), p2 14 (by decide), hsA, up2_ne (by decide), up2_self, up2_ne (by decide), s16n 14 (by decide) (by decide)]
  have t15 : s20 15 = upd (σ 15) o 0 := by rw [s20q 15 (by decide) (by decide), p2 15 (by decide), hsA, up2_self, up2_ne (by decide), up2_ne (by decide), s16n 15 (by decide) (by decide)]
  have t16 : ∀ i, s20 16 i = if o * B + 1 ≤ i ∧ i < eo M B o then σ8 7 (i - (o * B + 1)) else σ 16 i := fun i => by
    rw [s20q 16 (by decide) (by decide), p3 i, sAq 7 (by decide) (by decide) (by decide), s16q 7 (by decide) (by decide), sAq 16 (by decide) (by decide) (by decide), s16n 16 (by decide) (by decide), Nat.add_zero]
  have tq : ∀ q, 10 ≤ q → q < 18 → q ≠ 13 → q ≠ 14 → q ≠ 15 → q ≠ 16 → s20 q = σ q := fun q q0 q00 q1 q2 q3 q4 => by rw [s20q q (by omega) (by omega), p2 q q4, sAq q q1 q2 q3, s16n q q0 q00]
  have tr : ∀ q, (q < 10 ∨ 18 ≤ q) → q ≠ 5 → q ≠ 89 → s20 q = s16 q := fun q q0 q1 q2 => by rw [s20q q q1 q2, p2 q (by omega), sAq q (by omega) (by omega) (by omega)]
  have eS : ∀ i, i < 71 → s' i = μ 0 i := fun i hi => by rw [hsv, if_neg (by omega), if_neg (by omega), if_neg (by omega), if_neg (by omega)]
  have eC : ∀ i, i < 64 → s' (71 + i) = if o * B + 1 ≤ i ∧ i < eo M B o then g (i - (o * B + 1)) else μ 0 (71 + i) := fun i hi => by
    rw [hsv, if_neg (by omega), if_neg (by omega), if_neg (by omega)]
    by_cases q : o * B + 1 ≤ i ∧ i < eo M B o
    · rw [if_pos (by omega), if_pos q, show 71 + i - (71 + (o * B + 1)) = i - (o * B + 1) by omega]
    · rw [if_neg (by omega), if_neg q]
  have eG : ∀ i, i < 64 → s' (135 + i) = μ 0 (135 + i) := fun i hi => by rw [hsv, if_neg (by omega), if_neg (by omega), if_neg (by omega), if_neg (by omega)]
  have eF : ∀ i, i < 32 → s' (199 + i) = (if i = o then v else μ 0 (199 + i)) ∧ s' (231 + i) = (if i = o then nI j else μ 0 (231 + i)) ∧ s' (263 + i) = (if i = o then 0 else μ 0 (263 + i)) := fun i hi => by
    by_cases q : i = o
    · rw [if_pos q, if_pos q, if_pos q, q]
      refine ⟨?_, ?_, ?_⟩
      · rw [hsv, if_pos rfl]
      · rw [hsv, if_neg (by omega), if_pos rfl]
      · rw [hsv, if_neg (by omega), if_neg (by omega), if_pos rfl]
    · rw [if_neg q, if_neg q, if_neg q]
      refine ⟨?_, ?_, ?_⟩
      · rw [hsv, if_neg (by omega), if_neg (by omega), if_neg (by omega), if_neg (by omega)]
      · rw [hsv, if_neg (by omega), if_neg (by omega), if_neg (by omega), if_neg (by omega)]
      · rw [hsv, if_neg (by omega), if_neg (by omega), if_neg (by omega), if_neg (by omega)]
  have hg8 : ∀ i, i < eo M B o - (o * B + 1) → σ8 7 i = g i ∧ c16 (g i) := fun i hi => by
    rw [hg]
    exact hc4 i (by omega)
  have hCd : CdS s' M B := by
    refine ⟨fun i hi => ?_, fun i hi => ?_⟩
    · obtain ⟨q1, q2, q3⟩ := eF i (b32 m2 m3 hi)
      rw [q1, q2, q3]
      by_cases q : i = o
      · rw [if_pos q, if_pos q, if_pos q]
        exact ⟨w5, ⟨j, hj, rfl⟩, Or.inl rfl⟩
      · rw [if_neg q, if_neg q, if_neg q]
        exact hd.1 i hi
    · rw [eC i (by omega)]
      by_cases q : o * B + 1 ≤ i ∧ i < eo M B o
      · rw [if_pos q]
        have hqq := kq (B := B) (b := o) (k := i) (by omega) (by omega)
        exact ⟨fun z => by omega, fun _ => (hg8 (i - (o * B + 1)) (by omega)).2⟩
      · rw [if_neg q]
        exact hd.2 i hi
  have hCo : Co s20 10 s' M B := by
    refine ⟨by rw [tq 10 (by decide) (by decide) (by decide) (by decide) (by decide) (by decide)]; exact ho.1, fun i hi => ?_, fun i hi => ?_⟩
    · obtain ⟨q1, q2, q3⟩ := eF i (b32 m2 m3 hi)
      show s20 13 i = _ ∧ s20 14 i = _ ∧ s20 15 i = _
      rw [q1, q2, q3, t13, t14, t15]
      by_cases q : i = o
      · rw [if_pos q, if_pos q, if_pos q, q, pk_us, pk_us, pk_us]
        exact ⟨rfl, rfl, rfl⟩
      · rw [if_neg q, if_neg q, if_neg q, pk_un q, pk_un q, pk_un q]
        exact ho.2.1 i hi
    · show s20 16 i = _ ∧ s20 17 i = _
      rw [t16 i, eC i (by omega), eG i (by omega), tq 17 (by decide) (by decide) (by decide) (by decide) (by decide) (by decide)]
      refine ⟨?_, (ho.2.2 i hi).2⟩
      by_cases q : o * B + 1 ≤ i ∧ i < eo M B o
      · rw [if_pos q, if_pos q]
        exact (hg8 (i - (o * B + 1)) (by omega)).1
      · rw [if_neg q, if_neg q]
        exact (ho.2.2 i hi).1
  have hBa : Ba s20 10 s' M B := by
    refine ⟨by rw [tq 10 (by decide) (by decide) (by decide) (by decide) (by decide) (by decide)]; exact ha.1, ?_, ?_, ?_, fun i hi => ?_⟩
    · rw [tq 12 (by decide) (by decide) (by decide) (by decide) (by decide) (by decide)]; exact ha.2.1
    · rw [tq 12 (by decide) (by decide) (by decide) (by decide) (by decide) (by decide), eS 3 (by decide)]; exact ha.2.2.1
    · rw [tq 12 (by decide) (by decide) (by decide) (by decide) (by decide) (by decide), eS 4 (by decide)]; exact ha.2.2.2.1
    · rw [tq 11 (by decide) (by decide) (by decide) (by decide) (by decide) (by decide), eS (7 + i) (by omega)]; exact ha.2.2.2.2 i hi
  obtain ⟨s22, d1, d2, d3, d4⟩ := x_dec (i0 := 1) m2 m3 m4 hCd hBa hCo (by rw [hs20, up2_self, pk_us])
  have d2' : ∀ q, q ≠ 84 → q ≠ 89 → q ≠ 90 → q ≠ 91 → s22 q = s20 q := fun q q1 q2 q3 q4 => d2 q (by unfold dR; omega) q2
  have e87 : s22 87 = s14 87 := by rw [d2' 87 (by decide) (by decide) (by decide) (by decide), tr 87 (by decide) (by decide) (by decide), b5 87 (by decide) (by decide) (by decide) (by decide)]
  have hX : fX6_load (nI o) σ = some (.inl (cntN (md s' B) (md (μ 0) B) M 0 0), s22) := by
    rw [hXt, x1, bd_s, b1, bd_s, hpb, bd_s, nm_s, nm_s]
    simp only [Nat.mul_one, Nat.mul_zero, Nat.add_zero, Nat.reduceAdd]
    rw [← hs20, d1, bd_s, show s22 10 0 = nI M by rw [d2' 10 (by decide) (by decide) (by decide) (by decide)]; exact hBa.1]
    unfold fX2_othersThan
    rw [show fX2_othersThan_L5 1 0 (nI M) 80 0 0 s22 = fX2_othersThan_L5 1 0 (nI M) 80 0 (nI 0) s22 from by rw [← n0], x_otL m2 M 80 0 0 (by omega) (by omega), bd_s]
    refine congrArg some (congrArg (fun z => (Sum.inl z, s22)) (cntN_congr _ _ _ (fun i _ hi => ?_)))
    exact ⟨(d3 i (by omega)).1, by rw [e87]; exact (x3 i (by omega)).1⟩
  obtain ⟨_, _, _, _, h9, h10, _⟩ := hS
  have hs1 : s' 1 = 1 := by rw [eS 1 (by decide)]; exact h1
  have hMM : 1 ≤ M ∧ M ≤ 64 ∧ 2 ≤ B ∧ B ≤ 16 ∧ s' 0 = nI M ∧ s' 2 = nI B ∧ (s' 3 = 0 ∨ s' 3 = 1) ∧ (s' 4 = 0 ∨ s' 4 = 1 ∨ s' 4 = 2) ∧ ∀ k, k < M → inV (s' (7 + k)) := by
    refine ⟨m1, m2, m3, m4, ?_, ?_, ?_, ?_, fun k hk => ?_⟩
    · rw [eS 0 (by decide)]; exact m5
    · rw [eS 2 (by decide)]; exact m6
    · rw [eS 3 (by decide)]; exact m7
    · rw [eS 4 (by decide)]; exact m8
    · rw [eS (7 + k) (by omega)]; exact m9 k hk
  have hSR : SR s20 10 s' := by
    refine SR.co (M := M) (B := B) hMM hs1 hCd hBa ?_ ?_ hCo
    · rw [tq 10 (by decide) (by decide) (by decide) (by decide) (by decide) (by decide), eS 5 (by decide)]; exact h9
    · rw [tq 10 (by decide) (by decide) (by decide) (by decide) (by decide) (by decide), eS 6 (by decide)]; exact h10
  have h51 : s22 5 1 = nI 0 := by
    rw [d2' 5 (by decide) (by decide) (by decide) (by decide), hs20, up2_ne (by decide), up2_self, pk_us]
    rfl
  obtain ⟨u, hu⟩ : ∃ u, u = up2 (upR μ15 0 s') 20 7 (nI 0) := ⟨_, rfl⟩
  have uq : ∀ q, q ≠ 0 → q ≠ 20 → u q = μ15 q := fun q q0 q20 => by rw [hu, up2_ne q20, upR_ne q0]
  have u0 : u 0 = s' := by rw [hu, up2_ne (by decide), upR_self]
  have u20 : u 20 = upd (μ15 20) 7 (nI 0) := by rw [hu, up2_self, upR_ne (by decide)]
  rw [← hs']
  refine ⟨s22, u, hX, b2.re ?_ ?_ ⟨0, by decide, h51, ?_, fun k hk => by omega⟩ (Or.inl ?_) (fun q hq => ?_) (uq 1 (by decide) (by decide)) (uq 2 (by decide) (by decide)) (uq 3 (by decide) (by decide)) (uq 5 (by decide) (by decide)) (by rw [u20, pk_un (by decide)]), u0, ?_, by rw [u0]; exact hs1, h51⟩
  · rw [u0]
    exact hSR.eqs (EqS.of (fun i hi => d2' _ (by omega) (by omega) (by omega) (by omega)))
  · intro k hk
    show s22 15 k = 0 ∨ s22 15 k = 1
    rw [d2' 15 (by decide) (by decide) (by decide) (by decide), t15]
    by_cases q : k = o
    · rw [q, pk_us]; exact Or.inl rfl
    · rw [pk_un q, ← s16n 15 (by decide) (by decide)]
      exact r3 0 (by decide) k hk
  · rw [u20, pk_us]
  · rw [d2' 86 (by decide) (by decide) (by decide) (by decide), tr 86 (by decide) (by decide) (by decide)]
    exact b4
  · rw [d2' q (by omega) (by omega) (by omega) (by omega), tr q (by omega) (by omega) (by omega)]
  · rw [u0]
    obtain ⟨z1, z2, z3, z4, z5, z6, z7, z8, z9⟩ := hMM
    exact ⟨z1, z2, z3, z4, z5, z6, z7, z8, z9, Or.inr ⟨hs1, hCd⟩⟩
/-- what cpS is -/
theorem cp_at {s : Nat → Int32} {M B b o : Nat} (hM : M ≤ 64) (hB : 2 ≤ B) (ho : o * B < M) : (∀ i, i < 71 → cpS s M B b o i = s i) ∧ (∀ i, i < 64 → cpS s M B b o (71 + i) = if o * B + 1 ≤ i ∧ i < eo M B o then s (71 + (b * B + 1 + (i - (o * B + 1)))) else s (71 + i)) ∧ ∀ i, i < 32 → cpS s M B b o (199 + i) = (if i = o then s (199 + b) else s (199 + i)) ∧ cpS s M B b o (231 + i) = (if i = o then s (231 + b) else s (231 + i)) ∧ cpS s M B b o (263 + i) = (if i = o then 0 else s (263 + i)) := by
  have hb32 := b32 hM hB ho
  have he1 : eo M B o ≤ M := Nat.min_le_left _ _
  have hsv : ∀ i, cpS s M B b o i = if i = 199 + o then s (199 + b) else if i = 231 + o then s (231 + b) else if i = 263 + o then 0 else if 71 + (o * B + 1) ≤ i ∧ i < 71 + eo M B o then s (71 + (b * B + 1 + (i - (71 + (o * B + 1))))) else s i := fun i => rfl
  refine ⟨fun i hi => ?_, fun i hi => ?_, fun i hi => ?_⟩
  · rw [hsv, if_neg (by omega), if_neg (by omega), if_neg (by omega), if_neg (by omega)]
  · rw [hsv, if_neg (by omega), if_neg (by omega), if_neg (by omega)]
    by_cases q : o * B + 1 ≤ i ∧ i < eo M B o
    · rw [if_pos (by omega), if_pos q, show 71 + i - (71 + (o * B + 1)) = i - (o * B + 1) by omega]
    · rw [if_neg (by omega), if_neg q]
  · by_cases q : i = o
    · rw [if_pos q, if_pos q, if_pos q, q]
      refine ⟨?_, ?_, ?_⟩
      · rw [hsv, if_pos rfl]
      · rw [hsv, if_neg (by omega), if_pos rfl]
      · rw [hsv, if_neg (by omega), if_neg (by omega), if_pos rfl]
    · rw [if_neg q, if_neg q, if_neg q]
      refine ⟨?_, ?_, ?_⟩
      · rw [hsv, if_neg (by omega), if_neg (by omega), if_neg (by omega), if_neg (by omega)]
      · rw [hsv, if_neg (by omega), if_neg (by omega), if_neg (by omega), if_neg (by omega)]
      · rw [hsv, if_neg (by omega), if_neg (by omega), if_neg (by omega), if_neg (by omega)]
