/-! P31: what the looks answer; nothing that is told changes -/
def Lk (σ μ σ' : Sg) : Prop := Rl σ' μ 0 ∧ ∀ q, 92 ≤ q → σ' q = σ q
theorem Lk.rf {σ μ : Sg} (hR : Rl σ μ 0) : Lk σ μ σ := ⟨hR, fun _ _ => rfl⟩
theorem Lk.tr {σ μ σ1 σ2 : Sg} (h : Lk σ μ σ1) (h' : Lk σ1 μ σ2) : Lk σ μ σ2 := ⟨h'.1, fun q hq => (h'.2 q hq).trans (h.2 q hq)⟩
theorem Lk.r {σ μ σ' : Sg} (h : Lk σ μ σ') : Rl σ' μ 0 := h.1
theorem Rl.ba {σ μ : Sg} {dg : Int64} {M B : Nat} (hR : Rl σ μ dg) (hm : MS (μ 0) M B) : Ba σ 10 (μ 0) M B := by
  obtain ⟨⟨M', B', hm2, ha, _⟩, _⟩ := hR
  obtain ⟨rfl, rfl⟩ := hm.one hm2
  exact ha
theorem Rl.co {σ μ : Sg} {dg : Int64} {M B : Nat} (hR : Rl σ μ dg) (hm : MS (μ 0) M B) (h1 : μ 0 1 = 1) : Co σ 10 (μ 0) M B ∧ CdS (μ 0) M B := by
  obtain ⟨hS, _⟩ := hR
  obtain ⟨M', B', hm2, _, ho, hd⟩ := hS.cod h1
  obtain ⟨rfl, rfl⟩ := hm.one hm2
  exact ⟨ho, hd⟩
theorem Rl.ms {σ μ : Sg} {dg : Int64} (hR : Rl σ μ dg) : ∃ M B, MS (μ 0) M B := by
  obtain ⟨⟨M, B, hm, _⟩, _⟩ := hR
  exact ⟨M, B, hm⟩
theorem lk_dec {σ μ : Sg} {M B : Nat} (hR : Rl σ μ 0) (hm : MS (μ 0) M B) (h1 : μ 0 1 = 1) : ∃ σ', fX2_decode 0 0 σ = some σ' ∧ (∀ i, i < M → σ' 87 i = md (μ 0) B i ∧ σ' 88 i = nd (μ 0) B i) ∧ Lk σ μ σ' ∧ ∀ q, q < 82 → σ' q = σ q := by
  obtain ⟨σ', x1, x2, x3, x4, x5⟩ := x_decR hR hm h1
  exact ⟨σ', x1, x3, ⟨x5 0, fun q hq => x2 q (Or.inr (by omega))⟩, fun q hq => x2 q (Or.inl hq)⟩
theorem hs_1 {σ : Sg} {s : Nat → Int32} {M B k : Nat} (ha : Ba σ 10 s M B) (hM : M ≤ 64) (hk : k < M) : fX4_hasSample 0 (nI k) σ = some 1 := by
  unfold fX4_hasSample
  simp only [Nat.mul_zero, Nat.add_zero]
  rw [if_neg (nI_pos (by omega)), show σ 10 0 = nI M from ha.1, if_neg (nI_ge hk (by omega))]
theorem hb_1 {σ : Sg} {s : Nat → Int32} {M B b : Nat} (hm : MS s M B) (ho : Co σ 10 s M B) (hb : b * B < M) : fX6_refuseUnlessBlock (nI b) σ = some (.inl (), σ) := by
  obtain ⟨m1, m2, m3, m4, _⟩ := hm
  have hb32 := b32 m2 m3 hb
  refine x_blk.1 ?_
  unfold fX4_hasBlock
  simp only [Nat.mul_zero, Nat.add_zero]
  rw [if_neg (nI_pos (by omega)), show σ 10 3 = nI (NB M B) from ho.1, if_neg (nI_ge ((nb_lt (by omega)).mpr hb) (by have := nb_le m3 m2; omega))]
/-- what is told of a sample -/
def soV (s : Nat → Int32) (B k w : Nat) : Int32 := if w = 1 then md s B k + 10000 else if w = 2 then s (135 + k) + 10000 else if w = 3 then s (71 + k) else if w = 4 then nd s B k else s (7 + k) - md s B k + 10000
theorem lk_s0 {σ μ : Sg} {M B k : Nat} (hR : Rl σ μ 0) (hm : MS (μ 0) M B) (hk : k < M) : fX6_sampleOf (nI k) 0 σ = some (.inl (μ 0 (7 + k) + 10000), σ) := by
  have ha := hR.ba hm
  obtain ⟨m1, m2, _⟩ := hm
  unfold fX6_sampleOf
  simp only [Nat.mul_zero, Nat.add_zero, Nat.reduceAdd]
  rw [hs_1 ha m2 hk, bd_s, if_neg (show ¬ (1 : Int32) = 0 by decide), if_neg (show ¬ (0 : Int32) < 0 by decide), if_pos (show (0 : Int32) < 6 by decide), if_pos trivial, gi (show k < 64 by omega) (by decide), nI_clamp (show k < 2 ^ 31 by omega), show σ 11 k = μ 0 (7 + k) from ha.2.2.2.2 k hk]
theorem lk_so {σ μ : Sg} {M B k : Nat} (hR : Rl σ μ 0) (hm : MS (μ 0) M B) (h1 : μ 0 1 = 1) (hk : k < M) : ∀ w, w ≠ 0 → w < 6 → ∃ σ', fX6_sampleOf (nI k) (nI w) σ = some (.inl (soV (μ 0) B k w), σ') ∧ Lk σ μ σ' := by
  intro w hw0 hw
  have ha := hR.ba hm
  obtain ⟨ho, hd⟩ := hR.co hm h1
  have hS := hR.1
  obtain ⟨σ', x1, x2, x3, x4⟩ := lk_dec hR hm h1
  obtain ⟨m1, m2, _⟩ := hm
  have hk64 : k < 64 := by omega
  refine ⟨σ', ?_, x3⟩
  unfold fX6_sampleOf soV
  simp only [gi hk64 (by decide), Nat.mul_zero, Nat.add_zero, Nat.reduceAdd]
  rw [hs_1 ha m2 hk, bd_s, if_neg (show ¬ (1 : Int32) = 0 by decide), if_neg (nI_pos (by omega)), if_pos (show nI w < 6 from nI_lt (b := 6) hw (by decide)), if_neg (nI_ne0 (by omega) (by omega)), x_isC hS, if_pos h1, bd_s, if_neg (show ¬ (1 : Int32) = 0 by decide), x1, bd_s, nI_clamp (show k < 2 ^ 31 by omega), (x2 k hk).1, (x2 k hk).2, x4 17 (by decide), x4 16 (by decide), x4 11 (by decide), show σ 17 k = μ 0 (135 + k) from (ho.2.2 k hk).2, show σ 16 k = μ 0 (71 + k) from (ho.2.2 k hk).1, show σ 11 k = μ 0 (7 + k) from ha.2.2.2.2 k hk]
  rcases (show w = 1 ∨ w = 2 ∨ w = 3 ∨ w = 4 ∨ w = 5 by omega) with rfl | rfl | rfl | rfl | rfl <;> rfl
theorem lk_s1 {σ μ : Sg} {M B k : Nat} (hR : Rl σ μ 0) (hm : MS (μ 0) M B) (h1 : μ 0 1 = 1) (hk : k < M) : ∃ σ', fX6_sampleOf (nI k) 1 σ = some (.inl (md (μ 0) B k + 10000), σ') ∧ Lk σ μ σ' := lk_so hR hm h1 hk 1 (by decide) (by decide)
theorem lk_s2 {σ μ : Sg} {M B k : Nat} (hR : Rl σ μ 0) (hm : MS (μ 0) M B) (h1 : μ 0 1 = 1) (hk : k < M) : ∃ σ', fX6_sampleOf (nI k) 2 σ = some (.inl (μ 0 (135 + k) + 10000), σ') ∧ Lk σ μ σ' := lk_so hR hm h1 hk 2 (by decide) (by decide)
theorem lk_s3 {σ μ : Sg} {M B k : Nat} (hR : Rl σ μ 0) (hm : MS (μ 0) M B) (h1 : μ 0 1 = 1) (hk : k < M) : ∃ σ', fX6_sampleOf (nI k) 3 σ = some (.inl (μ 0 (71 + k)), σ') ∧ Lk σ μ σ' := lk_so hR hm h1 hk 3 (by decide) (by decide)
theorem lk_s4 {σ μ : Sg} {M B k : Nat} (hR : Rl σ μ 0) (hm : MS (μ 0) M B) (h1 : μ 0 1 = 1) (hk : k < M) : ∃ σ', fX6_sampleOf (nI k) 4 σ = some (.inl (nd (μ 0) B k), σ') ∧ Lk σ μ σ' := lk_so hR hm h1 hk 4 (by decide) (by decide)
theorem lk_s5 {σ μ : Sg} {M B k : Nat} (hR : Rl σ μ 0) (hm : MS (μ 0) M B) (h1 : μ 0 1 = 1) (hk : k < M) : ∃ σ', fX6_sampleOf (nI k) 5 σ = some (.inl (μ 0 (7 + k) - md (μ 0) B k + 10000), σ') ∧ Lk σ μ σ' := lk_so hR hm h1 hk 5 (by decide) (by decide)
theorem lk_sN {σ μ : Sg} {M B k : Nat} (hR : Rl σ μ 0) (hm : MS (μ 0) M B) (h1 : μ 0 1 = 0) (hk : k < M) : ∀ w, w ≠ 0 → w < 6 → fX6_sampleOf (nI k) (nI w) σ = some (.inl (-1), σ) := by
  intro w hw0 hw
  have ha := hR.ba hm
  have hS := hR.1
  obtain ⟨m1, m2, _⟩ := hm
  have hk64 : k < 64 := by omega
  unfold fX6_sampleOf
  rw [hs_1 ha m2 hk, bd_s, if_neg (show ¬ (1 : Int32) = 0 by decide), if_neg (nI_pos (by omega)), if_pos (show nI w < 6 from nI_lt (b := 6) hw (by decide)), if_neg (nI_ne0 (by omega) (by omega)), x_isC hS, if_neg (show ¬ μ 0 1 = 1 by rw [h1]; decide), bd_s, if_pos rfl]
/-! blocks -/
theorem lk_b0 {σ μ : Sg} {M B b : Nat} (hR : Rl σ μ 0) (hm : MS (μ 0) M B) (h1 : μ 0 1 = 1) (hb : b * B < M) : fX6_blockOf (nI b) 0 σ = some (.inl (nI (eo M B b - b * B)), σ) := by
  have ha := hR.ba hm
  obtain ⟨ho, hd⟩ := hR.co hm h1
  have hm' := hm
  obtain ⟨m1, m2, m3, m4, _⟩ := hm'
  unfold fX6_blockOf
  rw [hb_1 hm ho hb, bx_s, if_neg (show ¬ (0 : Int32) < 0 by decide), if_pos (show (0 : Int32) < 6 by decide), if_pos rfl, x_eo m2 m4 ha.1 ha.2.1 hb, bd_s, x_so ha.2.1, bd_s, pk_sub (show b * B ≤ eo M B b by unfold eo; omega)]
theorem lk_b1 {σ μ : Sg} {M B b : Nat} (hR : Rl σ μ 0) (hm : MS (μ 0) M B) (h1 : μ 0 1 = 1) (hb : b * B < M) : fX6_blockOf (nI b) 1 σ = some (.inl (μ 0 (199 + b) + 10000), σ) := by
  obtain ⟨ho, hd⟩ := hR.co hm h1
  have hm' := hm
  obtain ⟨m1, m2, m3, m4, _⟩ := hm'
  have hb32 := b32 m2 m3 hb
  unfold fX6_blockOf
  simp only [gi hb32 (by decide), Nat.mul_zero, Nat.add_zero, Nat.reduceAdd]
  rw [hb_1 hm ho hb, bx_s, if_neg (show ¬ (1 : Int32) < 0 by decide), if_pos (show (1 : Int32) < 6 by decide), if_neg (show ¬ (1 : Int32) = 0 by decide), if_pos trivial, nI_clamp (show b < 2 ^ 31 by omega), show σ 13 b = μ 0 (199 + b) from (ho.2.1 b hb).1]
theorem lk_b2 {σ μ : Sg} {M B b : Nat} (hR : Rl σ μ 0) (hm : MS (μ 0) M B) (h1 : μ 0 1 = 1) (hb : b * B < M) : fX6_blockOf (nI b) 2 σ = some (.inl (μ 0 (231 + b)), σ) := by
  obtain ⟨ho, hd⟩ := hR.co hm h1
  have hm' := hm
  obtain ⟨m1, m2, m3, m4, _⟩ := hm'
  have hb32 := b32 m2 m3 hb
  unfold fX6_blockOf
  simp only [gi hb32 (by decide), Nat.mul_zero, Nat.add_zero, Nat.reduceAdd]
  rw [hb_1 hm ho hb, bx_s, if_neg (show ¬ (2 : Int32) < 0 by decide), if_pos (show (2 : Int32) < 6 by decide), if_neg (show ¬ (2 : Int32) = 0 by decide), if_neg (show ¬ (2 : Int32) = 1 by decide), if_pos trivial, nI_clamp (show b < 2 ^ 31 by omega), show σ 14 b = μ 0 (231 + b) from (ho.2.1 b hb).2.1]
theorem lk_b3 {σ μ : Sg} {M B b : Nat} (hR : Rl σ μ 0) (hm : MS (μ 0) M B) (h1 : μ 0 1 = 1) (hb : b * B < M) : fX6_blockOf (nI b) 3 σ = some (.inl (μ 0 (263 + b)), σ) := by
  obtain ⟨ho, hd⟩ := hR.co hm h1
  have hm' := hm
  obtain ⟨m1, m2, m3, m4, _⟩ := hm'
  have hb32 := b32 m2 m3 hb
  unfold fX6_blockOf
  simp only [gi hb32 (by decide), Nat.mul_zero, Nat.add_zero, Nat.reduceAdd]
  rw [hb_1 hm ho hb, bx_s, if_neg (show ¬ (3 : Int32) < 0 by decide), if_pos (show (3 : Int32) < 6 by decide), if_neg (show ¬ (3 : Int32) = 0 by decide), if_neg (show ¬ (3 : Int32) = 1 by decide), if_neg (show ¬ (3 : Int32) = 2 by decide), if_pos trivial, nI_clamp (show b < 2 ^ 31 by omega), show σ 15 b = μ 0 (263 + b) from (ho.2.1 b hb).2.2]
  rcases (hd.1 b hb).2.2 with q | q
  · rw [q, if_pos rfl]
  · rw [q, if_neg (show ¬ (1 : Int32) = 0 by decide)]
theorem lk_b4 {σ μ : Sg} {M B b : Nat} (hR : Rl σ μ 0) (hm : MS (μ 0) M B) (h1 : μ 0 1 = 1) (hb : b * B < M) : ∃ σ', fX6_blockOf (nI b) 4 σ = some (.inl (sumSq (erD (μ 0) B) (eo M B b - b * B) 0 (b * B)), σ') ∧ Lk σ μ σ' := by
  have ha := hR.ba hm
  obtain ⟨ho, hd⟩ := hR.co hm h1
  obtain ⟨σ', x1, x2, x3, x4⟩ := lk_dec hR hm h1
  have ha' : Ba σ' 10 (μ 0) M B := ha.fr x4
  have hm' := hm
  obtain ⟨m1, m2, m3, m4, _⟩ := hm'
  refine ⟨σ', ?_, x3⟩
  unfold fX6_blockOf
  rw [hb_1 hm ho hb, bx_s, if_neg (show ¬ (4 : Int32) < 0 by decide), if_pos (show (4 : Int32) < 6 by decide), if_neg (show ¬ (4 : Int32) = 0 by decide), if_neg (show ¬ (4 : Int32) = 1 by decide), if_neg (show ¬ (4 : Int32) = 2 by decide), if_neg (show ¬ (4 : Int32) = 3 by decide), if_pos rfl, x1, bd_s, x_so ha'.2.1, bd_s, x_eo m2 m4 ha'.1 ha'.2.1 hb, bd_s, x_erA (s := μ 0) (B := B) (show eo M B b ≤ M from Nat.min_le_left _ _) m2 (by unfold eo; omega) ha'.2.2.2.2 (fun i hi => (x2 i hi).1), bd_s]
theorem lk_b5 {σ μ : Sg} {M B b : Nat} (hR : Rl σ μ 0) (hm : MS (μ 0) M B) (h1 : μ 0 1 = 1) (hb : b * B < M) : ∃ σ', fX6_blockOf (nI b) 5 σ = some (.inl (nI (gn (μ 0) B (eo M B b - 1)).2), σ') ∧ Lk σ μ σ' := by
  have ha := hR.ba hm
  obtain ⟨ho, hd⟩ := hR.co hm h1
  have hm' := hm
  obtain ⟨m1, m2, m3, m4, _⟩ := hm'
  obtain ⟨σ', x1, x2⟩ := x_lead m2 m3 m4 hb hd ha ho
  refine ⟨σ', ?_, hR.w82 (fun q hq => x2 q (by omega)) 0, fun q hq => x2 q (by omega)⟩
  unfold fX6_blockOf
  rw [hb_1 hm ho hb, bx_s, if_neg (show ¬ (5 : Int32) < 0 by decide), if_pos (show (5 : Int32) < 6 by decide), if_neg (show ¬ (5 : Int32) = 0 by decide), if_neg (show ¬ (5 : Int32) = 1 by decide), if_neg (show ¬ (5 : Int32) = 2 by decide), if_neg (show ¬ (5 : Int32) = 3 by decide), if_neg (show ¬ (5 : Int32) = 4 by decide), x1, bd2_s]
/-! settings, what would be -/
theorem lk_st {σ μ : Sg} {M B : Nat} (hR : Rl σ μ 0) (hm : MS (μ 0) M B) : fX6_setting 0 σ = some (.inl (nI B), σ) ∧ fX6_setting 1 σ = some (.inl (μ 0 3), σ) ∧ fX6_setting 2 σ = some (.inl (μ 0 4), σ) := by
  have ha := hR.ba hm
  have key : ∀ j, j < 3 → fX6_setting (nI j) σ = some (.inl (μ 0 (2 + j)), σ) := by
    intro j hj
    unfold fX6_setting
    rw [x_isS, if_pos ⟨nI_pos' (by omega), nI_le (b := 2) (by omega) (by decide)⟩, bd_s, if_neg (show ¬ (1 : Int32) = 0 by decide), gi (show j < 3 by omega) (by decide), nI_clamp (show j < 2 ^ 31 by omega)]
    simp only [Nat.mul_zero, Nat.add_zero, Nat.reduceAdd]
    rw [set_eq ha hm j hj]
  refine ⟨?_, key 1 (by decide), key 2 (by decide)⟩
  have h := key 0 (by decide)
  rw [show μ 0 (2 + 0) = nI B from hm.2.2.2.2.2.1] at h
  exact h
theorem rs_1 {σ μ : Sg} {M B a m : Nat} (hR : Rl σ μ 0) (hm : MS (μ 0) M B) (h1 : 1 ≤ m) (h2 : a + m ≤ M) : fX6_refuseUnlessSamples (nI a) (nI m) σ = some (.inl (), σ) := by
  have ha := hR.ba hm
  obtain ⟨m1, m2, _⟩ := hm
  unfold fX6_refuseUnlessSamples
  rw [hs_1 ha m2 (show a < M by omega), bd_s, if_neg (show ¬ (1 : Int32) = 0 by decide), if_neg (show ¬ nI m < 1 from nI_nlt (b := 1) h1 (by omega))]
  simp only [Nat.mul_zero, Nat.add_zero]
  rw [show σ 10 0 = nI M from ha.1, pk_sub (by omega), if_pos (nI_le (by omega) (by omega))]
theorem lk_ib {σ μ : Sg} {M B a m j : Nat} (hR : Rl σ μ 0) (hm : MS (μ 0) M B) (h1 : 1 ≤ m) (h2 : a + m ≤ M) (hj : j < 49) : ∃ σ', fX6_ifBlock (nI a) (nI m) (nI j) σ = some (.inl (errs (μ 0) a m j), σ') ∧ Lk σ μ σ' := by
  have ha := hR.ba hm
  have m2 := hm.2.1
  obtain ⟨σ', e1, e2⟩ := x_err (s := μ 0) (σ := σ) (a := a) (m := m) (j := j) h1 (by omega) hj (fun i hi => ha.2.2.2.2 i (by omega))
  refine ⟨σ', ?_, hR.w82 (fun q hq => e2 q (by omega)) 0, fun q hq => e2 q (by omega)⟩
  unfold fX6_ifBlock
  rw [rs_1 hR hm h1 h2, bx_s, x_isN, if_pos ⟨nI_pos' (by omega), nI_le (b := 48) (by omega) (by decide)⟩, bd_s, if_neg (show ¬ (1 : Int32) = 0 by decide), nI_add, e1, bd2_s]
theorem lk_bs {σ μ : Sg} {M B a m : Nat} (hR : Rl σ μ 0) (hm : MS (μ 0) M B) (h1 : 1 ≤ m) (h2 : a + m ≤ M) : ∃ r σ', fX6_bestStep (nI a) (nI m) σ = some (.inl (nI r), σ') ∧ IsB (errs (μ 0) a m) r ∧ Lk σ μ σ' := by
  have ha := hR.ba hm
  have m2 := hm.2.1
  obtain ⟨r, σ', e1, e2, e3⟩ := x_best (s := μ 0) (σ := σ) (a := a) (m := m) h1 (by omega) (fun i hi => ha.2.2.2.2 i (by omega))
  refine ⟨r, σ', ?_, e2, hR.w82 (fun q hq => e3 q (by omega)) 0, fun q hq => e3 q (by omega)⟩
  unfold fX6_bestStep
  rw [rs_1 hR hm h1 h2, bx_s, nI_add, e1, bd2_s]
/-! counts -/
theorem x_c0 (σ : Sg) : fX6_count 0 σ = some (.inl (σ 10 0), σ) := by
  unfold fX6_count
  rw [if_neg (show ¬ (0 : Int32) < 0 by decide), if_pos (show (0 : Int32) < 12 by decide), if_pos rfl]
theorem x_c2 (σ : Sg) : fX6_count 2 σ = some (.inl (σ 10 3), σ) := by
  unfold fX6_count
  rw [if_neg (show ¬ (2 : Int32) < 0 by decide), if_pos (show (2 : Int32) < 12 by decide), if_neg (show ¬ (2 : Int32) = 0 by decide), if_neg (show ¬ (2 : Int32) = 1 by decide), if_pos rfl]
theorem x_c9 (σ : Sg) : fX6_count 9 σ = some (.inl (σ 10 9), σ) := by
  unfold fX6_count
  rw [if_neg (show ¬ (9 : Int32) < 0 by decide), if_pos (show (9 : Int32) < 12 by decide), if_neg (show ¬ (9 : Int32) = 0 by decide), if_neg (show ¬ (9 : Int32) = 1 by decide), if_neg (show ¬ (9 : Int32) = 2 by decide), if_neg (show ¬ (9 : Int32) = 3 by decide), if_pos rfl]
theorem x_c11 (σ : Sg) : fX6_count 11 σ = some (.inl (σ 1 1), σ) := by
  unfold fX6_count
  rw [if_neg (show ¬ (11 : Int32) < 0 by decide), if_pos (show (11 : Int32) < 12 by decide), if_neg (show ¬ (11 : Int32) = 0 by decide), if_neg (show ¬ (11 : Int32) = 1 by decide), if_neg (show ¬ (11 : Int32) = 2 by decide), if_neg (show ¬ (11 : Int32) = 3 by decide), if_neg (show ¬ (11 : Int32) = 9 by decide), if_neg (show ¬ (11 : Int32) = 10 by decide), if_pos rfl]
theorem x_c1 {σ μ : Sg} (hS : SR σ 10 (μ 0)) : fX6_count 1 σ = some (.inl (if μ 0 1 = 1 then 1 else 0), σ) := by
  unfold fX6_count
  rw [if_neg (show ¬ (1 : Int32) < 0 by decide), if_pos (show (1 : Int32) < 12 by decide), if_neg (show ¬ (1 : Int32) = 0 by decide), if_pos rfl, x_isC hS, bd_s]
  split
  · rw [if_neg (show ¬ (1 : Int32) = 0 by decide)]
  · rw [if_pos rfl]
theorem x_c3 (σ : Sg) : fX6_count 3 σ = bd (fX4_lostBlocks 0 σ) fun r => some (.inl r, σ) := by
  unfold fX6_count
  rw [if_neg (show ¬ (3 : Int32) < 0 by decide), if_pos (show (3 : Int32) < 12 by decide), if_neg (show ¬ (3 : Int32) = 0 by decide), if_neg (show ¬ (3 : Int32) = 1 by decide), if_neg (show ¬ (3 : Int32) = 2 by decide), if_pos rfl]
theorem x_cw (σ : Sg) {w : Nat} (h4 : 4 ≤ w) (h8 : w ≤ 8) : fX6_count (nI w) σ = bd (fX4_isCoded 0 σ) fun r16 => if r16 = 0 then some (.inl 0, σ) else bd2 (fX6_codedCount (nI w) σ) fun r19 s20 => some (.inl r19, s20) := by
  have hne : ∀ j : Nat, j < 12 → w ≠ j → ¬ nI w = nI j := fun j hj q z => q ((nI_eq (by omega) (by omega)).mp z)
  unfold fX6_count
  rw [if_neg (nI_pos (by omega)), if_pos (show nI w < 12 from nI_lt (b := 12) (by omega) (by decide)), if_neg (show ¬ nI w = 0 from hne 0 (by decide) (by omega)), if_neg (show ¬ nI w = 1 from hne 1 (by decide) (by omega)), if_neg (show ¬ nI w = 2 from hne 2 (by decide) (by omega)), if_neg (show ¬ nI w = 3 from hne 3 (by decide) (by omega)), if_neg (show ¬ nI w = 9 from hne 9 (by decide) (by omega)), if_neg (show ¬ nI w = 10 from hne 10 (by decide) (by omega)), if_neg (show ¬ nI w = 11 from hne 11 (by decide) (by omega))]
theorem lk_cN {σ μ : Sg} (hR : Rl σ μ 0) (h1 : μ 0 1 = 0) {w : Nat} (h4 : 4 ≤ w) (h8 : w ≤ 8) : fX6_count (nI w) σ = some (.inl 0, σ) := by
  rw [x_cw σ h4 h8, x_isC hR.1, if_neg (show ¬ μ 0 1 = 1 by rw [h1]; decide), bd_s, if_pos rfl]
/-- the numbers 4 to 8 of a coded wave -/
def ctV (s : Nat → Int32) (M B w : Nat) : Int32 := if w = 4 then sumSq (erD s B) M 0 0 else if w = 5 then sumSq (erD s B) M 0 0 else if w = 6 then grt (fun k => abI (erD s B k)) M 0 0 else if w = 7 then cntE (fun k => s (7 + k)) (md s B) M 0 0 else 18 * nI (NB M B) + 4 * (nI M - nI (NB M B))
theorem lk_ct {σ μ : Sg} {M B w : Nat} (hR : Rl σ μ 0) (hm : MS (μ 0) M B) (h1 : μ 0 1 = 1) (h4 : 4 ≤ w) (h8 : w ≤ 8) : ∃ σ', fX6_count (nI w) σ = some (.inl (ctV (μ 0) M B w), σ') ∧ Lk σ μ σ' := by
  have ha := hR.ba hm
  obtain ⟨ho, hd⟩ := hR.co hm h1
  obtain ⟨σ', x1, x2, x3, x4⟩ := lk_dec hR hm h1
  have ha' : Ba σ' 10 (μ 0) M B := ha.fr x4
  have e3' : σ' 10 3 = nI (NB M B) := by rw [x4 10 (by decide)]; exact ho.1
  have hm' := hm
  obtain ⟨m1, m2, m3, m4, _⟩ := hm'
  refine ⟨σ', ?_, x3⟩
  rw [x_cw σ h4 h8, x_isC hR.1, if_pos h1, bd_s, if_neg (show ¬ (1 : Int32) = 0 by decide)]
  unfold fX6_codedCount
  rw [x1, bd_s]
  simp only [Nat.mul_zero, Nat.add_zero]
  rw [show σ' 10 0 = nI M from ha'.1, e3']
  unfold ctV
  rcases (show w = 4 ∨ w = 5 ∨ w = 6 ∨ w = 7 ∨ w = 8 by omega) with rfl | rfl | rfl | rfl | rfl
  · rw [if_pos (show nI 4 = 4 from rfl), n0, x_erA (s := μ 0) (B := B) (Nat.le_refl _) m2 (Nat.zero_le _) ha'.2.2.2.2 (fun i hi => (x2 i hi).1), bd_s, bd2_s, Nat.sub_zero, if_pos rfl]
    rfl
  · rw [if_neg (show ¬ nI 5 = 4 by decide), if_pos (show nI 5 = 5 from rfl), erA_blk m2 m3 m4 ha' e3' (fun i hi => (x2 i hi).1), bd_s, bd2_s, if_neg (show ¬ (5 : Nat) = 4 by decide), if_pos rfl]
  · rw [if_neg (show ¬ nI 6 = 4 by decide), if_neg (show ¬ nI 6 = 5 by decide), if_pos (show nI 6 = 6 from rfl), if_neg (show ¬ (6 : Nat) = 4 by decide), if_neg (show ¬ (6 : Nat) = 5 by decide), if_pos rfl]
    unfold fX2_greatestDifference
    rw [show fX2_greatestDifference_L4 0 0 80 0 0 σ' = fX2_greatestDifference_L4 0 0 80 0 (nI 0) σ' from by rw [← n0], x_grL m2 ha'.1 M 80 0 0 (by omega) (by omega), bd_s, bd2_s]
    refine congrArg (fun z => some (Sum.inl z, σ')) (grt_congr _ _ _ (fun i _ hi => ?_))
    show abI (σ' 11 i - σ' 87 i) = abI (μ 0 (7 + i) - md (μ 0) B i)
    rw [show σ' 11 i = μ 0 (7 + i) from ha'.2.2.2.2 i (by omega), (x2 i (by omega)).1]
  · rw [if_neg (show ¬ nI 7 = 4 by decide), if_neg (show ¬ nI 7 = 5 by decide), if_neg (show ¬ nI 7 = 6 by decide), if_pos (show nI 7 = 7 from rfl), if_neg (show ¬ (7 : Nat) = 4 by decide), if_neg (show ¬ (7 : Nat) = 5 by decide), if_neg (show ¬ (7 : Nat) = 6 by decide), if_pos rfl]
    unfold fX2_justAsTheyAre
    rw [show fX2_justAsTheyAre_L4 0 0 80 0 0 σ' = fX2_justAsTheyAre_L4 0 0 80 0 (nI 0) σ' from by rw [← n0], x_jaL m2 ha'.1 M 80 0 0 (by omega) (by omega), bd_s, bd2_s]
    refine congrArg (fun z => some (Sum.inl z, σ')) (cntE_congr _ _ _ (fun i _ hi => ?_))
    exact ⟨ha'.2.2.2.2 i (by omega), (x2 i (by omega)).1⟩
  · rw [if_neg (show ¬ nI 8 = 4 by decide), if_neg (show ¬ nI 8 = 5 by decide), if_neg (show ¬ nI 8 = 6 by decide), if_neg (show ¬ nI 8 = 7 by decide), bd2_s]
    rfl
theorem lk_lb {σ μ : Sg} {M B : Nat} (hR : Rl σ μ 0) (hm : MS (μ 0) M B) (h1 : μ 0 1 = 1) : fX4_lostBlocks 0 σ = some (lsS (μ 0) (NB M B) 0 0) := by
  obtain ⟨ho, hd⟩ := hR.co hm h1
  obtain ⟨m1, m2, m3, m4, _⟩ := hm
  have hle := nb_le m3 m2
  unfold fX4_lostBlocks
  rw [show fX4_lostBlocks_L4 0 80 0 0 σ = fX4_lostBlocks_L4 0 80 0 (nI 0) σ from by rw [← n0]]
  exact x_loL hle ho.1 (fun b hb => ⟨(ho.2.1 b ((nb_lt (by omega)).mp hb)).2.2, (hd.1 b ((nb_lt (by omega)).mp hb)).2.2⟩) (NB M B) 80 0 0 (by omega) (by omega)
theorem lk_c3 {σ μ : Sg} {M B : Nat} (hR : Rl σ μ 0) (hm : MS (μ 0) M B) (h1 : μ 0 1 = 1) : fX6_count 3 σ = some (.inl (lsS (μ 0) (NB M B) 0 0), σ) := by
  rw [x_c3, lk_lb hR hm h1, bd_s]
theorem Rl.unc {σ μ : Sg} {dg : Int64} (hR : Rl σ μ dg) (h1 : μ 0 1 = 0) : σ 10 3 = 0 := by
  obtain ⟨⟨_, _, _, _, _, _, hc⟩, _⟩ := hR
  rcases hc with ⟨_, c2⟩ | ⟨c1, _⟩
  · exact c2
  · rw [h1] at c1
    exact absurd c1 (by decide)
theorem lk_c3N {σ μ : Sg} (hR : Rl σ μ 0) (h1 : μ 0 1 = 0) : fX6_count 3 σ = some (.inl 0, σ) := by
  obtain ⟨F, hF⟩ : ∃ F, F + 1 = 80 := ⟨79, rfl⟩
  rw [x_c3]
  unfold fX4_lostBlocks
  rw [← hF, fX4_lostBlocks_L4]
  simp only [Nat.mul_zero, Nat.add_zero]
  rw [hR.unc h1, if_pos (show (0 : Int32) ≤ 0 by decide), bd_s]
theorem Rl.cd {σ μ : Sg} {dg : Int64} (hR : Rl σ μ dg) : μ 0 1 = 0 ∨ μ 0 1 = 1 := by
  obtain ⟨⟨_, _, _, _, _, _, hc⟩, _⟩ := hR
  rcases hc with ⟨c1, _⟩ | ⟨c1, _⟩
  · exact Or.inl c1
  · exact Or.inr c1
/-! the mean -/
theorem lk_ms {σ μ : Sg} {M B : Nat} (hR : Rl σ μ 0) (hm : MS (μ 0) M B) (h1 : μ 0 1 = 1) : ∃ σ', fX6_meanSquare σ = some (FP.ddiv (FP.i2d (sumSq (erD (μ 0) B) M 0 0)) (FP.i2d (nI M)), σ') ∧ Lk σ μ σ' := by
  have ha := hR.ba hm
  obtain ⟨σ', x1, x2, x3, x4⟩ := lk_dec hR hm h1
  have ha' : Ba σ' 10 (μ 0) M B := ha.fr x4
  obtain ⟨m1, m2, m3, m4, _⟩ := hm
  refine ⟨σ', ?_, x3⟩
  unfold fX6_meanSquare fX6_wholeError
  simp only [Nat.mul_zero, Nat.add_zero]
  rw [x_isC hR.1, if_pos h1, bd_s, if_neg (show ¬ (1 : Int32) = 0 by decide), x1, bd_s, show σ' 10 0 = nI M from ha'.1, n0, x_erA (s := μ 0) (B := B) (Nat.le_refl _) m2 (Nat.zero_le _) ha'.2.2.2.2 (fun i hi => (x2 i hi).1), bd_s, bd2_s, Nat.sub_zero, ← n0, show σ' 10 0 = nI M from ha'.1, gd_of (dv_nn _ _ (nI_ne0 (by omega) (by omega)))]
theorem lk_msN {σ μ : Sg} (hR : Rl σ μ 0) (h1 : μ 0 1 = 0) : fX6_meanSquare σ = some (FP.dconst0, σ) := by
  unfold fX6_meanSquare
  rw [x_isC hR.1, if_neg (show ¬ μ 0 1 = 1 by rw [h1]; decide), bd_s, if_pos rfl]
theorem lk_ldN {σ μ : Sg} (hR : Rl σ μ 0) (h1 : μ 0 1 = 0) : fX6_loudness σ = some (FP.fconst0, σ) := by
  unfold fX6_loudness
  rw [x_isC hR.1, if_neg (show ¬ μ 0 1 = 1 by rw [h1]; decide), bd_s, if_pos rfl]
