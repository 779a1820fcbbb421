/-! PURE: the calls: set, lose, spoil, add -/
theorem c16_nI {x : Int32} (h : c16 x) : ∃ c, c < 16 ∧ x = nI c := by
  unfold c16 at h
  obtain ⟨j, hj, hx⟩ := nI_of (x := x) (by rw [Int32.lt_iff_toInt_lt, Int32.toInt_zero]; omega)
  rw [hx, nI_toInt hj] at h
  exact ⟨j, by omega, hx⟩
theorem xor_dec : ∀ c, c < 16 → ∀ b, b < 4 → 0 ≤ (nI c ^^^ (1 <<< (nI b &&& 31))).toInt ∧ (nI c ^^^ (1 <<< (nI b &&& 31))).toInt < 16 := by decide +kernel
theorem xor_r {x : Int32} (h : c16 x) {b : Nat} (hb : b < 4) : c16 (x ^^^ (1 <<< (nI b &&& 31))) := by
  obtain ⟨c, hc, rfl⟩ := c16_nI h
  exact xor_dec c hc b hb
/-- a coded state, put together -/
theorem SR.co {σ : Sg} {s : Nat → Int32} {M B : Nat} (hm : 1 ≤ M ∧ M ≤ 64 ∧ 2 ≤ B ∧ B ≤ 16 ∧ s 0 = nI M ∧ s 2 = nI B ∧ (s 3 = 0 ∨ s 3 = 1) ∧ (s 4 = 0 ∨ s 4 = 1 ∨ s 4 = 2) ∧ ∀ k, k < M → inV (s (7 + k))) (h1 : s 1 = 1) (hd : CdS s M B) (ha : Ba σ 10 s M B) (h9 : σ 10 9 = s 5) (h10 : σ 10 10 = s 6) (ho : Co σ 10 s M B) : SR σ 10 s := by
  obtain ⟨a1, a2, a3, a4, a5, a6, a7, a8, a9⟩ := hm
  exact ⟨M, B, ⟨a1, a2, a3, a4, a5, a6, a7, a8, a9, Or.inr ⟨h1, hd⟩⟩, ha, h9, h10, Or.inr ⟨h1, ho⟩⟩
theorem SR.set4 {σ σ' : Sg} {s s' : Nat → Int32} {v : Int32} (hS : SR σ 10 s) (hv : v = 0 ∨ v = 1 ∨ v = 2) (hσ : ∀ q, 10 ≤ q → q < 18 → q ≠ 12 → σ' q = σ q) (h12 : σ' 12 = upd (σ 12) 2 v) (hs : s' = upd s 4 v) : SR σ' 10 s' := by
  obtain ⟨M, B, hm, ha, h9, h10, hc⟩ := hS
  obtain ⟨a1, a2, a3, a4, a5, a6, a7, a8, a9, a10⟩ := hm
  obtain ⟨b1, b2, b3, b4, b5⟩ := ha
  have e : ∀ i, i ≠ 4 → s' i = s i := fun i h => by rw [hs, pk_un h]
  refine ⟨M, B, ⟨a1, a2, a3, a4, ?_, ?_, ?_, ?_, fun k hk => ?_, ?_⟩, ⟨?_, ?_, ?_, ?_, fun k hk => ?_⟩, ?_, ?_, ?_⟩
  · rw [e 0 (by decide)]; exact a5
  · rw [e 2 (by decide)]; exact a6
  · rw [e 3 (by decide)]; exact a7
  · rw [hs, pk_us]; exact hv
  · rw [e _ (by omega)]; exact a9 k hk
  · rw [e 1 (by decide)]
    rcases a10 with q | ⟨q, d1, d2⟩
    · exact Or.inl q
    · refine Or.inr ⟨q, fun b hb => ?_, fun k hk => ?_⟩
      · rw [e _ (by omega), e _ (by omega), e _ (by omega)]; exact d1 b hb
      · rw [e _ (by omega)]; exact d2 k hk
  · rw [hσ 10 (by decide) (by decide) (by decide)]; exact b1
  · rw [h12]; exact b2
  · rw [h12, e 3 (by decide)]; exact b3
  · rw [h12, pk_us, hs, pk_us]
  · rw [hσ _ (by decide) (by decide) (by decide), e _ (by omega)]; exact b5 k hk
  · rw [hσ 10 (by decide) (by decide) (by decide), e 5 (by decide)]; exact h9
  · rw [hσ 10 (by decide) (by decide) (by decide), e 6 (by decide)]; exact h10
  · rw [e 1 (by decide), hσ 10 (by decide) (by decide) (by decide)]
    rcases hc with ⟨c1, c2⟩ | ⟨c1, c2, c3, c4⟩
    · exact Or.inl ⟨c1, c2⟩
    · refine Or.inr ⟨c1, by rw [hσ 10 (by decide) (by decide) (by decide)]; exact c2, fun b hb => ?_, fun k hk => ?_⟩
      · rw [hσ _ (by decide) (by decide) (by decide), hσ _ (by decide) (by decide) (by decide), hσ _ (by decide) (by decide) (by decide), e _ (by omega), e _ (by omega), e _ (by omega)]; exact c3 b hb
      · rw [hσ _ (by decide) (by decide) (by decide), hσ _ (by decide) (by decide) (by decide), e _ (by omega), e _ (by omega)]; exact c4 k hk
theorem set_dec : (fX6_leastOfSetting (nI 0) = some 2 ∧ fX6_leastOfSetting (nI 1) = some 0 ∧ fX6_leastOfSetting (nI 2) = some 0) ∧ (fX6_mostOfSetting (nI 0) = some 16 ∧ fX6_mostOfSetting (nI 1) = some 1 ∧ fX6_mostOfSetting (nI 2) = some 2) := by decide +kernel
def loS (j : Nat) : Int32 := if j = 0 then 2 else 0
def hiS (j : Nat) : Int32 := if j = 0 then 16 else nI j
theorem x_loS : ∀ j, j < 3 → fX6_leastOfSetting (nI j) = some (loS j) ∧ fX6_mostOfSetting (nI j) = some (hiS j) := by decide +kernel
theorem m_set {j : Nat} (hj : j < 3) (a2 : Int32) (μ : Sg) : fX7_set (nI j) a2 μ = if loS j ≤ a2 ∧ a2 ≤ hiS j then fX7_set_b47 (nI j) a2 0 μ else fX7_set_b47 (nI j) a2 2 μ := by
  have hin : (0 : Int32) ≤ nI j ∧ nI j ≤ 2 := ⟨nI_pos' (by omega), nI_le (b := 2) (by omega) (by decide)⟩
  have key : ∀ lo hi : Int32, fX7_set_b20 (nI j) a2 hi lo a2 μ = if lo ≤ a2 ∧ a2 ≤ hi then fX7_set_b47 (nI j) a2 0 μ else fX7_set_b47 (nI j) a2 2 μ := by
    intro lo hi
    unfold fX7_set_b20
    rw [m_in, bd_s, m_in, if_pos hin, bd_s, if_neg (show ¬ (1 : Int32) = 0 by decide)]
    by_cases h : lo ≤ a2 ∧ a2 ≤ hi
    · rw [if_pos h, if_pos h, if_neg (show ¬ (1 : Int32) = 0 by decide)]
    · rw [if_neg h, if_neg h, if_pos rfl]
  unfold fX7_set fX7_set_b10
  by_cases h0 : j = 0
  · subst h0
    rw [if_pos (show nI 0 = 0 from rfl), if_pos (show nI 0 = 0 from rfl), key]
    rfl
  · rw [if_neg (nI_ne0 (by omega) (by omega)), if_neg (nI_ne0 (by omega) (by omega)), key]
    unfold loS hiS
    rw [if_neg h0, if_neg h0]
theorem x_blk {σ : Sg} {x : Int32} : (fX4_hasBlock 0 x σ = some 1 → fX6_refuseUnlessBlock x σ = some (.inl (), σ)) ∧ (fX4_hasBlock 0 x σ = some 0 → fX6_refuseUnlessBlock x σ = some (.inr 1, σ)) := by
  unfold fX6_refuseUnlessBlock
  constructor
  · intro h
    rw [h, bd_s, if_neg (show ¬ (1 : Int32) = 0 by decide)]
  · intro h
    rw [h, bd_s, if_pos rfl]
