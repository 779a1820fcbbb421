/-! PURE: the calls: ifCoded, ifBlock, bestStep; the decoder in its place -/
theorem x_isN (x : Int32) : fX6_isNumber x = some (if 0 ≤ x ∧ x ≤ 48 then 1 else 0) := m_in x 0 48
/-- a range of samples, or none -/
theorem rngS {σ μ : Sg} {M : Nat} (hM1 : 1 ≤ M) (hM2 : M ≤ 64) (h1 : σ 10 0 = nI M) (h2 : μ 0 0 = nI M) (x y : Int32) : (∃ a m, 1 ≤ m ∧ a + m ≤ M ∧ x = nI a ∧ y = nI m ∧ fX6_refuseUnlessSamples x y σ = some (.inl (), σ) ∧ fX7_areSamples x y μ = some 1) ∨ (fX6_refuseUnlessSamples x y σ = some (.inr 1, σ) ∧ fX7_areSamples x y μ = some 0) := by
  have n10 : ¬ (1 : Int32) = 0 := by decide
  unfold fX6_refuseUnlessSamples fX7_areSamples
  rcases smp hM1 hM2 h1 h2 x with ⟨k, hk, rfl, g1, g2⟩ | ⟨g1, g2⟩
  · have e : nI M - nI k = nI (M - k) := pk_sub (by omega)
    rw [g1, g2, bd_s, bd_s, if_neg n10, if_neg n10]
    simp only [Nat.mul_zero, Nat.add_zero]
    rw [h1, h2, e, m_in]
    by_cases c : (1 : Int32) ≤ y ∧ y ≤ nI (M - k)
    · obtain ⟨m, m1, m2, rfl⟩ := rng 1 (M - k) (by decide) (nN _ (by omega)) c
      rw [if_pos c, bd_s, if_neg n10, if_neg (nlt.mpr c.1), if_pos c.2]
      exact Or.inl ⟨k, m, m1, by omega, rfl, rfl, rfl, rfl⟩
    · rw [if_neg c, bd_s, if_pos rfl]
      refine Or.inr ⟨?_, rfl⟩
      rcases th_in c with q | q
      · rw [if_pos q]
      · rw [if_neg q]
        split <;> rfl
  · rw [g1, g2, bd_s, bd_s, if_pos rfl, if_pos rfl]
    exact Or.inr ⟨rfl, rfl⟩
theorem Rl.w82 {σ μ σ' : Sg} {dg : Int64} (hR : Rl σ μ dg) (hr : ∀ q, q < 82 ∨ 86 ≤ q → σ' q = σ q) (dg' : Int64) : Rl σ' μ dg' := by
  have hR' := hR
  obtain ⟨_, _, _, _, _, _, hD⟩ := hR'
  exact hR.sm (fun q _ h => hr q (by omega)) (by rw [hr 5 (by decide)]) (hD.fr (by rw [hr 86 (by decide)]) (hr 87 (by decide)) (hr 88 (by decide)) rfl) (fun q hq => rfl) rfl rfl
theorem bs_core {σ μ : Sg} {dg : Int64} {M B a m : Nat} (hR : Rl σ μ dg) (hm : MS (μ 0) M B) (h1 : 1 ≤ m) (h2 : a + m ≤ M) : ∃ r σ', fX6_bestStep (nI a) (nI m) σ = some (.inl (nI r), σ') ∧ fX7_best (nI a) (nI m) μ = some (nI r) ∧ (∀ q, q ≠ 82 → σ' q = σ q) ∧ ∀ dg', Rl σ' μ dg' := by
  have hR' := hR
  obtain ⟨⟨M', B', hm2, ha, _⟩, _, _, _, _, hT, _⟩ := hR'
  obtain ⟨rfl, rfl⟩ := hm.one hm2
  obtain ⟨m1, m2, m3, m4, m5, m6, m7, m8, m9, m10⟩ := hm2
  obtain ⟨r, σ', e1, e2, e3, e4⟩ := xm_best (σ := σ) hT (a := a) (m := m) h1 (by omega) (fun i hi => ha.2.2.2.2 i (by omega)) (fun i hi => m9 i (by omega))
  refine ⟨r, σ', ?_, e2, e4, hR.w82 (fun q hq => e4 q (by omega))⟩
  unfold fX6_bestStep
  rcases rngS m1 m2 ha.1 m5 (nI a) (nI m) with ⟨_, _, _, _, _, _, g1, _⟩ | ⟨g1, _⟩
  · rw [g1, bx_s, nI_add, e1, bd2_s]
  · exfalso
    revert g1
    unfold fX6_refuseUnlessSamples fX4_hasSample
    simp only [Nat.mul_zero, Nat.add_zero]
    rw [if_neg (nI_pos (by omega)), show σ 10 0 = nI M' from ha.1, if_neg (nI_ge (show a < M' by omega) (by omega)), bd_s, if_neg (show ¬ (1 : Int32) = 0 by decide), if_neg (show ¬ nI m < 1 from nI_nlt (b := 1) h1 (by omega)), pk_sub (by omega), if_pos (nI_le (by omega) (by omega))]
    intro q
    cases q
/-- the class's decoder asked where the wave is coded -/
theorem x_decR {σ μ : Sg} {dg : Int64} {M B : Nat} (hR : Rl σ μ dg) (hm : MS (μ 0) M B) (h1 : μ 0 1 = 1) : ∃ σ', fX2_decode 0 0 σ = some σ' ∧ (∀ q, q < 82 ∨ 89 ≤ q → σ' q = σ q) ∧ (∀ i, i < M → σ' 87 i = md (μ 0) B i ∧ σ' 88 i = nd (μ 0) B i) ∧ σ' 86 3 = 1 ∧ ∀ dg', Rl σ' μ dg' := by
  have hR' := hR
  obtain ⟨hS, _, _, _, _, _, hD⟩ := hR'
  obtain ⟨M', B', hm2, ha, ho, hd⟩ := hS.cod h1
  obtain ⟨rfl, rfl⟩ := hm.one hm2
  have hm3 := hm2
  obtain ⟨m1, m2, m3, m4, m5, m6, m7, m8, m9, m10⟩ := hm3
  obtain ⟨σ', e1, e2, e3, e4⟩ := x_dec2 (i0 := 0) m2 m3 m4 hd ha ho (by
    rcases hD with q | ⟨q, q2⟩
    · exact Or.inl q
    · exact Or.inr ⟨q, q2 M' B' hm2 h1⟩)
  have hr : ∀ q, q < 82 ∨ 89 ≤ q → σ' q = σ q := fun q hq => e2 q (by unfold dR; omega) (by omega)
  refine ⟨σ', e1, hr, e3, e4, fun dg' => hR.sm (fun q _ h => hr q (Or.inl h)) (by rw [hr 5 (by decide)]) (Or.inr ⟨e4, fun M2 B2 hm4 _ => ?_⟩) (fun _ _ => rfl) rfl rfl⟩
  obtain ⟨rfl, rfl⟩ := hm2.one hm4
  exact e3
theorem m_decR {σ μ : Sg} {dg : Int64} {M B : Nat} (hR : Rl σ μ dg) (hm : MS (μ 0) M B) (h1 : μ 0 1 = 1) : ∃ μ', fX7_decodes μ = some μ' ∧ (∀ q, q ≠ 6 → q ≠ 7 → q ≠ 8 → μ' q = μ q) ∧ (∀ i, i < M → μ' 6 i = md (μ 0) B i) ∧ (∀ i, i < M → μ' 7 i = nI (gn (μ 0) B i).2) ∧ (∀ b, b * B < M → μ' 8 b = nI (gn (μ 0) B (eo M B b - 1)).2) ∧ ∀ dg', Rl σ μ' dg' := by
  have hR' := hR
  obtain ⟨hS, _, _, _, _, hT, hD⟩ := hR'
  obtain ⟨M', B', hm2, ha, ho, hd⟩ := hS.cod h1
  obtain ⟨rfl, rfl⟩ := hm.one hm2
  obtain ⟨m1, m2, m3, m4, m5, m6, m7, m8, m9, m10⟩ := hm2
  obtain ⟨μ', e1, e2, e3, e4, e5⟩ := m_dec hT m2 m3 m4 m5 m6 hd
  exact ⟨μ', e1, e2, e3, e4, e5, fun dg' => hR.sm (fun _ _ _ => rfl) rfl (hD.fr rfl rfl rfl (e2 0 (by decide) (by decide) (by decide))) (fun q hq => e2 q (by omega) (by omega) (by omega)) (by rw [e2 20 (by decide) (by decide) (by decide)]) (by rw [e2 20 (by decide) (by decide) (by decide)])⟩
