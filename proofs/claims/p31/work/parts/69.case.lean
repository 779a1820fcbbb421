/-! PURE: which arguments are in range, both sides at once -/
theorem nlt {a b : Int32} : (¬ a < b) ↔ b ≤ a := by
  rw [Int32.lt_iff_toInt_lt, Int32.le_iff_toInt_le]
  omega
theorem nle {a b : Int32} : (¬ a ≤ b) ↔ b < a := by
  rw [Int32.lt_iff_toInt_lt, Int32.le_iff_toInt_le]
  omega
/-- an int between two naturals -/
theorem rng {x lo hi : Int32} (a b : Nat) (ha : lo.toInt = a) (hb : hi.toInt = b) (h : lo ≤ x ∧ x ≤ hi) : ∃ j, a ≤ j ∧ j ≤ b ∧ x = nI j := by
  rw [Int32.le_iff_toInt_le, Int32.le_iff_toInt_le, ha, hb] at h
  obtain ⟨j, hj, hx⟩ := nI_of (x := x) (by rw [Int32.lt_iff_toInt_lt, Int32.toInt_zero]; omega)
  have ht : x.toInt = j := by rw [hx, nI_toInt hj]
  exact ⟨j, by omega, by omega, hx⟩
theorem nN (n : Nat) (h : n < 2 ^ 31) : (nI n).toInt = n := nI_toInt h
/-- a sample's number, or none -/
theorem smp {σ μ : Sg} {M : Nat} (hM1 : 1 ≤ M) (hM2 : M ≤ 64) (h1 : σ 10 0 = nI M) (h2 : μ 0 0 = nI M) (x : Int32) : (∃ k, k < M ∧ x = nI k ∧ fX4_hasSample 0 x σ = some 1 ∧ fX7_isSample x μ = some 1) ∨ (fX4_hasSample 0 x σ = some 0 ∧ fX7_isSample x μ = some 0) := by
  have e : nI M - 1 = nI (M - 1) := pk_sub (b := 1) hM1
  have hx : fX4_hasSample 0 x σ = some (if 0 ≤ x ∧ x ≤ nI (M - 1) then 1 else 0) := by
    unfold fX4_hasSample
    simp only [Nat.mul_zero, Nat.add_zero]
    rw [h1]
    have t1 := nN M (by omega)
    have t2 := nN (M - 1) (by omega)
    simp only [Int32.lt_iff_toInt_lt, Int32.le_iff_toInt_le, t1, t2, Int32.toInt_zero]
    by_cases c1 : x.toInt < 0
    · rw [if_pos c1, if_neg (by omega)]
    · rw [if_neg c1]
      by_cases c2 : (M : Int) ≤ x.toInt
      · rw [if_pos c2, if_neg (by omega)]
      · rw [if_neg c2, if_pos (by omega)]
  have hm : fX7_isSample x μ = some (if 0 ≤ x ∧ x ≤ nI (M - 1) then 1 else 0) := by
    unfold fX7_isSample
    rw [h2, e, m_in, bd_s, gd_of (by split; exact Or.inr rfl; exact Or.inl rfl)]
  by_cases c : 0 ≤ x ∧ x ≤ nI (M - 1)
  · obtain ⟨k, _, k2, k3⟩ := rng 0 (M - 1) Int32.toInt_zero (nN _ (by omega)) c
    rw [hx, hm, if_pos c]
    exact Or.inl ⟨k, by omega, k3, rfl, rfl⟩
  · rw [hx, hm, if_neg c]
    exact Or.inr ⟨rfl, rfl⟩
/-- a block's number, or none -/
theorem blk {σ μ : Sg} (hS : SR σ 10 (μ 0)) (x : Int32) : (∃ M B b, MS (μ 0) M B ∧ μ 0 1 = 1 ∧ Ba σ 10 (μ 0) M B ∧ Co σ 10 (μ 0) M B ∧ CdS (μ 0) M B ∧ b * B < M ∧ x = nI b ∧ fX4_hasBlock 0 x σ = some 1 ∧ fX7_isBlock x μ = some 1) ∨ (fX4_hasBlock 0 x σ = some 0 ∧ fX7_isBlock x μ = some 0) := by
  obtain ⟨M, B, hm, ha, _, _, hc⟩ := hS
  have hm' := hm
  obtain ⟨a1, a2, a3, a4, a5, a6, a7, a8, a9, a10⟩ := hm'
  have go : ∀ N, N ≤ 32 → σ 10 3 = nI N → fX7_blocks μ = some (nI N) → fX4_hasBlock 0 x σ = some (if 0 ≤ x ∧ x ≤ nI N - 1 then 1 else 0) ∧ fX7_isBlock x μ = some (if 0 ≤ x ∧ x ≤ nI N - 1 then 1 else 0) ∧ (nI N - 1).toInt = (N : Int) - 1 := by
    intro N hN h3 hb
    have t1 := nN N (by omega)
    have t2 : (nI N - 1).toInt = (N : Int) - 1 := pk_sub_toInt (b := 1) (by omega) (by decide)
    refine ⟨?_, ?_, t2⟩
    · unfold fX4_hasBlock
      simp only [Nat.mul_zero, Nat.add_zero]
      rw [h3]
      simp only [Int32.lt_iff_toInt_lt, Int32.le_iff_toInt_le, t1, t2, Int32.toInt_zero]
      by_cases c1 : x.toInt < 0
      · rw [if_pos c1, if_neg (by omega)]
      · rw [if_neg c1]
        by_cases c2 : (N : Int) ≤ x.toInt
        · rw [if_pos c2, if_neg (by omega)]
        · rw [if_neg c2, if_pos (by omega)]
    · unfold fX7_isBlock
      rw [hb, bd_s, m_in, bd_s, gd_of (by split; exact Or.inr rfl; exact Or.inl rfl)]
  rcases hc with ⟨c1, c2⟩ | ⟨c1, c2⟩
  · obtain ⟨g1, g2, g3⟩ := go 0 (by decide) c2 (m_blk0 c1)
    have hn : ¬ (0 ≤ x ∧ x ≤ nI 0 - 1) := fun q => by
      rw [Int32.le_iff_toInt_le, Int32.le_iff_toInt_le, g3, Int32.toInt_zero] at q
      omega
    rw [g1, g2, if_neg hn]
    exact Or.inr ⟨rfl, rfl⟩
  · have hle := nb_le a3 a2
    obtain ⟨g1, g2, g3⟩ := go (NB M B) hle c2.1 (m_blk1 c1 a2 a3 a4 a5 a6)
    by_cases c : 0 ≤ x ∧ x ≤ nI (NB M B) - 1
    · have h1 : 1 ≤ NB M B := (nb_lt (b := 0) (by omega)).mpr (by omega)
      obtain ⟨b, _, k2, k3⟩ := rng 0 (NB M B - 1) Int32.toInt_zero (by rw [g3]; omega) c
      have hbM := (nb_lt (M := M) (B := B) (b := b) (by omega)).mp (by omega)
      rw [g1, g2, if_pos c]
      refine Or.inl ⟨M, B, b, hm, c1, ha, c2, ?_, hbM, k3, rfl, rfl⟩
      rcases a10 with q | ⟨_, q⟩
      · rw [c1] at q
        exact absurd q (by decide)
      · exact q
    · rw [g1, g2, if_neg c]
      exact Or.inr ⟨rfl, rfl⟩
theorem x_isC {σ μ : Sg} (hS : SR σ 10 (μ 0)) : fX4_isCoded 0 σ = some (if μ 0 1 = 1 then 1 else 0) := by
  obtain ⟨M, B, hm, ha, _, _, hc⟩ := hS
  obtain ⟨a1, a2, a3, a4, _⟩ := hm
  unfold fX4_isCoded
  simp only [Nat.mul_zero, Nat.add_zero]
  rcases hc with ⟨c1, c2⟩ | ⟨c1, c2⟩
  · rw [c2, c1, if_pos (by decide), if_neg (by decide)]
  · have hle := nb_le a3 a2
    have h1 : 1 ≤ NB M B := (nb_lt (b := 0) (by omega)).mpr (by omega)
    rw [c2.1, c1, if_neg (nI_nle (by omega) (by omega)), if_pos rfl]
/-- a coded wave, in one piece -/
theorem SR.cod {σ : Sg} {s : Nat → Int32} (hS : SR σ 10 s) (h1 : s 1 = 1) : ∃ M B, MS s M B ∧ Ba σ 10 s M B ∧ Co σ 10 s M B ∧ CdS s M B := by
  obtain ⟨M, B, hm, ha, _, _, hc⟩ := hS
  have hm' := hm
  obtain ⟨a1, a2, a3, a4, a5, a6, a7, a8, a9, a10⟩ := hm'
  refine ⟨M, B, hm, ha, ?_, ?_⟩
  · rcases hc with ⟨c1, c2⟩ | ⟨c1, c2⟩
    · rw [h1] at c1
      exact absurd c1 (by decide)
    · exact c2
  · rcases a10 with q | ⟨_, q⟩
    · rw [h1] at q
      exact absurd q (by decide)
    · exact q
/-- a code's place, or none -/
theorem cod {σ μ : Sg} (hS : SR σ 10 (μ 0)) (x : Int32) : (∃ M B k, MS (μ 0) M B ∧ μ 0 1 = 1 ∧ Ba σ 10 (μ 0) M B ∧ Co σ 10 (μ 0) M B ∧ CdS (μ 0) M B ∧ k < M ∧ k % B ≠ 0 ∧ x = nI k ∧ fX4_hasCode 0 x σ = some 1 ∧ fX7_hasCode x μ = some 1) ∨ (fX4_hasCode 0 x σ = some 0 ∧ fX7_hasCode x μ = some 0 ∧ ∀ k, x = nI k → k < 2 ^ 31 → ∀ M B, MS (μ 0) M B → μ 0 1 = 1 → k < M → k % B = 0) := by
  have hI := x_isC hS
  by_cases h1 : μ 0 1 = 1
  · rw [if_pos h1] at hI
    obtain ⟨M, B, hm, ha, ho, hd⟩ := hS.cod h1
    have hm' := hm
    obtain ⟨a1, a2, a3, a4, a5, a6, a7, a8, a9, a10⟩ := hm'
    unfold fX4_hasCode fX7_hasCode
    rw [hI, bd_s, m_isC, if_pos h1, bd_s, if_neg (show ¬ (1 : Int32) = 0 by decide), if_neg (show ¬ (1 : Int32) = 0 by decide)]
    rcases smp a1 a2 ha.1 a5 x with ⟨k, hk, rfl, g1, g2⟩ | ⟨g1, g2⟩
    · rw [g1, g2, bd_s, bd_s, if_neg (show ¬ (1 : Int32) = 0 by decide), if_neg (show ¬ (1 : Int32) = 0 by decide), gi (show k < 64 by omega) (by decide), nI_clamp (show k < 2 ^ 31 by omega), a6, gd_of (nI_ne0 (by omega) (by omega)), rem_k (by omega) a3 a4]
      simp only [Nat.mul_zero, Nat.add_zero, Nat.reduceAdd]
      have e6 : σ 16 k = μ 0 (71 + k) := (ho.2.2 k hk).1
      obtain ⟨d1, d2⟩ := hd.2 k hk
      have hB : k % B < B := Nat.mod_lt _ (by omega)
      rw [e6]
      by_cases hq : k % B = 0
      · rw [d1 hq, if_pos rfl, hq, if_pos (by decide)]
        refine Or.inr ⟨rfl, rfl, fun k' he hk' M' B' hm2 _ _ => ?_⟩
        have hkk := (nI_eq (by omega) hk').mp he
        obtain ⟨_, hBB⟩ := hm.one hm2
        rw [hBB, ← hkk]
        exact hq
      · have hc := d2 hq
        unfold c16 at hc
        rw [if_neg (show ¬ μ 0 (71 + k) = -1 from fun q => by rw [q] at hc; revert hc; decide), if_neg (nI_nle (by omega) (by omega))]
        exact Or.inl ⟨M, B, k, hm, h1, ha, ho, hd, hk, hq, rfl, rfl, rfl⟩
    · rw [g1, g2, bd_s, bd_s, if_pos rfl, if_pos rfl]
      refine Or.inr ⟨rfl, rfl, fun k he hk' M' B' hm2 _ hkM => ?_⟩
      obtain ⟨rfl, rfl⟩ := hm.one hm2
      rcases smp a1 a2 ha.1 a5 (nI k) with ⟨k2, _, _, z1, _⟩ | ⟨z1, _⟩
      · rw [he, z1] at g1
        cases g1
      · exfalso
        have : fX4_hasSample 0 (nI k) σ = some 1 := by
          unfold fX4_hasSample
          simp only [Nat.mul_zero, Nat.add_zero]
          rw [if_neg (nI_pos hk'), show σ 10 0 = nI M' from ha.1, if_neg (nI_ge hkM (by omega))]
        rw [this] at z1
        cases z1
  · rw [if_neg h1] at hI
    refine Or.inr ⟨?_, ?_, fun _ _ _ _ _ _ q => absurd q h1⟩
    · unfold fX4_hasCode
      rw [hI, bd_s, if_pos rfl]
    · unfold fX7_hasCode
      rw [m_isC, if_neg h1, bd_s, if_pos rfl]
