/-! PURE: the digest's loops over samples and blocks -/
theorem x_mix (x r : Int64) : fX6_mix x r = some (31 * x + r) := rfl
theorem m_dig (x r : Int64) : fX7_digestOne r x = some (31 * x + r) := rfl
theorem Qt.ms {σ μ σ' μ' : Sg} {M B : Nat} (h : Qt σ μ σ' μ') (hm : MS (μ 0) M B) : MS (μ' 0) M B := by
  rw [h.2.1 0 (by decide)]
  exact hm
theorem dg_S {M B k : Nat} (hk : k < M) (K6 : Int64 → Int32 → Sg → Option (Int64 × Sg)) (K7 : Int32 → Sg → Int64 → Option (Sg × Int64)) : ∀ n f g w x (σ μ : Sg) (dg : Int64), n < f → n < g → w + n = 6 → Rl σ μ dg → MS (μ 0) M B → ∃ x' σ' μ', fX6_mixSamplesAndBlocks_L20 K6 f x (nI k) (nI w) σ = K6 x' (nI (k + 1)) σ' ∧ fX7_digestWave_L14 K7 g (nI k) (nI w) μ x = K7 (nI (k + 1)) μ' x' ∧ Qt σ μ σ' μ' := by
  intro n
  induction n with
  | zero =>
    intro f g w x σ μ dg hf hg hw hR hm
    obtain ⟨f, rfl⟩ := fu1 hf
    obtain ⟨g, rfl⟩ := fu1 hg
    obtain rfl : w = 6 := by omega
    refine ⟨x, σ, μ, ?_, ?_, Qt.rf hR⟩
    · rw [fX6_mixSamplesAndBlocks_L20, if_pos (show (6 : Int32) ≤ nI 6 by decide), nm_s, nI_1]
    · rw [fX7_digestWave_L14, if_pos (show (6 : Int32) ≤ nI 6 by decide), nm_s, nI_1]
  | succ n ih =>
    intro f g w x σ μ dg hf hg hw hR hm
    obtain ⟨f, rfl⟩ := fu1 hf
    obtain ⟨g, rfl⟩ := fu1 hg
    obtain ⟨r, σ1, μ1, e1, e2, e3⟩ := so_core (w := w) hR hm hk (by omega)
    obtain ⟨x', σ', μ', d1, d2, d3⟩ := ih f g (w + 1) (31 * x + r.toInt64) σ1 μ1 dg (by omega) (by omega) (by omega) (e3.2.2.2 dg) (e3.ms hm)
    refine ⟨x', σ', μ', ?_, ?_, e3.tr d3⟩
    · rw [fX6_mixSamplesAndBlocks_L20, if_neg (show ¬ (6 : Int32) ≤ nI w from nI_ge (b := 6) (by omega) (by decide)), e1, bo_s, x_mix, bd_s, nm_s, nI_1]
      exact d1
    · rw [fX7_digestWave_L14, if_neg (show ¬ (6 : Int32) ≤ nI w from nI_ge (b := 6) (by omega) (by decide)), e2, bd2_s, m_dig, bd_s, nm_s, nI_1]
      exact d2
theorem dg_SS {M B : Nat} : ∀ n f g k x (σ μ : Sg) (dg : Int64), n < f → n < g → k + n = M → Rl σ μ dg → MS (μ 0) M B → ∃ x' σ' μ', fX6_mixSamplesAndBlocks_L5 f x (nI k) σ = fX6_mixSamplesAndBlocks_L56 80 x' (nI 0) σ' ∧ fX7_digestWave_L2 g (nI k) μ x = fX7_digestWave_L45 80 (nI 0) μ' x' ∧ Qt σ μ σ' μ' := by
  intro n
  induction n with
  | zero =>
    intro f g k x σ μ dg hf hg hk hR hm
    obtain ⟨f, rfl⟩ := fu1 hf
    obtain ⟨g, rfl⟩ := fu1 hg
    have hR' := hR
    obtain ⟨⟨M', B', hm2, ha, _⟩, _⟩ := hR'
    obtain ⟨rfl, rfl⟩ := hm2.one hm
    have hm' := hm
    obtain ⟨m1, m2, m3, m4, m5, _⟩ := hm'
    refine ⟨x, σ, μ, ?_, ?_, Qt.rf hR⟩
    · rw [fX6_mixSamplesAndBlocks_L5]
      simp only [Nat.mul_zero, Nat.add_zero]
      rw [show σ 10 0 = nI M from ha.1, if_pos (nI_le (by omega) (by omega)), n0]
    · rw [fX7_digestWave_L2, m5, if_pos (nI_le (by omega) (by omega)), n0]
  | succ n ih =>
    intro f g k x σ μ dg hf hg hk hR hm
    obtain ⟨f, rfl⟩ := fu1 hf
    obtain ⟨g, rfl⟩ := fu1 hg
    have hR' := hR
    obtain ⟨⟨M', B', hm2, ha, _⟩, _⟩ := hR'
    obtain ⟨rfl, rfl⟩ := hm2.one hm
    have hm' := hm
    obtain ⟨m1, m2, m3, m4, m5, _⟩ := hm'
    obtain ⟨x1, σ1, μ1, e1, e2, e3⟩ := dg_S (M := M) (B := B) (k := k) (by omega) (fun x3 x5 σ => fX6_mixSamplesAndBlocks_L5 f x3 x5 σ) (fun x1 μ dg => fX7_digestWave_L2 g x1 μ dg) 6 80 80 0 x σ μ dg (by decide) (by decide) (by decide) hR hm
    obtain ⟨x', σ', μ', d1, d2, d3⟩ := ih f g (k + 1) x1 σ1 μ1 dg (by omega) (by omega) (by omega) (e3.2.2.2 dg) (e3.ms hm)
    refine ⟨x', σ', μ', ?_, ?_, e3.tr d3⟩
    · rw [fX6_mixSamplesAndBlocks_L5]
      simp only [Nat.mul_zero, Nat.add_zero]
      rw [show σ 10 0 = nI M from ha.1, if_neg (nI_ge (by omega) (by omega)), n0, e1]
      exact d1
    · rw [fX7_digestWave_L2, m5, if_neg (nI_ge (by omega) (by omega)), n0, e2]
      exact d2
theorem dg_B {M B b : Nat} (hb : b * B < M) (K6 : Int64 → Int32 → Sg → Option (Int64 × Sg)) (K7 : Int32 → Sg → Int64 → Option (Sg × Int64)) : ∀ n f g w x (σ μ : Sg) (dg : Int64), n < f → n < g → w + n = 6 → Rl σ μ dg → MS (μ 0) M B → μ 0 1 = 1 → ∃ x' σ' μ', fX6_mixSamplesAndBlocks_L71 K6 f x (nI b) (nI w) σ = K6 x' (nI (b + 1)) σ' ∧ fX7_digestWave_L55 K7 g (nI b) (nI w) μ x = K7 (nI (b + 1)) μ' x' ∧ Qt σ μ σ' μ' := by
  intro n
  induction n with
  | zero =>
    intro f g w x σ μ dg hf hg hw hR hm h1
    obtain ⟨f, rfl⟩ := fu1 hf
    obtain ⟨g, rfl⟩ := fu1 hg
    obtain rfl : w = 6 := by omega
    refine ⟨x, σ, μ, ?_, ?_, Qt.rf hR⟩
    · rw [fX6_mixSamplesAndBlocks_L71, if_pos (show (6 : Int32) ≤ nI 6 by decide), nm_s, nI_1]
    · rw [fX7_digestWave_L55, if_pos (show (6 : Int32) ≤ nI 6 by decide), nm_s, nI_1]
  | succ n ih =>
    intro f g w x σ μ dg hf hg hw hR hm h1
    obtain ⟨f, rfl⟩ := fu1 hf
    obtain ⟨g, rfl⟩ := fu1 hg
    obtain ⟨r, σ1, μ1, e1, e2, e3⟩ := bo_core (w := w) hR hm h1 hb (by omega)
    obtain ⟨x', σ', μ', d1, d2, d3⟩ := ih f g (w + 1) (31 * x + r.toInt64) σ1 μ1 dg (by omega) (by omega) (by omega) (e3.2.2.2 dg) (e3.ms hm) (by rw [e3.2.1 0 (by decide)]; exact h1)
    refine ⟨x', σ', μ', ?_, ?_, e3.tr d3⟩
    · rw [fX6_mixSamplesAndBlocks_L71, if_neg (show ¬ (6 : Int32) ≤ nI w from nI_ge (b := 6) (by omega) (by decide)), e1, bo_s, x_mix, bd_s, nm_s, nI_1]
      exact d1
    · rw [fX7_digestWave_L55, if_neg (show ¬ (6 : Int32) ≤ nI w from nI_ge (b := 6) (by omega) (by decide)), e2, bd2_s, m_dig, bd_s, nm_s, nI_1]
      exact d2
/-- how many blocks both count -/
theorem nbk {σ μ : Sg} {M B : Nat} (hS : SR σ 10 (μ 0)) (hm : MS (μ 0) M B) : ∃ N, N ≤ 32 ∧ σ 10 3 = nI N ∧ fX7_blocks μ = some (nI N) ∧ ∀ b, b < N → μ 0 1 = 1 ∧ b * B < M := by
  have hS' := hS
  obtain ⟨M', B', hm2, ha, _, _, hc⟩ := hS'
  obtain ⟨rfl, rfl⟩ := hm2.one hm
  have hm' := hm
  obtain ⟨m1, m2, m3, m4, m5, m6, _⟩ := hm'
  rcases hc with ⟨c1, c2⟩ | ⟨c1, c2⟩
  · exact ⟨0, by decide, c2, m_blk0 c1, fun b hb => by omega⟩
  · exact ⟨NB M B, nb_le m3 m2, c2.1, m_blk1 c1 m2 m3 m4 m5 m6, fun b hb => ⟨c1, (nb_lt (by omega)).mp hb⟩⟩
theorem dg_BB {M B N : Nat} (hN : N ≤ 32) : ∀ n f g b x (σ μ : Sg) (dg : Int64), n < f → n < g → b + n = N → Rl σ μ dg → MS (μ 0) M B → σ 10 3 = nI N → fX7_blocks μ = some (nI N) → (∀ b, b < N → μ 0 1 = 1 ∧ b * B < M) → ∃ x' σ' μ', fX6_mixSamplesAndBlocks_L56 f x (nI b) σ = some (x', σ') ∧ fX7_digestWave_L45 g (nI b) μ x = (bd (fX7_best 0 (μ' 0 0) μ') fun r24 => bd (fX7_digestOne ((r24).toInt64) x') fun g26 => fX7_digestWave_L102 80 0 μ' g26) ∧ Qt σ μ σ' μ' := by
  intro n
  induction n with
  | zero =>
    intro f g b x σ μ dg hf hg hb hR hm h3 hbl hN2
    obtain ⟨f, rfl⟩ := fu1 hf
    obtain ⟨g, rfl⟩ := fu1 hg
    refine ⟨x, σ, μ, ?_, ?_, Qt.rf hR⟩
    · rw [fX6_mixSamplesAndBlocks_L56]
      simp only [Nat.mul_zero, Nat.add_zero]
      rw [h3, if_pos (nI_le (by omega) (by omega))]
    · rw [fX7_digestWave_L45, hbl, bd_s, if_pos (nI_le (by omega) (by omega))]
  | succ n ih =>
    intro f g b x σ μ dg hf hg hb hR hm h3 hbl hN2
    obtain ⟨f, rfl⟩ := fu1 hf
    obtain ⟨g, rfl⟩ := fu1 hg
    obtain ⟨q1, q2⟩ := hN2 b (by omega)
    obtain ⟨x1, σ1, μ1, e1, e2, e3⟩ := dg_B (M := M) (B := B) q2 (fun x3 x5 σ => fX6_mixSamplesAndBlocks_L56 f x3 x5 σ) (fun x1 μ dg => fX7_digestWave_L45 g x1 μ dg) 6 80 80 0 x σ μ dg (by decide) (by decide) (by decide) hR hm q1
    have f0 : μ1 0 = μ 0 := e3.2.1 0 (by decide)
    have hbl1 : fX7_blocks μ1 = some (nI N) := by
      have : fX7_blocks μ1 = fX7_blocks μ := by
        unfold fX7_blocks fX7_isCoded
        rw [f0]
      rw [this, hbl]
    obtain ⟨x', σ', μ', d1, d2, d3⟩ := ih f g (b + 1) x1 σ1 μ1 dg (by omega) (by omega) (by omega) (e3.2.2.2 dg) (e3.ms hm) (by rw [e3.1 10 (by decide)]; exact h3) hbl1 (fun i hi => by rw [f0]; exact hN2 i hi)
    refine ⟨x', σ', μ', ?_, ?_, e3.tr d3⟩
    · rw [fX6_mixSamplesAndBlocks_L56]
      simp only [Nat.mul_zero, Nat.add_zero]
      rw [h3, if_neg (nI_ge (by omega) (by omega)), n0, e1]
      exact d1
    · rw [fX7_digestWave_L45, hbl, bd_s, if_neg (nI_ge (by omega) (by omega)), n0, e2]
      exact d2
theorem dg_W {M B : Nat} : ∀ n f g k x (σ μ : Sg) (dg : Int64), n < f → n < g → k + n = M → Rl σ μ dg → MS (μ 0) M B → ∃ x' σ' μ', fX6_mixWhatWouldBe_L21 f x (nI k) σ = some (x', σ') ∧ fX7_digestWave_L102 g (nI k) μ x = some (μ', x') ∧ Qt σ μ σ' μ' := by
  intro n
  induction n with
  | zero =>
    intro f g k x σ μ dg hf hg hk hR hm
    obtain ⟨f, rfl⟩ := fu1 hf
    obtain ⟨g, rfl⟩ := fu1 hg
    have hR' := hR
    obtain ⟨⟨M', B', hm2, ha, _⟩, _⟩ := hR'
    obtain ⟨rfl, rfl⟩ := hm2.one hm
    have hm' := hm
    obtain ⟨m1, m2, m3, m4, m5, _⟩ := hm'
    refine ⟨x, σ, μ, ?_, ?_, Qt.rf hR⟩
    · rw [fX6_mixWhatWouldBe_L21]
      simp only [Nat.mul_zero, Nat.add_zero]
      rw [show σ 10 0 = nI M from ha.1, if_pos (nI_le (by omega) (by omega))]
    · rw [fX7_digestWave_L102, m5, if_pos (nI_le (by omega) (by omega))]
  | succ n ih =>
    intro f g k x σ μ dg hf hg hk hR hm
    obtain ⟨f, rfl⟩ := fu1 hf
    obtain ⟨g, rfl⟩ := fu1 hg
    have hR' := hR
    obtain ⟨hS, _⟩ := hR'
    have hS' := hS
    obtain ⟨M', B', hm2, ha, _⟩ := hS'
    obtain ⟨rfl, rfl⟩ := hm2.one hm
    have hm' := hm
    obtain ⟨m1, m2, m3, m4, m5, _⟩ := hm'
    have n10 : ¬ (1 : Int32) = 0 := by decide
    have e6 : ∀ y : Sg → Option (Int64 × Sg), (if σ (10 + 8 * 0) 0 ≤ nI k then some (x, σ) else y σ) = y σ := fun y => by
      simp only [Nat.mul_zero, Nat.add_zero]
      rw [show σ 10 0 = nI M from ha.1, if_neg (nI_ge (by omega) (by omega))]
    rw [fX6_mixWhatWouldBe_L21, fX7_digestWave_L102, m5, if_neg (show ¬ nI M ≤ nI k from nI_ge (by omega) (by omega))]
    simp only [Nat.mul_zero, Nat.add_zero]
    rw [show σ 10 0 = nI M from ha.1, if_neg (show ¬ nI M ≤ nI k from nI_ge (by omega) (by omega))]
    rcases cod hS (nI k) with ⟨M4, B4, k4, hm4, h1, _, _, _, hk4, hkB, ek, g1, g2⟩ | ⟨g1, g2, _⟩
    · obtain ⟨rfl, rfl⟩ := hm4.one hm
      have hkk : k = k4 := (nI_eq (by omega) (by omega)).mp ek
      subst hkk
      rw [g1, bd_s, if_neg n10, g2, bd_s, if_neg n10]
      obtain ⟨r, σ1, μ1, e1, e2, e3⟩ := sp_core (b := 3) hR hm h1 hk4 hkB (by decide)
      obtain ⟨x', σ', μ', d1, d2, d3⟩ := ih f g (k + 1) (31 * x + r.toInt64) σ1 μ1 dg (by omega) (by omega) (by omega) (e3.2.2.2 dg) (e3.ms hm)
      refine ⟨x', σ', μ', ?_, ?_, e3.tr d3⟩
      · rw [show (3 : Int32) = nI 3 from rfl, e1, bo_s, x_mix, bd_s, nm_s, nI_1]
        exact d1
      · rw [show (3 : Int32) = nI 3 from rfl, e2, bd2_s, m_dig, bd_s, nm_s, nI_1]
        exact d2
    · rw [g1, bd_s, if_pos rfl, g2, bd_s, if_pos rfl, nm_s, nm_s, nI_1]
      exact ih f g (k + 1) x σ μ dg (by omega) (by omega) (by omega) hR hm
/-- samples, blocks, the best start, what would spread -/
theorem dg_wave {M B : Nat} {x : Int64} {σ μ : Sg} {dg : Int64} (hR : Rl σ μ dg) (hm : MS (μ 0) M B) : ∃ x1 x' σ1 σ' μ', fX6_mixSamplesAndBlocks x σ = some (x1, σ1) ∧ fX6_mixWhatWouldBe x1 σ1 = some (x', σ') ∧ fX7_digestWave μ x = some (μ', x') ∧ Qt σ μ σ' μ' := by
  have hm' := hm
  obtain ⟨m1, m2, m3, m4, m5, _⟩ := hm'
  obtain ⟨xa, σa, μa, a1, a2, a3⟩ := dg_SS (M := M) (B := B) M 80 80 0 x σ μ dg (by omega) (by omega) (by omega) hR hm
  have hRa := a3.2.2.2 dg
  have hma := a3.ms hm
  have hRa' := hRa
  obtain ⟨hSa, _⟩ := hRa'
  obtain ⟨N, N1, N2, N3, N4⟩ := nbk hSa hma
  obtain ⟨xb, σb, μb, b1, b2, b3⟩ := dg_BB (M := M) (B := B) N1 N 80 80 0 xa σa μa dg (by omega) (by omega) (by omega) hRa hma N2 N3 N4
  have hRb := b3.2.2.2 dg
  have hmb := b3.ms hma
  obtain ⟨r, σc, c1, c2, c3, c4⟩ := bs_core (a := 0) (m := M) hRb hmb m1 (by omega)
  have hQc : Qt σb μb σc μb := ⟨fun q hq => c3 q (by omega), fun _ _ => rfl, rfl, c4⟩
  obtain ⟨xd, σd, μd, d1, d2, d3⟩ := dg_W (M := M) (B := B) M 80 80 0 (31 * xb + (nI r).toInt64) σc μb dg (by omega) (by omega) (by omega) (c4 dg) hmb
  have eb0 : μb 0 0 = nI M := hmb.2.2.2.2.1
  have es0 : σb 10 0 = nI M := by
    have hRb' := hRb
    obtain ⟨⟨M', B', hm2, ha, _⟩, _⟩ := hRb'
    obtain ⟨rfl, rfl⟩ := hm2.one hmb
    exact ha.1
  refine ⟨xb, xd, σb, σd, μd, ?_, ?_, ?_, ((a3.tr b3).tr hQc).tr d3⟩
  · unfold fX6_mixSamplesAndBlocks
    rw [n0, a1, b1]
  · unfold fX6_mixWhatWouldBe
    simp only [Nat.mul_zero, Nat.add_zero]
    rw [es0, n0, c1, bo_s, x_mix, bd_s]
    exact d1
  · unfold fX7_digestWave
    rw [n0, a2, b2, eb0, n0, c2, bd_s, m_dig, bd_s]
    exact d2
/-- the end of the hash: what is kept, the buffer -/
theorem dg_buf {L : Nat} (hL : L ≤ 40) : ∀ n f g k x (σ μ : Sg), n < f → n < g → k + n = L → σ 5 1 = nI L → μ 20 7 = nI L → (∀ i, i < L → σ 6 i = μ 4 i) → ∃ x', fX6_digest_L141 f x (nI k) σ = some (x', σ) ∧ fX7_digest_L136 g (nI k) μ x = some (x', μ, x') := by
  intro n
  induction n with
  | zero =>
    intro f g k x σ μ hf hg hk h1 h7 hv
    obtain ⟨f, rfl⟩ := fu1 hf
    obtain ⟨g, rfl⟩ := fu1 hg
    refine ⟨x, ?_, ?_⟩
    · rw [fX6_digest_L141, h1, if_pos (nI_le (by omega) (by omega))]
    · rw [fX7_digest_L136, h7, if_pos (nI_le (by omega) (by omega))]
  | succ n ih =>
    intro f g k x σ μ hf hg hk h1 h7 hv
    obtain ⟨f, rfl⟩ := fu1 hf
    obtain ⟨g, rfl⟩ := fu1 hg
    obtain ⟨x', d1, d2⟩ := ih f g (k + 1) (31 * x + (μ 4 k).toInt64) σ μ (by omega) (by omega) (by omega) h1 h7 hv
    refine ⟨x', ?_, ?_⟩
    · rw [fX6_digest_L141, h1, if_neg (nI_ge (by omega) (by omega)), gi (show k < 40 by omega) (by decide), nI_clamp (show k < 2 ^ 31 by omega), hv k (by omega), x_mix, bd_s, nm_s, nI_1]
      exact d1
    · rw [fX7_digest_L136, h7, if_neg (nI_ge (by omega) (by omega)), gi (show k < 40 by omega) (by decide), nI_clamp (show k < 2 ^ 31 by omega), m_dig, bd_s, nm_s, nI_1]
      exact d2
theorem dg_end {x : Int64} {σ μ : Sg} {dg : Int64} (hR : Rl σ μ dg) : ∃ x', fX6_digest_L96 80 x 0 σ = some (x', σ) ∧ (if μ 3 0 = 0 then fX7_digest_b104 0 μ x else fX7_digest_b104 1 μ x) = some (x', μ, x') := by
  obtain ⟨_, _, _, hK, ⟨L, L1, L2, L3, L4⟩, _, _⟩ := hR
  obtain ⟨F, hF⟩ : ∃ F, F + 1 + 1 + 1 = 80 := ⟨77, rfl⟩
  have hs : ∀ u, u < 2 → ∃ v : Int64, (∀ f y, fX6_digest_L96 (f + 1) y (nI u) σ = fX6_digest_L96 f (31 * y + v) (nI (u + 1)) σ) ∧ ((μ 3 u = 0 ∧ v = 0) ∨ (¬ μ 3 u = 0 ∧ v = 1)) := by
    intro u hu
    obtain ⟨w1, w2⟩ := hK u hu
    have hin : ∀ f y, fX6_digest_L96 (f + 1) y (nI u) σ = (if σ 4 u = 0 then (bd (fX6_mix y 0) fun r12 => nm (nI u + 1) fun x3_13 => fX6_digest_L96 f r12 x3_13 σ) else (bd (fX6_mix y 1) fun r15 => nm (nI u + 1) fun x3_16 => fX6_digest_L96 f r15 x3_16 σ)) := by
      intro f y
      rw [fX6_digest_L96, if_neg (show ¬ (2 : Int32) ≤ nI u from nI_ge (b := 2) hu (by decide)), gi hu (by decide), nI_clamp (show u < 2 ^ 31 by omega)]
    by_cases q : μ 3 u = 0
    · refine ⟨0, fun f y => ?_, Or.inl ⟨q, rfl⟩⟩
      rw [hin, w1, if_pos q, x_mix, bd_s, nm_s, nI_1]
    · refine ⟨1, fun f y => ?_, Or.inr ⟨q, rfl⟩⟩
      rw [hin, w1, if_neg q, x_mix, bd_s, nm_s, nI_1]
  obtain ⟨v0, p0, q0⟩ := hs 0 (by decide)
  obtain ⟨v1, p1, q1⟩ := hs 1 (by decide)
  obtain ⟨x', d1, d2⟩ := dg_buf L1 L 80 80 0 (31 * (31 * (31 * x + v0) + v1) + (nI L).toInt64) σ μ (by omega) (by omega) (by omega) L2 L3 L4
  refine ⟨x', ?_, ?_⟩
  · rw [← hF, n0, p0, p1, fX6_digest_L96, if_pos (show (2 : Int32) ≤ nI (1 + 1) by decide), L2, x_mix, bd_s, n0]
    exact d1
  · have hb122 : ∀ (w y : Int64), fX7_digest_b122 w μ y = fX7_digest_L136 80 (nI 0) μ (31 * (31 * y + w) + (nI L).toInt64) := by
      intro w y
      unfold fX7_digest_b122
      rw [m_dig, bd_s, L3, m_dig, bd_s, n0]
    have hb104 : ∀ w : Int64, fX7_digest_b104 w μ x = fX7_digest_L136 80 (nI 0) μ (31 * (31 * (31 * x + w) + v1) + (nI L).toInt64) := by
      intro w
      unfold fX7_digest_b104
      rw [m_dig, bd_s]
      rcases q1 with ⟨z1, z2⟩ | ⟨z1, z2⟩
      · rw [if_pos z1, hb122, z2]
      · rw [if_neg z1, hb122, z2]
    rcases q0 with ⟨z1, z2⟩ | ⟨z1, z2⟩
    · rw [if_pos z1, hb104, ← z2, d2]
    · rw [if_neg z1, hb104, ← z2, d2]
