/-! PURE: the calls, one by one: those that change the wave -/
theorem SR.unc {σ : Sg} {s : Nat → Int32} (M B : Nat) (h1 : 1 ≤ M) (h2 : M ≤ 64) (h3 : 2 ≤ B) (h4 : B ≤ 16) (a0 : σ 10 0 = nI M) (b0 : s 0 = nI M) (a2 : σ 12 0 = nI B) (b2 : s 2 = nI B) (a3 : σ 12 1 = s 3) (a4 : σ 12 2 = s 4) (b3 : s 3 = 0 ∨ s 3 = 1) (b4 : s 4 = 0 ∨ s 4 = 1 ∨ s 4 = 2) (hv : ∀ k, k < M → σ 11 k = s (7 + k) ∧ inV (s (7 + k))) (a9 : σ 10 9 = s 5) (a10 : σ 10 10 = s 6) (c1 : s 1 = 0) (c3 : σ 10 3 = 0) : SR σ 10 s :=
  ⟨M, B, ⟨h1, h2, h3, h4, b0, b2, b3, b4, fun k hk => (hv k hk).2, Or.inl c1⟩, ⟨a0, a2, a3, a4, fun k hk => (hv k hk).1⟩, a9, a10, Or.inl ⟨c1, c3⟩⟩
theorem Rl.op {σ μ σ' μ' : Sg} {dg dg' : Int64} (hR : Rl σ μ dg) (hS : SR σ' 10 (μ' 0)) (hB : Bo σ' 10) (hσ : ∀ q, (q < 10 ∨ (18 ≤ q ∧ q < 82)) → σ' q = σ q) (h86 : σ' 86 3 = 0) (hμ : ∀ q, 1 ≤ q → q < 6 → μ' q = μ q) (h20 : μ' 20 = μ 20) : Rl σ' μ' dg' := by
  have hR' := hR
  obtain ⟨_, _, _, _, r5, _, _⟩ := hR'
  exact hR.re hS hB (r5.fr (by rw [hσ 5 (by decide)]) (hσ 6 (by decide)) (by rw [h20]) (hμ 4 (by decide) (by decide))) (Or.inl h86) (fun q hq => hσ q (by omega)) (hμ 1 (by decide) (by decide)) (hμ 2 (by decide) (by decide)) (hμ 3 (by decide) (by decide)) (hμ 5 (by decide) (by decide)) (by rw [h20])
theorem x_bsL : ∀ n f k (τ : Sg), n < f → k + n = 64 → ∃ τ', fX4_becomeSilence_L7 0 f (nI k) τ = some τ' ∧ (∀ q, q ≠ 10 → q ≠ 11 → τ' q = τ q) ∧ τ' 10 = upd (τ 10) 3 0 ∧ ∀ i, τ' 11 i = if k ≤ i ∧ i < 64 then 0 else τ 11 i := by
  intro n
  induction n with
  | zero =>
    intro f k τ hf hk
    obtain ⟨f, rfl⟩ := fu1 hf
    obtain rfl : k = 64 := by omega
    rw [fX4_becomeSilence_L7, if_pos (show (64 : Int32) ≤ nI 64 by decide)]
    unfold fX4_forgetBlocks
    simp only [nm_s, bd_s, Nat.mul_zero, Nat.add_zero]
    exact ⟨_, rfl, fun q h1 h2 => up2_ne h1, up2_self _ _ _ _, fun i => by rw [up2_ne (by decide), if_neg (by omega)]⟩
  | succ n ih =>
    intro f k τ hf hk
    obtain ⟨f, rfl⟩ := fu1 hf
    rw [fX4_becomeSilence_L7, if_neg (show ¬ (64 : Int32) ≤ nI k from nI_ge (a := k) (b := 64) (by omega) (by decide)), gi (show k < 64 by omega) (by decide), nI_clamp (show k < 2 ^ 31 by omega)]
    simp only [nm_s, nI_1, Nat.mul_zero, Nat.add_zero, Nat.reduceAdd]
    obtain ⟨τ', a1, a2, a3, a4⟩ := ih f (k + 1) (up2 τ 11 k 0) (by omega) (by omega)
    refine ⟨τ', a1, fun q h1 h2 => by rw [a2 q h1 h2, up2_ne h2], by rw [a3, up2_ne (by decide)], fun i => ?_⟩
    rw [a4 i, up2_self]
    by_cases h1 : k + 1 ≤ i ∧ i < 64
    · rw [if_pos h1, if_pos (by omega)]
    · rw [if_neg h1]
      by_cases h2 : i = k
      · rw [h2, pk_us, if_pos (by omega)]
      · rw [pk_un h2, if_neg (by omega)]
theorem m_ncL : ∀ n f k (u : Sg), n < f → k + n = 32 → ∃ u', fX7_notCoded_L9 f (nI k) u = some u' ∧ (∀ q, q ≠ 0 → u' q = u q) ∧ ∀ i, i < 263 + k → u' 0 i = u 0 i := by
  intro n
  induction n with
  | zero =>
    intro f k u hf hk
    obtain ⟨f, rfl⟩ := fu1 hf
    obtain rfl : k = 32 := by omega
    rw [fX7_notCoded_L9, if_pos (show (32 : Int32) ≤ nI 32 by decide)]
    exact ⟨u, rfl, fun _ _ => rfl, fun _ _ => rfl⟩
  | succ n ih =>
    intro f k u hf hk
    obtain ⟨f, rfl⟩ := fu1 hf
    rw [fX7_notCoded_L9, if_neg (show ¬ (32 : Int32) ≤ nI k from nI_ge (a := k) (b := 32) (by omega) (by decide)), o263, gi (show 263 + k < 295 by omega) (by decide), nI_clamp (show 263 + k < 2 ^ 31 by omega)]
    simp only [nm_s, nI_1]
    obtain ⟨u', a1, a2, a3⟩ := ih f (k + 1) (up2 u 0 (263 + k) 0) (by omega) (by omega)
    refine ⟨u', a1, fun q h => by rw [a2 q h, up2_ne h], fun i hi => ?_⟩
    rw [a3 i (by omega), up2_self, pk_un (by omega)]
theorem m_nc (u : Sg) : ∃ u', fX7_notCoded u = some u' ∧ (∀ q, q ≠ 0 → u' q = u q) ∧ u' 0 1 = 0 ∧ ∀ i, i ≠ 1 → i < 263 → u' 0 i = u 0 i := by
  obtain ⟨u', a1, a2, a3⟩ := m_ncL 32 80 0 (up2 u 0 1 0) (by decide) (by decide)
  refine ⟨u', ?_, fun q h => by rw [a2 q h, up2_ne h], by rw [a3 1 (by decide), up2_self, pk_us], fun i h1 h2 => by rw [a3 i (by omega), up2_self, pk_un h1]⟩
  unfold fX7_notCoded
  rw [nm_s, show (fX7_notCoded_L9 80 0 (up2 u 0 1 0) = fX7_notCoded_L9 80 (nI 0) (up2 u 0 1 0)) from by rw [← n0]]
  exact a1
theorem m_wvL : ∀ n f x k (u : Sg), n < f → k + n = 64 → ∃ u', fX7_wave_L44 f x (nI k) u = some (x, u') ∧ (∀ q, q ≠ 0 → u' q = u q) ∧ u' 0 1 = 0 ∧ (∀ i, i ≠ 1 → i < 7 → u' 0 i = u 0 i) ∧ ∀ i, k ≤ i → i < 64 → u' 0 (7 + i) = 0 := by
  have key : ∀ n f x k (u : Sg), n < f → k + n = 64 → ∃ u1 u', fX7_wave_L44 f x (nI k) u = some (x, u') ∧ fX7_notCoded u1 = some u' ∧ (∀ q, q ≠ 0 → u1 q = u q) ∧ (∀ i, i < 7 → u1 0 i = u 0 i) ∧ ∀ i, i < 64 → u1 0 (7 + i) = if k ≤ i then 0 else u 0 (7 + i) := by
    intro n
    induction n with
    | zero =>
      intro f x k u hf hk
      obtain ⟨f, rfl⟩ := fu1 hf
      obtain rfl : k = 64 := by omega
      obtain ⟨u', a1, _⟩ := m_nc u
      rw [fX7_wave_L44, if_pos (show (64 : Int32) ≤ nI 64 by decide), a1, bd_s]
      exact ⟨u, u', rfl, a1, fun _ _ => rfl, fun _ _ => rfl, fun i hi => by rw [if_neg (by omega)]⟩
    | succ n ih =>
      intro f x k u hf hk
      obtain ⟨f, rfl⟩ := fu1 hf
      rw [fX7_wave_L44, if_neg (show ¬ (64 : Int32) ≤ nI k from nI_ge (a := k) (b := 64) (by omega) (by decide)), o7, gi (show 7 + k < 295 by omega) (by decide), nI_clamp (show 7 + k < 2 ^ 31 by omega)]
      simp only [nm_s, nI_1]
      obtain ⟨u1, u', a1, a2, a3, a4, a5⟩ := ih f x (k + 1) (up2 u 0 (7 + k) 0) (by omega) (by omega)
      refine ⟨u1, u', a1, a2, fun q h => by rw [a3 q h, up2_ne h], fun i hi => by rw [a4 i hi, up2_self, pk_un (by omega)], fun i hi => ?_⟩
      rw [a5 i hi, up2_self]
      by_cases h1 : k + 1 ≤ i
      · rw [if_pos h1, if_pos (by omega)]
      · rw [if_neg h1]
        by_cases h2 : i = k
        · rw [h2, pk_us, if_pos (by omega)]
        · rw [pk_un (by omega), if_neg (by omega)]
  intro n f x k u hf hk
  obtain ⟨u1, u', a1, a2, a3, a4, a5⟩ := key n f x k u hf hk
  obtain ⟨u2, b1, b2, b3, b4⟩ := m_nc u1
  rw [a2] at b1
  cases b1
  refine ⟨u', a1, fun q h => by rw [b2 q h, a3 q h], b3, fun i h1 h2 => by rw [b4 i h1 (by omega), a4 i h2], fun i h1 h2 => by rw [b4 (7 + i) (by omega) (by omega), a5 i h2, if_pos h1]⟩
theorem th_in {x lo hi : Int32} (h : ¬ (lo ≤ x ∧ x ≤ hi)) : x < lo ∨ ¬ x ≤ hi := by
  rw [Int32.lt_iff_toInt_lt]
  rw [Int32.le_iff_toInt_le, Int32.le_iff_toInt_le] at h
  rw [Int32.le_iff_toInt_le]
  omega
