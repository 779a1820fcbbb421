/-! PURE: the calls, one by one: those that change the wave -/
theorem SR.unc {σ : Sg} {s : Nat → Int32} (M B : Nat) (h1 : 1 ≤ M) (h2 : M ≤ 64) (h3 : 2 ≤ B) (h4 : B ≤ 16) (a0 : σ 10 0 = nI M) (b0 : s 0 = nI M) (a2 : σ 12 0 = nI B) (b2 : s 2 = nI B) (a3 : σ 12 1 = s 3) (a4 : σ 12 2 = s 4) (b3 : s 3 = 0 ∨ s 3 = 1) (b4 : s 4 = 0 ∨ s 4 = 1 ∨ s 4 = 2) (hv : ∀ k, k < M → σ 11 k = s (7 + k) ∧ inV (s (7 + k))) (a9 : σ 10 9 = s 5) (a10 : σ 10 10 = s 6) (c1 : s 1 = 0) (c3 : σ 10 3 = 0) : SR σ 10 s :=
  ⟨M, B, ⟨h1, h2, h3, h4, b0, b2, b3, b4, fun k hk => (hv k hk).2, Or.inl c1⟩, ⟨a0, a2, a3, a4, fun k hk => (hv k hk).1⟩, a9, a10, Or.inl ⟨c1, c3⟩⟩
theorem Rl.op {σ μ σ' μ' : Sg} {dg dg' : Int64} (hR : Rl σ μ dg) (hS : SR σ' 10 (μ' 0)) (hB : Bo σ' 10) (hσ : ∀ q, (q < 10 ∨ (18 ≤ q ∧ q < 82)) → σ' q = σ q) (h86 : σ' 86 3 = 0) (hμ : ∀ q, 1 ≤ q → q < 6 → μ' q = μ q) (h20 : μ' 20 = μ 20) : Rl σ' μ' dg' := by
  have hR' := hR
  obtain ⟨_, _, _, _, r5, _, _⟩ := hR'
  exact hR.re hS hB (r5.fr (by rw [hσ 5 (by decide)]) (hσ 6 (by decide)) (by rw [h20]) (hμ 4 (by decide) (by decide))) (Or.inl h86) (fun q hq => hσ q (by omega)) (hμ 1 (by decide) (by decide)) (hμ 2 (by decide) (by decide)) (hμ 3 (by decide) (by decide)) (hμ 5 (by decide) (by decide)) (by rw [h20])
/-- a call that throws -/
theorem Rl.thr {σ μ : Sg} {dg : Int64} (hR : Rl σ μ dg) {T : List Nat} {e : Nat} {k r : Int32} (hk : ¬ k = 0) (hw : wcd T (.inr e : Int32 ⊕ Nat) = some k) : tel T (.inr e) r (up2 μ 20 0 k 20 0) ∧ Rl σ (up2 μ 20 0 k) dg := by
  rw [up2_self, pk_us]
  exact ⟨⟨hw, hk⟩, hR.th k dg⟩
theorem x_bsL : ∀ n f k (τ : Sg), n < f → k + n = 64 → ∃ τ', fX4_becomeSilence_L7 0 f (nI k) τ = some τ' ∧ (∀ q, q ≠ 10 → q ≠ 11 → τ' q = τ q) ∧ τ' 10 = upd (τ 10) 3 0 ∧ ∀ i, τ' 11 i = if k ≤ i ∧ i < 64 then 0 else τ 11 i := by
  intro n
  induction n with
  | zero =>
    intro f k τ hf hk
    obtain ⟨f, rfl⟩ := fu1 hf
    obtain rfl : k = 64 := by omega
    rw [fX4_becomeSilence_L7, if_pos (show (64 : Int32) ≤ nI 64 by decide)]
    unfold fX4_forgetBlocks
    simp only [nm_s, bd_s, Nat.mul_zero, Nat.add_zero]
    exact ⟨_, rfl, fun q h1 h2 => up2_ne h1, up2_self _ _ _ _, fun i => by rw [up2_ne (by decide), if_neg (by omega)]⟩
  | succ n ih =>
    intro f k τ hf hk
    obtain ⟨f, rfl⟩ := fu1 hf
    rw [fX4_becomeSilence_L7, if_neg (show ¬ (64 : Int32) ≤ nI k from nI_ge (a := k) (b := 64) (by omega) (by decide)), gi (show k < 64 by omega) (by decide), nI_clamp (show k < 2 ^ 31 by omega)]
    simp only [nm_s, nI_1, Nat.mul_zero, Nat.add_zero, Nat.reduceAdd]
    obtain ⟨τ', a1, a2, a3, a4⟩ := ih f (k + 1) (up2 τ 11 k 0) (by omega) (by omega)
    refine ⟨τ', a1, fun q h1 h2 => by rw [a2 q h1 h2, up2_ne h2], by rw [a3, up2_ne (by decide)], fun i => ?_⟩
    rw [a4 i, up2_self]
    by_cases h1 : k + 1 ≤ i ∧ i < 64
    · rw [if_pos h1, if_pos (by omega)]
    · rw [if_neg h1]
      by_cases h2 : i = k
      · rw [h2, pk_us, if_pos (by omega)]
      · rw [pk_un h2, if_neg (by omega)]
theorem m_ncL : ∀ n f k (u : Sg), n < f → k + n = 32 → ∃ u', fX7_notCoded_L9 f (nI k) u = some u' ∧ (∀ q, q ≠ 0 → u' q = u q) ∧ ∀ i, i < 263 + k → u' 0 i = u 0 i := by
  intro n
  induction n with
  | zero =>
    intro f k u hf hk
    obtain ⟨f, rfl⟩ := fu1 hf
    obtain rfl : k = 32 := by omega
    rw [fX7_notCoded_L9, if_pos (show (32 : Int32) ≤ nI 32 by decide)]
    exact ⟨u, rfl, fun _ _ => rfl, fun _ _ => rfl⟩
  | succ n ih =>
    intro f k u hf hk
    obtain ⟨f, rfl⟩ := fu1 hf
    rw [fX7_notCoded_L9, if_neg (show ¬ (32 : Int32) ≤ nI k from nI_ge (a := k) (b := 32) (by omega) (by decide)), o263, gi (show 263 + k < 295 by omega) (by decide), nI_clamp (show 263 + k < 2 ^ 31 by omega)]
    simp only [nm_s, nI_1]
    obtain ⟨u', a1, a2, a3⟩ := ih f (k + 1) (up2 u 0 (263 + k) 0) (by omega) (by omega)
    refine ⟨u', a1, fun q h => by rw [a2 q h, up2_ne h], fun i hi => ?_⟩
    rw [a3 i (by omega), up2_self, pk_un (by omega)]
theorem m_nc (u : Sg) : ∃ u', fX7_notCoded u = some u' ∧ (∀ q, q ≠ 0 → u' q = u q) ∧ u' 0 1 = 0 ∧ ∀ i, i ≠ 1 → i < 263 → u' 0 i = u 0 i := by
  obtain ⟨u', a1, a2, a3⟩ := m_ncL 32 80 0 (up2 u 0 1 0) (by decide) (by decide)
  refine ⟨u', ?_, fun q h => by rw [a2 q h, up2_ne h], by rw [a3 1 (by decide), up2_self, pk_us], fun i h1 h2 => by rw [a3 i (by omega), up2_self, pk_un h1]⟩
  unfold fX7_notCoded
  rw [nm_s, show (fX7_notCoded_L9 80 0 (up2 u 0 1 0) = fX7_notCoded_L9 80 (nI 0) (up2 u 0 1 0)) from by rw [← n0]]
  exact a1
theorem m_wvL : ∀ n f x k (u : Sg), n < f → k + n = 64 → ∃ u', fX7_wave_L44 f x (nI k) u = some (x, u') ∧ (∀ q, q ≠ 0 → u' q = u q) ∧ u' 0 1 = 0 ∧ (∀ i, i ≠ 1 → i < 7 → u' 0 i = u 0 i) ∧ ∀ i, k ≤ i → i < 64 → u' 0 (7 + i) = 0 := by
  have key : ∀ n f x k (u : Sg), n < f → k + n = 64 → ∃ u1 u', fX7_wave_L44 f x (nI k) u = some (x, u') ∧ fX7_notCoded u1 = some u' ∧ (∀ q, q ≠ 0 → u1 q = u q) ∧ (∀ i, i < 7 → u1 0 i = u 0 i) ∧ ∀ i, i < 64 → u1 0 (7 + i) = if k ≤ i then 0 else u 0 (7 + i) := by
    intro n
    induction n with
    | zero =>
      intro f x k u hf hk
      obtain ⟨f, rfl⟩ := fu1 hf
      obtain rfl : k = 64 := by omega
      obtain ⟨u', a1, _⟩ := m_nc u
      rw [fX7_wave_L44, if_pos (show (64 : Int32) ≤ nI 64 by decide), a1, bd_s]
      exact ⟨u, u', rfl, a1, fun _ _ => rfl, fun _ _ => rfl, fun i hi => by rw [if_neg (by omega)]⟩
    | succ n ih =>
      intro f x k u hf hk
      obtain ⟨f, rfl⟩ := fu1 hf
      rw [fX7_wave_L44, if_neg (show ¬ (64 : Int32) ≤ nI k from nI_ge (a := k) (b := 64) (by omega) (by decide)), o7, gi (show 7 + k < 295 by omega) (by decide), nI_clamp (show 7 + k < 2 ^ 31 by omega)]
      simp only [nm_s, nI_1]
      obtain ⟨u1, u', a1, a2, a3, a4, a5⟩ := ih f x (k + 1) (up2 u 0 (7 + k) 0) (by omega) (by omega)
      refine ⟨u1, u', a1, a2, fun q h => by rw [a3 q h, up2_ne h], fun i hi => by rw [a4 i hi, up2_self, pk_un (by omega)], fun i hi => ?_⟩
      rw [a5 i hi, up2_self]
      by_cases h1 : k + 1 ≤ i
      · rw [if_pos h1, if_pos (by omega)]
      · rw [if_neg h1]
        by_cases h2 : i = k
        · rw [h2, pk_us, if_pos (by omega)]
        · rw [pk_un (by omega), if_neg (by omega)]
  intro n f x k u hf hk
  obtain ⟨u1, u', a1, a2, a3, a4, a5⟩ := key n f x k u hf hk
  obtain ⟨u2, b1, b2, b3, b4⟩ := m_nc u1
  rw [a2] at b1
  cases b1
  refine ⟨u', a1, fun q h => by rw [b2 q h, a3 q h], b3, fun i h1 h2 => by rw [b4 i h1 (by omega), a4 i h2], fun i h1 h2 => by rw [b4 (7 + i) (by omega) (by omega), a5 i h2, if_pos h1]⟩
theorem th_in {x lo hi : Int32} (h : ¬ (lo ≤ x ∧ x ≤ hi)) : x < lo ∨ ¬ x ≤ hi := by
  rw [Int32.lt_iff_toInt_lt]
  rw [Int32.le_iff_toInt_le, Int32.le_iff_toInt_le] at h
  rw [Int32.le_iff_toInt_le]
  omega
theorem op_wave : Op_wave Rl := by
  intro σ μ dg hR a1
  by_cases hin : (1 : Int32) ≤ a1 ∧ a1 ≤ 64
  · obtain ⟨j, j1, j2, rfl⟩ := rng 1 64 (by decide) (by decide) hin
    obtain ⟨σ1, μ1, b1, b2, b3, b4, b5, b6, b7⟩ := xm_begin (hR.th 0 dg)
    have b3' := b3 dg
    have b3'' := b3'
    obtain ⟨r1, _, r3, _, r5, _, _⟩ := b3''
    obtain ⟨M, B, hm, ha, h9, h10, hc⟩ := r1
    obtain ⟨m1, m2, m3, m4, m5, m6, m7, m8, m9, m10⟩ := hm
    obtain ⟨τ, t1, t2, t3, t4⟩ := x_bsL 64 80 0 (up2 σ1 10 0 (nI j)) (by decide) (by decide)
    obtain ⟨u, u1, u2, u3, u4, u5⟩ := m_wvL 64 80 (nI M) 0 (up2 μ1 0 0 (nI j)) (by decide) (by decide)
    have hX : fX6_wave (nI j) σ = some (.inl (nI M), τ) := by
      unfold fX6_wave
      rw [if_neg (nlt.mpr hin.1), if_pos hin.2, b1, bd_s, nm_s]
      unfold fX4_becomeSilence
      simp only [nm_s, Nat.mul_zero, Nat.add_zero]
      rw [n0, t1, bd_s, show σ1 10 0 = nI M from ha.1]
    have hM : fX7_wave (nI j) μ = some (nI M, u) := by
      unfold fX7_wave fX7_wave_b16
      rw [m_in, if_pos hin, bd_s, if_neg (show ¬ (1 : Int32) = 0 by decide), m_holds0, bd2_s, if_neg (show ¬ (1 : Int32) = 0 by decide), b2, bd_s, m5, nm_s, nm_s, n0, ← u1]
    have s10 : τ 10 = upd (upd (σ1 10) 0 (nI j)) 3 0 := by rw [t3, up2_self]
    have s12 : τ 12 = σ1 12 := by rw [t2 12 (by decide) (by decide), up2_ne (by decide)]
    have v0 : ∀ i, i ≠ 0 → i ≠ 1 → i < 7 → u 0 i = μ1 0 i := fun i h0 h1 h7 => by rw [u4 i h1 h7, up2_self, pk_un h0]
    refine ⟨_, τ, _, u, hX, hM, ⟨?_, rfl⟩, b3'.op (SR.unc j B j1 j2 m3 m4 ?_ ?_ ?_ ?_ ?_ ?_ ?_ ?_ (fun k hk => ?_) ?_ ?_ u3 ?_) ?_ (fun q hq => ?_) ?_ (fun q h1 h2 => ?_) ?_⟩
    · rw [u2 20 (by decide), up2_ne (by decide), b7 0 (by decide), up2_self, pk_us]
    · rw [s10]; rfl
    · rw [u4 0 (by decide) (by decide), up2_self, pk_us]
    · rw [s12]; exact ha.2.1
    · rw [v0 2 (by decide) (by decide) (by decide)]; exact m6
    · rw [s12, v0 3 (by decide) (by decide) (by decide)]; exact ha.2.2.1
    · rw [s12, v0 4 (by decide) (by decide) (by decide)]; exact ha.2.2.2.1
    · rw [v0 3 (by decide) (by decide) (by decide)]; exact m7
    · rw [v0 4 (by decide) (by decide) (by decide)]; exact m8
    · rw [t4 k, if_pos (by omega), u5 k (by omega) (by omega)]
      exact ⟨rfl, z_inV⟩
    · rw [s10, v0 5 (by decide) (by decide) (by decide)]; exact h9
    · rw [s10, v0 6 (by decide) (by decide) (by decide)]; exact h10
    · rw [s10]; rfl
    · intro k hk
      rw [t2 (10 + 5) (by decide) (by decide), up2_ne (by decide)]
      exact r3 0 (by decide) k hk
    · rw [t2 q (by omega) (by omega), up2_ne (by omega)]
    · rw [t2 86 (by decide) (by decide), up2_ne (by decide)]; exact b4
    · rw [u2 q (by omega), up2_ne (by omega)]
    · rw [u2 20 (by decide), up2_ne (by decide)]
  · have hX : fX6_wave a1 σ = some (.inr 0, σ) := by
      unfold fX6_wave
      rcases th_in hin with h | h
      · rw [if_pos h]
      · rw [if_neg h]
        split <;> rfl
    have hM : fX7_wave a1 μ = some (0, up2 μ 20 0 1) := by
      unfold fX7_wave fX7_wave_b16
      rw [m_in, if_neg hin, bd_s, if_pos rfl, m_holds (by decide), bd2_s, if_pos rfl]
    obtain ⟨t1, t2⟩ := hR.thr (T := [0]) (e := 0) (k := 1) (r := 0) (by decide) rfl
    exact ⟨_, σ, _, _, hX, hM, t1, t2⟩
theorem op_sample : Op_sample Rl := by
  intro σ μ dg hR a1 a2
  have hR' := hR
  obtain ⟨hS, _⟩ := hR'
  obtain ⟨M, B, hm, ha, h9, h10, hc⟩ := hS
  have hm' := hm
  obtain ⟨m1, m2, m3, m4, m5, m6, m7, m8, m9, m10⟩ := hm'
  rcases smp m1 m2 ha.1 m5 a1 with ⟨k, hk, rfl, g1, g2⟩ | ⟨g1, g2⟩
  · by_cases hv : (-2048 : Int32) ≤ a2 ∧ a2 ≤ 2047
    · obtain ⟨σ1, μ1, b1, b2, b3, b4, b5, b6, b7⟩ := xm_begin (hR.th 0 dg)
      have b3' := b3 dg
      have b3'' := b3'
      obtain ⟨_, _, r3, _, r5, _, _⟩ := b3''
      have e10 : ∀ q, 10 ≤ q → q < 18 → σ1 q = σ q := fun q h1 h2 => b5 q (by omega) (by omega) (by omega) (by omega)
      have f0 : μ1 0 = μ 0 := by rw [b6 0 (by decide) (by decide), up2_ne (by decide)]
      obtain ⟨u, u1, u2, u3, u4⟩ := m_nc (up2 μ1 0 (7 + k) a2)
      have hX : fX6_sample (nI k) a2 σ = some (.inl (μ 0 (7 + k) + 10000), up2 (up2 σ1 11 k a2) 10 3 0) := by
        unfold fX6_sample fX4_forgetBlocks
        rw [g1, bd_s, if_neg (show ¬ (1 : Int32) = 0 by decide), x_isV, if_pos hv, bd_s, if_neg (show ¬ (1 : Int32) = 0 by decide), b1, bd_s]
        simp only [gi (show k < 64 by omega) (by decide), nm_s, bd_s, Nat.mul_zero, Nat.add_zero, Nat.reduceAdd]
        rw [nI_clamp (show k < 2 ^ 31 by omega), e10 11 (by decide) (by decide), show σ 11 k = μ 0 (7 + k) from ha.2.2.2.2 k hk]
      have hM : fX7_sample (nI k) a2 μ = some (μ 0 (7 + k) + 10000, u) := by
        unfold fX7_sample fX7_sample_b31
        rw [g2, bd_s, if_neg (show ¬ (1 : Int32) = 0 by decide), m_in, if_pos hv, bd_s, if_neg (show ¬ (1 : Int32) = 0 by decide), m_holds0, bd2_s, if_neg (show ¬ (1 : Int32) = 0 by decide), b2, bd_s, o7]
        simp only [gi (show 7 + k < 295 by omega) (by decide), nm_s]
        rw [nI_clamp (show 7 + k < 2 ^ 31 by omega), u1, bd_s, f0]
      have v0 : ∀ i, i ≠ 1 → i < 263 → i ≠ 7 + k → u 0 i = μ 0 i := fun i h1 h2 h3 => by rw [u4 i h1 h2, up2_self, pk_un h3, f0]
      have s12 : up2 (up2 σ1 11 k a2) 10 3 0 12 = σ 12 := by rw [up2_ne (by decide), up2_ne (by decide), e10 12 (by decide) (by decide)]
      have s10 : up2 (up2 σ1 11 k a2) 10 3 0 10 = upd (σ 10) 3 0 := by rw [up2_self, up2_ne (by decide), e10 10 (by decide) (by decide)]
      refine ⟨_, _, _, u, hX, hM, ⟨?_, rfl⟩, b3'.op (SR.unc M B m1 m2 m3 m4 ?_ ?_ ?_ ?_ ?_ ?_ ?_ ?_ (fun i hi => ?_) ?_ ?_ u3 ?_) ?_ (fun q hq => ?_) ?_ (fun q h1 h2 => ?_) ?_⟩
      · rw [u2 20 (by decide), up2_ne (by decide), b7 0 (by decide), up2_self, pk_us]
      · rw [s10]; exact ha.1
      · rw [v0 0 (by decide) (by decide) (by omega)]; exact m5
      · rw [s12]; exact ha.2.1
      · rw [v0 2 (by decide) (by decide) (by omega)]; exact m6
      · rw [s12, v0 3 (by decide) (by decide) (by omega)]; exact ha.2.2.1
      · rw [s12, v0 4 (by decide) (by decide) (by omega)]; exact ha.2.2.2.1
      · rw [v0 3 (by decide) (by decide) (by omega)]; exact m7
      · rw [v0 4 (by decide) (by decide) (by omega)]; exact m8
      · rw [up2_ne (by decide), up2_self, u4 (7 + i) (by omega) (by omega), up2_self, f0, e10 11 (by decide) (by decide)]
        by_cases h : i = k
        · rw [h, pk_us, pk_us]
          exact ⟨rfl, (inV_iff a2).mp hv⟩
        · rw [pk_un h, pk_un (by omega)]
          exact ⟨ha.2.2.2.2 i hi, m9 i hi⟩
      · rw [s10, v0 5 (by decide) (by decide) (by omega)]; exact h9
      · rw [s10, v0 6 (by decide) (by decide) (by omega)]; exact h10
      · rw [s10]; rfl
      · intro i hi
        rw [up2_ne (by decide), up2_ne (by decide)]
        exact r3 0 (by decide) i hi
      · rw [up2_ne (by omega), up2_ne (by omega)]
      · rw [up2_ne (by decide), up2_ne (by decide)]; exact b4
      · rw [u2 q (by omega), up2_ne (by omega)]
      · rw [u2 20 (by decide), up2_ne (by decide)]
    · have hX : fX6_sample (nI k) a2 σ = some (.inr 0, σ) := by
        unfold fX6_sample
        rw [g1, bd_s, if_neg (show ¬ (1 : Int32) = 0 by decide), x_isV, if_neg hv, bd_s, if_pos rfl]
      have hM : fX7_sample (nI k) a2 μ = some (0, up2 μ 20 0 2) := by
        unfold fX7_sample fX7_sample_b31
        rw [g2, bd_s, if_neg (show ¬ (1 : Int32) = 0 by decide), m_in, if_neg hv, bd_s, if_pos rfl, m_holds (by decide), bd2_s, if_pos rfl]
      obtain ⟨t1, t2⟩ := hR.thr (T := [1, 0]) (e := 0) (k := 2) (r := 0) (by decide) rfl
      exact ⟨_, σ, _, _, hX, hM, t1, t2⟩
  · have hX : fX6_sample a1 a2 σ = some (.inr 1, σ) := by
      unfold fX6_sample
      rw [g1, bd_s, if_pos rfl]
    have hM : fX7_sample a1 a2 μ = some (0, up2 μ 20 0 1) := by
      unfold fX7_sample fX7_sample_b31
      rw [g2, bd_s, if_pos rfl, m_holds (by decide), bd2_s, if_pos rfl]
    obtain ⟨t1, t2⟩ := hR.thr (T := [1, 0]) (e := 1) (k := 1) (r := 0) (by decide) rfl
    exact ⟨_, σ, _, _, hX, hM, t1, t2⟩
