/-! PURE: the calls: spoil, add, ifCoded, ifBlock, bestStep -/
theorem bit_in {a2 : Int32} : (a2 < 0 ∨ ¬ a2 < 4) ∨ ∃ b, b < 4 ∧ a2 = nI b := by
  by_cases h : (0 : Int32) ≤ a2 ∧ a2 ≤ 3
  · obtain ⟨b, b1, b2, hb⟩ := rng 0 3 (by decide) (by decide) h
    exact Or.inr ⟨b, by omega, hb⟩
  · refine Or.inl ?_
    have t3 : (3 : Int32).toInt = 3 := by decide
    have t4 : (4 : Int32).toInt = 4 := by decide
    rw [Int32.le_iff_toInt_le, Int32.le_iff_toInt_le, Int32.toInt_zero, t3] at h
    rw [Int32.lt_iff_toInt_lt, Int32.lt_iff_toInt_lt, Int32.toInt_zero, t4]
    omega
theorem x_cb (x a2 : Int32) (σ : Sg) : (fX4_hasCode 0 x σ = some 0 → fX6_refuseUnlessCodeBit x a2 σ = some (.inr 1, σ)) ∧ (fX4_hasCode 0 x σ = some 1 → (a2 < 0 ∨ ¬ a2 < 4) → fX6_refuseUnlessCodeBit x a2 σ = some (.inr 0, σ)) ∧ (fX4_hasCode 0 x σ = some 1 → (∃ b, b < 4 ∧ a2 = nI b) → fX6_refuseUnlessCodeBit x a2 σ = some (.inl (), σ)) := by
  unfold fX6_refuseUnlessCodeBit
  refine ⟨fun h => ?_, fun h q => ?_, fun h q => ?_⟩
  · rw [h, bd_s, if_pos rfl]
  · rw [h, bd_s, if_neg (show ¬ (1 : Int32) = 0 by decide)]
    by_cases h0 : a2 < 0
    · rw [if_pos h0]
    · rw [if_neg h0, if_neg (q.resolve_left h0)]
  · obtain ⟨b, hb, rfl⟩ := q
    rw [h, bd_s, if_neg (show ¬ (1 : Int32) = 0 by decide), if_neg (nI_pos (by omega)), if_pos (show nI b < 4 from nI_lt (b := 4) hb (by decide))]
theorem bit_m {a2 : Int32} : ((a2 < 0 ∨ ¬ a2 < 4) → fX7_in a2 0 3 = some 0) ∧ ((∃ b, b < 4 ∧ a2 = nI b) → fX7_in a2 0 3 = some 1) := by
  constructor
  · intro h
    rw [m_in, if_neg]
    intro q
    have t3 : (3 : Int32).toInt = 3 := by decide
    have t4 : (4 : Int32).toInt = 4 := by decide
    rw [Int32.le_iff_toInt_le, Int32.le_iff_toInt_le, Int32.toInt_zero, t3] at q
    rw [Int32.lt_iff_toInt_lt, Int32.lt_iff_toInt_lt, Int32.toInt_zero, t4] at h
    omega
  · rintro ⟨b, hb, rfl⟩
    rw [m_in, if_pos ⟨nI_pos' (by omega), nI_le (b := 3) (by omega) (by decide)⟩]
/-- a code turned over in the row of the state -/
theorem SR.turn {σ τ : Sg} {s s' : Nat → Int32} {M B k : Nat} {c t : Int32} (hS : SR σ 10 s) (hm : MS s M B) (h1 : s 1 = 1) (ha : Ba σ 10 s M B) (ho : Co σ 10 s M B) (hd : CdS s M B) (hk : k < M) (hkB : k % B ≠ 0) (hc : c16 c) (tq : ∀ q, 10 < q → q < 18 → q ≠ 16 → τ q = σ q) (t10 : ∀ i, i ≠ 10 → τ 10 i = σ 10 i) (t10' : τ 10 10 = t) (t16 : τ 16 = upd (σ 16) k c) (e : ∀ i, i ≠ 71 + k → i ≠ 6 → s' i = s i) (e6 : s' 6 = t) (ek : s' (71 + k) = c) : SR τ 10 s' ∧ MS s' M B ∧ Ba τ 10 s' M B ∧ Co τ 10 s' M B ∧ CdS s' M B ∧ s' 1 = 1 := by
  have hm' := hm
  obtain ⟨m1, m2, m3, m4, m5, m6, m7, m8, m9, m10⟩ := hm'
  obtain ⟨_, _, _, _, h9, h10, _⟩ := hS
  have hCd : CdS s' M B := by
    refine ⟨fun i hi => ?_, fun i hi => ?_⟩
    · have hi32 := b32 m2 m3 hi
      rw [e (199 + i) (by omega) (by omega), e (231 + i) (by omega) (by omega), e (263 + i) (by omega) (by omega)]
      exact hd.1 i hi
    · by_cases q : i = k
      · rw [q, ek]
        exact ⟨fun z => absurd z hkB, fun _ => hc⟩
      · rw [e (71 + i) (by omega) (by omega)]
        exact hd.2 i hi
  have hCo : Co τ 10 s' M B := by
    refine ⟨by rw [t10 3 (by decide)]; exact ho.1, fun i hi => ?_, fun i hi => ?_⟩
    · have hi32 := b32 m2 m3 hi
      rw [tq (10 + 3) (by decide) (by decide) (by decide), tq (10 + 4) (by decide) (by decide) (by decide), tq (10 + 5) (by decide) (by decide) (by decide), e (199 + i) (by omega) (by omega), e (231 + i) (by omega) (by omega), e (263 + i) (by omega) (by omega)]
      exact ho.2.1 i hi
    · rw [tq (10 + 7) (by decide) (by decide) (by decide), e (135 + i) (by omega) (by omega)]
      refine ⟨?_, (ho.2.2 i hi).2⟩
      show τ 16 i = _
      rw [t16]
      by_cases q : i = k
      · rw [q, pk_us, ek]
      · rw [pk_un q, e (71 + i) (by omega) (by omega)]
        exact (ho.2.2 i hi).1
  have hBa : Ba τ 10 s' M B := by
    refine ⟨?_, ?_, ?_, ?_, fun i hi => ?_⟩
    · rw [t10 0 (by decide)]; exact ha.1
    · rw [tq (10 + 2) (by decide) (by decide) (by decide)]; exact ha.2.1
    · rw [tq (10 + 2) (by decide) (by decide) (by decide), e 3 (by omega) (by omega)]; exact ha.2.2.1
    · rw [tq (10 + 2) (by decide) (by decide) (by decide), e 4 (by omega) (by omega)]; exact ha.2.2.2.1
    · rw [tq (10 + 1) (by decide) (by decide) (by decide), e (7 + i) (by omega) (by omega)]; exact ha.2.2.2.2 i hi
  have h1' : s' 1 = 1 := by rw [e 1 (by omega) (by omega)]; exact h1
  have hMM : 1 ≤ M ∧ M ≤ 64 ∧ 2 ≤ B ∧ B ≤ 16 ∧ s' 0 = nI M ∧ s' 2 = nI B ∧ (s' 3 = 0 ∨ s' 3 = 1) ∧ (s' 4 = 0 ∨ s' 4 = 1 ∨ s' 4 = 2) ∧ ∀ i, i < M → inV (s' (7 + i)) := by
    refine ⟨m1, m2, m3, m4, ?_, ?_, ?_, ?_, fun i hi => ?_⟩
    · rw [e 0 (by omega) (by omega)]; exact m5
    · rw [e 2 (by omega) (by omega)]; exact m6
    · rw [e 3 (by omega) (by omega)]; exact m7
    · rw [e 4 (by omega) (by omega)]; exact m8
    · rw [e (7 + i) (by omega) (by omega)]; exact m9 i hi
  refine ⟨SR.co hMM h1' hCd hBa ?_ ?_ hCo, ?_, hBa, hCo, hCd, h1'⟩
  · rw [t10 9 (by decide), e 5 (by omega) (by omega)]; exact h9
  · rw [t10', e6]
  · obtain ⟨z1, z2, z3, z4, z5, z6, z7, z8, z9⟩ := hMM
    exact ⟨z1, z2, z3, z4, z5, z6, z7, z8, z9, Or.inr ⟨h1', hCd⟩⟩
theorem inV_nI {n : Nat} (h : n ≤ 2047) : inV (nI n) := by
  unfold inV
  rw [nI_toInt (by omega)]
  omega
theorem xm_shape (kind h : Int32) {p f : Nat} (hp1 : 1 ≤ p) (hp2 : p ≤ 64) (hf : f < 64) : ∃ v, fX6_shape kind h (nI p) (nI f) = some v ∧ fX7_shape kind h (nI p) (nI f) = some v := by
  have hp0 : ¬ nI p = 0 := nI_ne0 (by omega) (by omega)
  have hhalf : nI p / 2 = nI (p / 2) := pk_div (d := 2) (by omega) (by decide) (by decide)
  unfold fX6_shape fX7_shape
  by_cases k0 : kind = 0
  · rw [if_pos k0, if_pos k0]
    split
    · exact ⟨_, rfl, rfl⟩
    · exact ⟨_, rfl, rfl⟩
  · rw [if_neg k0, if_neg k0, nm_s, hhalf, ab_eq (inV_nI (by omega)) (inV_nI (by omega))]
    unfold fX7_shape_b40
    by_cases k1 : kind = 1
    · simp only [if_pos k1]
      rw [gd_of hp0]
      refine ⟨_, rfl, ?_⟩
      split <;> rfl
    · simp only [if_neg k1]
      rw [gd_of hp0, gd_of hp0, gd_of hp0]
      by_cases hle : nI (p / 2) ≤ nI f
      · rw [if_pos hle, if_pos hle]
        exact ⟨_, rfl, rfl⟩
      · rw [if_neg hle, if_neg hle]
        exact ⟨_, rfl, rfl⟩
theorem clp_eq (x : Int32) : (x = clp x) ↔ inV x := ⟨fun h => by rw [h]; exact clp_r x, fun h => (clp_in h).symm⟩
theorem xm_adL {kind h : Int32} {p M : Nat} (hp1 : 1 ≤ p) (hp2 : p ≤ 64) (hM : M ≤ 64) : ∀ n f k acc (σ μ : Sg), n < f → k + n = M → σ 10 0 = nI M → μ 0 0 = nI M → (∀ i, i < M → σ 11 i = μ 0 (7 + i) ∧ inV (μ 0 (7 + i))) → ∃ r τ u1 u, fX6_add_L71 kind h (nI p) f acc (nI k) σ = some (.inl r, up2 τ 10 3 0) ∧ fX7_add_L54 kind h (nI p) f acc (nI k) μ = some (r, u) ∧ fX7_notCoded u1 = some u ∧ (∀ q, q ≠ 11 → τ q = σ q) ∧ (∀ q, q ≠ 0 → u1 q = μ q) ∧ (∀ i, i < 7 → u1 0 i = μ 0 i) ∧ ∀ i, i < M → τ 11 i = u1 0 (7 + i) ∧ inV (u1 0 (7 + i)) := by
  intro n
  induction n with
  | zero =>
    intro f k acc σ μ hf hk h10 h0 hv
    obtain ⟨f, rfl⟩ := fu1 hf
    obtain ⟨u, a1, _⟩ := m_nc μ
    have hle : nI M ≤ nI k := nI_le (by omega) (by omega)
    refine ⟨acc, σ, μ, u, ?_, ?_, a1, fun _ _ => rfl, fun _ _ => rfl, fun _ _ => rfl, hv⟩
    · rw [fX6_add_L71]
      unfold fX4_forgetBlocks
      simp only [Nat.mul_zero, Nat.add_zero, nm_s, bd_s]
      rw [h10, if_pos hle]
    · rw [fX7_add_L54, h0, if_pos hle, a1, bd_s]
  | succ n ih =>
    intro f k acc σ μ hf hk h10 h0 hv
    obtain ⟨f, rfl⟩ := fu1 hf
    have hk64 : k < 64 := by omega
    have hng : ¬ nI M ≤ nI k := nI_ge (by omega) (by omega)
    have hp0 : ¬ nI p = 0 := nI_ne0 (by omega) (by omega)
    have hrem : nI k - nI k / nI p * nI p = nI (k % p) := pk_rem (by omega) (by omega) (by omega)
    have hmod : k % p < 64 := Nat.lt_of_le_of_lt (Nat.mod_le k p) hk64
    obtain ⟨v, s1, s2⟩ := xm_shape kind h hp1 hp2 hmod
    obtain ⟨w, hw⟩ : ∃ w, w = μ 0 (7 + k) + v := ⟨_, rfl⟩
    obtain ⟨v1, v2⟩ := hv k (by omega)
    obtain ⟨d, hd0, hd1⟩ : ∃ d : Int32, (inV w → d = 0) ∧ (¬ inV w → d = 1) := by
      by_cases q : inV w
      · exact ⟨0, fun _ => rfl, fun z => absurd q z⟩
      · exact ⟨1, fun z => absurd z q, fun _ => rfl⟩
    have hX : fX6_add_L71 kind h (nI p) (f + 1) acc (nI k) σ = fX6_add_L71 kind h (nI p) f (acc + d) (nI (k + 1)) (up2 σ 11 k (clp w)) := by
      rw [fX6_add_L71]
      simp only [Nat.mul_zero, Nat.add_zero, Nat.reduceAdd]
      rw [h10, if_neg hng, gi hk64 (by decide), gd_of hp0, hrem, s1, bd_s, nI_clamp (show k < 2 ^ 31 by omega), v1, nm_s, ← hw, x_clip, bd_s, gj hk64 (by decide), nm_s, x_isV, bd_s]
      simp only [nm_s, nI_1]
      by_cases q : inV w
      · rw [hd0 q, if_pos ((inV_iff w).mpr q), if_neg (show ¬ (1 : Int32) = 0 by decide), Int32.add_zero]
      · rw [hd1 q, if_neg (fun z => q ((inV_iff w).mp z)), if_pos rfl]
    have hMM : fX7_add_L54 kind h (nI p) (f + 1) acc (nI k) μ = fX7_add_L54 kind h (nI p) f (acc + d) (nI (k + 1)) (up2 μ 0 (7 + k) (clp w)) := by
      have hb : ∀ z : Int32, fX7_add_b105 kind h (nI p) (fun x4 x5 μ => fX7_add_L54 kind h (nI p) f x4 x5 μ) (nI k) w z acc μ = fX7_add_L54 kind h (nI p) f (acc + z) (nI (k + 1)) (up2 μ 0 (7 + k) (clp w)) := by
        intro z
        unfold fX7_add_b105
        rw [nm_s, m_clp, bd_s, o7, gi (show 7 + k < 295 by omega) (by decide), nI_clamp (show 7 + k < 2 ^ 31 by omega), nm_s, nm_s, nI_1]
      rw [fX7_add_L54, h0, if_neg hng, o7, gi (show 7 + k < 295 by omega) (by decide), gd_of hp0, hrem, s2, bd_s, nI_clamp (show 7 + k < 2 ^ 31 by omega), nm_s, ← hw, m_clp, bd_s, hb, hb]
      by_cases q : inV w
      · rw [hd0 q, if_pos ((clp_eq w).mpr q)]
      · rw [hd1 q, if_neg (fun z => q ((clp_eq w).mp z))]
    obtain ⟨r, τ, u1, u, c1, c2, c3, c4, c5, c6, c7⟩ := ih f (k + 1) (acc + d) (up2 σ 11 k (clp w)) (up2 μ 0 (7 + k) (clp w)) (by omega) (by omega) (by rw [up2_ne (by decide)]; exact h10) (by rw [up2_self, pk_un (by omega)]; exact h0) (fun i hi => by
      rw [up2_self, up2_self]
      by_cases q : i = k
      · rw [q, pk_us, pk_us]
        exact ⟨rfl, clp_r w⟩
      · rw [pk_un q, pk_un (by omega)]
        exact hv i hi)
    exact ⟨r, τ, u1, u, hX.trans c1, hMM.trans c2, c3, fun q hq => by rw [c4 q hq, up2_ne hq], fun q hq => by rw [c5 q hq, up2_ne hq], fun i hi => by rw [c6 i hi, up2_self, pk_un (by omega)], c7⟩
