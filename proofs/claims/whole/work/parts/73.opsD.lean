/-! PURE: the calls: spoil, add, ifCoded, ifBlock, bestStep -/
theorem bit_in {a2 : Int32} : (a2 < 0 ∨ ¬ a2 < 4) ∨ ∃ b, b < 4 ∧ a2 = nI b := by
  by_cases h : (0 : Int32) ≤ a2 ∧ a2 ≤ 3
  · obtain ⟨b, b1, b2, hb⟩ := rng 0 3 (by decide) (by decide) h
    exact Or.inr ⟨b, by omega, hb⟩
  · refine Or.inl ?_
    have t3 : (3 : Int32).toInt = 3 := by decide
    have t4 : (4 : Int32).toInt = 4 := by decide
    rw [Int32.le_iff_toInt_le, Int32.le_iff_toInt_le, Int32.toInt_zero, t3] at h
    rw [Int32.lt_iff_toInt_lt, Int32.lt_iff_toInt_lt, Int32.toInt_zero, t4]
    omega
theorem x_cb (x a2 : Int32) (σ : Sg) : (fX4_hasCode 0 x σ = some 0 → fX6_refuseUnlessCodeBit x a2 σ = some (.inr 1, σ)) ∧ (fX4_hasCode 0 x σ = some 1 → (a2 < 0 ∨ ¬ a2 < 4) → fX6_refuseUnlessCodeBit x a2 σ = some (.inr 0, σ)) ∧ (fX4_hasCode 0 x σ = some 1 → (∃ b, b < 4 ∧ a2 = nI b) → fX6_refuseUnlessCodeBit x a2 σ = some (.inl (), σ)) := by
  unfold fX6_refuseUnlessCodeBit
  refine ⟨fun h => ?_, fun h q => ?_, fun h q => ?_⟩
  · rw [h, bd_s, if_pos rfl]
  · rw [h, bd_s, if_neg (show ¬ (1 : Int32) = 0 by decide)]
    by_cases h0 : a2 < 0
    · rw [if_pos h0]
    · rw [if_neg h0, if_neg (q.resolve_left h0)]
  · obtain ⟨b, hb, rfl⟩ := q
    rw [h, bd_s, if_neg (show ¬ (1 : Int32) = 0 by decide), if_neg (nI_pos (by omega)), if_pos (show nI b < 4 from nI_lt (b := 4) hb (by decide))]
theorem bit_m {a2 : Int32} : ((a2 < 0 ∨ ¬ a2 < 4) → fX7_in a2 0 3 = some 0) ∧ ((∃ b, b < 4 ∧ a2 = nI b) → fX7_in a2 0 3 = some 1) := by
  constructor
  · intro h
    rw [m_in, if_neg]
    intro q
    have t3 : (3 : Int32).toInt = 3 := by decide
    have t4 : (4 : Int32).toInt = 4 := by decide
    rw [Int32.le_iff_toInt_le, Int32.le_iff_toInt_le, Int32.toInt_zero, t3] at q
    rw [Int32.lt_iff_toInt_lt, Int32.lt_iff_toInt_lt, Int32.toInt_zero, t4] at h
    omega
  · rintro ⟨b, hb, rfl⟩
    rw [m_in, if_pos ⟨nI_pos' (by omega), nI_le (b := 3) (by omega) (by decide)⟩]
/-- a code turned over in the row of the state -/
theorem SR.turn {σ τ : Sg} {s s' : Nat → Int32} {M B k : Nat} {c t : Int32} (hS : SR σ 10 s) (hm : MS s M B) (h1 : s 1 = 1) (ha : Ba σ 10 s M B) (ho : Co σ 10 s M B) (hd : CdS s M B) (hk : k < M) (hkB : k % B ≠ 0) (hc : c16 c) (tq : ∀ q, 10 < q → q < 18 → q ≠ 16 → τ q = σ q) (t10 : ∀ i, i ≠ 10 → τ 10 i = σ 10 i) (t10' : τ 10 10 = t) (t16 : τ 16 = upd (σ 16) k c) (e : ∀ i, i ≠ 71 + k → i ≠ 6 → s' i = s i) (e6 : s' 6 = t) (ek : s' (71 + k) = c) : SR τ 10 s' ∧ MS s' M B ∧ Ba τ 10 s' M B ∧ Co τ 10 s' M B ∧ CdS s' M B ∧ s' 1 = 1 := by
  have hm' := hm
  obtain ⟨m1, m2, m3, m4, m5, m6, m7, m8, m9, m10⟩ := hm'
  obtain ⟨_, _, _, _, h9, h10, _⟩ := hS
  have hCd : CdS s' M B := by
    refine ⟨fun i hi => ?_, fun i hi => ?_⟩
    · have hi32 := b32 m2 m3 hi
      rw [e (199 + i) (by omega) (by omega), e (231 + i) (by omega) (by omega), e (263 + i) (by omega) (by omega)]
      exact hd.1 i hi
    · by_cases q : i = k
      · rw [q, ek]
        exact ⟨fun z => absurd z hkB, fun _ => hc⟩
      · rw [e (71 + i) (by omega) (by omega)]
        exact hd.2 i hi
  have hCo : Co τ 10 s' M B := by
    refine ⟨by rw [t10 3 (by decide)]; exact ho.1, fun i hi => ?_, fun i hi => ?_⟩
    · have hi32 := b32 m2 m3 hi
      rw [tq (10 + 3) (by decide) (by decide) (by decide), tq (10 + 4) (by decide) (by decide) (by decide), tq (10 + 5) (by decide) (by decide) (by decide), e (199 + i) (by omega) (by omega), e (231 + i) (by omega) (by omega), e (263 + i) (by omega) (by omega)]
      exact ho.2.1 i hi
    · rw [tq (10 + 7) (by decide) (by decide) (by decide), e (135 + i) (by omega) (by omega)]
      refine ⟨?_, (ho.2.2 i hi).2⟩
      show τ 16 i = _
      rw [t16]
      by_cases q : i = k
      · rw [q, pk_us, ek]
      · rw [pk_un q, e (71 + i) (by omega) (by omega)]
        exact (ho.2.2 i hi).1
  have hBa : Ba τ 10 s' M B := by
    refine ⟨?_, ?_, ?_, ?_, fun i hi => ?_⟩
    · rw [t10 0 (by decide)]; exact ha.1
    · rw [tq (10 + 2) (by decide) (by decide) (by decide)]; exact ha.2.1
    · rw [tq (10 + 2) (by decide) (by decide) (by decide), e 3 (by omega) (by omega)]; exact ha.2.2.1
    · rw [tq (10 + 2) (by decide) (by decide) (by decide), e 4 (by omega) (by omega)]; exact ha.2.2.2.1
    · rw [tq (10 + 1) (by decide) (by decide) (by decide), e (7 + i) (by omega) (by omega)]; exact ha.2.2.2.2 i hi
  have h1' : s' 1 = 1 := by rw [e 1 (by omega) (by omega)]; exact h1
  have hMM : 1 ≤ M ∧ M ≤ 64 ∧ 2 ≤ B ∧ B ≤ 16 ∧ s' 0 = nI M ∧ s' 2 = nI B ∧ (s' 3 = 0 ∨ s' 3 = 1) ∧ (s' 4 = 0 ∨ s' 4 = 1 ∨ s' 4 = 2) ∧ ∀ i, i < M → inV (s' (7 + i)) := by
    refine ⟨m1, m2, m3, m4, ?_, ?_, ?_, ?_, fun i hi => ?_⟩
    · rw [e 0 (by omega) (by omega)]; exact m5
    · rw [e 2 (by omega) (by omega)]; exact m6
    · rw [e 3 (by omega) (by omega)]; exact m7
    · rw [e 4 (by omega) (by omega)]; exact m8
    · rw [e (7 + i) (by omega) (by omega)]; exact m9 i hi
  refine ⟨SR.co hMM h1' hCd hBa ?_ ?_ hCo, ?_, hBa, hCo, hCd, h1'⟩
  · rw [t10 9 (by decide), e 5 (by omega) (by omega)]; exact h9
  · rw [t10', e6]
  · obtain ⟨z1, z2, z3, z4, z5, z6, z7, z8, z9⟩ := hMM
    exact ⟨z1, z2, z3, z4, z5, z6, z7, z8, z9, Or.inr ⟨h1', hCd⟩⟩
theorem op_spoil : Op_spoil Rl := by
  intro σ μ dg hR a1 a2
  have hR' := hR
  obtain ⟨hS, _⟩ := hR'
  rcases cod hS a1 with ⟨M, B, k, hm, h1, ha, ho, hd, hk, hkB, rfl, g1, g2⟩ | ⟨g1, g2, _⟩
  · rcases bit_in (a2 := a2) with hb | hb
    · have hX : fX6_spoil (nI k) a2 σ = some (.inr 0, σ) := by
        unfold fX6_spoil
        rw [(x_cb _ _ _).2.1 g1 hb, bx_e]
      have hM : fX7_spoil (nI k) a2 μ = some (0, up2 μ 20 0 2) := by
        unfold fX7_spoil fX7_spoil_b27
        rw [g2, bd_s, if_neg (show ¬ (1 : Int32) = 0 by decide), bit_m.1 hb, bd_s, if_pos rfl, m_holds (by decide), bd2_s, if_pos rfl]
      obtain ⟨t1, t2⟩ := hR.thr (T := [1, 0]) (e := 0) (k := 2) (r := 0) (by decide) rfl
      exact ⟨_, σ, _, _, hX, hM, t1, t2⟩
    · have hb' := hb
      obtain ⟨b, hb4, rfl⟩ := hb'
      have hm' := hm
      obtain ⟨m1, m2, m3, m4, m5, m6, m7, m8, m9, m10⟩ := hm'
      obtain ⟨σ1, μ1, b1, b2, b3, b4, b5, b6, b7⟩ := xm_begin (hR.th 0 dg)
      have b3' := b3 dg
      have b3'' := b3'
      obtain ⟨r1, _, r3, _, _, _, _⟩ := b3''
      have e10 : ∀ q, 10 ≤ q → q < 18 → σ1 q = σ q := fun q h1 h2 => b5 q (by omega) (by omega) (by omega) (by omega)
      have f0 : μ1 0 = μ 0 := by rw [b6 0 (by decide) (by decide), up2_ne (by decide)]
      have e16 : σ 16 k = μ 0 (71 + k) := (ho.2.2 k hk).1
      have hS' := hS
      obtain ⟨_, _, _, _, _, h10, _⟩ := hS'
      obtain ⟨c, hcd⟩ : ∃ c, c = μ 0 (71 + k) ^^^ (1 <<< (nI b &&& 31)) := ⟨_, rfl⟩
      have hc : c16 c := by rw [hcd]; exact xor_r ((hd.2 k hk).2 hkB) hb4
      have hX : fX6_spoil (nI k) (nI b) σ = some (.inl c, up2 (up2 σ1 16 k c) 10 10 (μ 0 6 + 1)) := by
        unfold fX6_spoil fX4_turnOver
        rw [(x_cb _ _ _).2.2 g1 hb, bx_s, b1, bd_s]
        simp only [gi (show k < 64 by omega) (by decide), nm_s, bd_s, Nat.mul_zero, Nat.add_zero, Nat.reduceAdd]
        rw [nI_clamp (show k < 2 ^ 31 by omega), e10 16 (by decide) (by decide), e16, ← hcd, up2_ne (show 10 ≠ 16 by decide), e10 10 (by decide) (by decide), h10, up2_ne (show 16 ≠ 10 by decide), up2_self, pk_us]
      have e7 : up2 μ1 0 (71 + k) c 0 6 = μ 0 6 := by rw [up2_self, pk_un (show 6 ≠ 71 + k by omega), f0]
      have hM : fX7_spoil (nI k) (nI b) μ = some (c, up2 (up2 μ1 0 (71 + k) c) 0 6 (μ 0 6 + 1)) := by
        unfold fX7_spoil fX7_spoil_b27
        rw [g2, bd_s, if_neg (show ¬ (1 : Int32) = 0 by decide), bit_m.2 hb, bd_s, if_neg (show ¬ (1 : Int32) = 0 by decide), m_holds0, bd2_s, if_neg (show ¬ (1 : Int32) = 0 by decide), b2, bd_s, o71]
        simp only [gi (show 71 + k < 295 by omega) (by decide), nm_s]
        rw [nI_clamp (show 71 + k < 2 ^ 31 by omega), f0, ← hcd, e7, up2_self, pk_un (show 71 + k ≠ 6 by omega), up2_self, pk_us]
      obtain ⟨z1, _⟩ := SR.turn (τ := up2 (up2 σ1 16 k c) 10 10 (μ 0 6 + 1)) (s' := up2 (up2 μ1 0 (71 + k) c) 0 6 (μ 0 6 + 1) 0) hS hm h1 ha ho hd hk hkB hc (fun q h1 h2 h3 => by rw [up2_ne (by omega), up2_ne h3, e10 q (by omega) h2]) (fun i hi => by rw [up2_self, pk_un hi, up2_ne (by decide), e10 10 (by decide) (by decide)]) (by rw [up2_self, pk_us]) (by rw [up2_ne (by decide), up2_self, e10 16 (by decide) (by decide)]) (fun i h1 h2 => by rw [up2_self, pk_un h2, up2_self, pk_un h1, f0]) (by rw [up2_self, pk_us]) (by rw [up2_self, pk_un (by omega), up2_self, pk_us])
      refine ⟨_, _, _, _, hX, hM, ⟨?_, rfl⟩, b3'.op z1 ?_ (fun q hq => by rw [up2_ne (by omega), up2_ne (by omega)]) (by rw [up2_ne (by decide), up2_ne (by decide)]; exact b4) (fun q h1 h2 => by rw [up2_ne (by omega), up2_ne (by omega)]) (by rw [up2_ne (by decide), up2_ne (by decide)])⟩
      · rw [up2_ne (by decide), up2_ne (by decide), b7 0 (by decide), up2_self, pk_us]
      · intro i hi
        rw [up2_ne (by decide), up2_ne (by decide)]
        exact r3 0 (by decide) i hi
  · have hX : fX6_spoil a1 a2 σ = some (.inr 1, σ) := by
      unfold fX6_spoil
      rw [(x_cb _ _ _).1 g1, bx_e]
    have hM : fX7_spoil a1 a2 μ = some (0, up2 μ 20 0 1) := by
      unfold fX7_spoil fX7_spoil_b27
      rw [g2, bd_s, if_pos rfl, m_holds (by decide), bd2_s, if_pos rfl]
    obtain ⟨t1, t2⟩ := hR.thr (T := [1, 0]) (e := 1) (k := 1) (r := 0) (by decide) rfl
    exact ⟨_, σ, _, _, hX, hM, t1, t2⟩
theorem inV_nI {n : Nat} (h : n ≤ 2047) : inV (nI n) := by
  unfold inV
  rw [nI_toInt (by omega)]
  omega
theorem xm_shape (kind h : Int32) {p f : Nat} (hp1 : 1 ≤ p) (hp2 : p ≤ 64) (hf : f < 64) : ∃ v, fX6_shape kind h (nI p) (nI f) = some v ∧ fX7_shape kind h (nI p) (nI f) = some v := by
  have hp0 : ¬ nI p = 0 := nI_ne0 (by omega) (by omega)
  have hhalf : nI p / 2 = nI (p / 2) := pk_div (d := 2) (by omega) (by decide) (by decide)
  unfold fX6_shape fX7_shape
  by_cases k0 : kind = 0
  · rw [if_pos k0, if_pos k0]
    split
    · exact ⟨_, rfl, rfl⟩
    · exact ⟨_, rfl, rfl⟩
  · rw [if_neg k0, if_neg k0, nm_s, hhalf, ab_eq (inV_nI (by omega)) (inV_nI (by omega))]
    unfold fX7_shape_b40
    by_cases k1 : kind = 1
    · simp only [if_pos k1]
      rw [gd_of hp0]
      refine ⟨_, rfl, ?_⟩
      split <;> rfl
    · simp only [if_neg k1]
      rw [gd_of hp0, gd_of hp0, gd_of hp0]
      by_cases hle : nI (p / 2) ≤ nI f
      · rw [if_pos hle, if_pos hle]
        exact ⟨_, rfl, rfl⟩
      · rw [if_neg hle, if_neg hle]
        exact ⟨_, rfl, rfl⟩
theorem clp_eq (x : Int32) : (x = clp x) ↔ inV x := ⟨fun h => by rw [h]; exact clp_r x, fun h => (clp_in h).symm⟩
theorem xm_adL {kind h : Int32} {p M : Nat} (hp1 : 1 ≤ p) (hp2 : p ≤ 64) (hM : M ≤ 64) : ∀ n f k acc (σ μ : Sg), n < f → k + n = M → σ 10 0 = nI M → μ 0 0 = nI M → (∀ i, i < M → σ 11 i = μ 0 (7 + i) ∧ inV (μ 0 (7 + i))) → ∃ r τ u1 u, fX6_add_L71 kind h (nI p) f acc (nI k) σ = some (.inl r, up2 τ 10 3 0) ∧ fX7_add_L54 kind h (nI p) f acc (nI k) μ = some (r, u) ∧ fX7_notCoded u1 = some u ∧ (∀ q, q ≠ 11 → τ q = σ q) ∧ (∀ q, q ≠ 0 → u1 q = μ q) ∧ (∀ i, i < 7 → u1 0 i = μ 0 i) ∧ ∀ i, i < M → τ 11 i = u1 0 (7 + i) ∧ inV (u1 0 (7 + i)) := by
  intro n
  induction n with
  | zero =>
    intro f k acc σ μ hf hk h10 h0 hv
    obtain ⟨f, rfl⟩ := fu1 hf
    obtain ⟨u, a1, _⟩ := m_nc μ
    have hle : nI M ≤ nI k := nI_le (by omega) (by omega)
    refine ⟨acc, σ, μ, u, ?_, ?_, a1, fun _ _ => rfl, fun _ _ => rfl, fun _ _ => rfl, hv⟩
    · rw [fX6_add_L71]
      unfold fX4_forgetBlocks
      simp only [Nat.mul_zero, Nat.add_zero, nm_s, bd_s]
      rw [h10, if_pos hle]
    · rw [fX7_add_L54, h0, if_pos hle, a1, bd_s]
  | succ n ih =>
    intro f k acc σ μ hf hk h10 h0 hv
    obtain ⟨f, rfl⟩ := fu1 hf
    have hk64 : k < 64 := by omega
    have hng : ¬ nI M ≤ nI k := nI_ge (by omega) (by omega)
    have hp0 : ¬ nI p = 0 := nI_ne0 (by omega) (by omega)
    have hrem : nI k - nI k / nI p * nI p = nI (k % p) := pk_rem (by omega) (by omega) (by omega)
    have hmod : k % p < 64 := Nat.lt_of_le_of_lt (Nat.mod_le k p) hk64
    obtain ⟨v, s1, s2⟩ := xm_shape kind h hp1 hp2 hmod
    obtain ⟨w, hw⟩ : ∃ w, w = μ 0 (7 + k) + v := ⟨_, rfl⟩
    obtain ⟨v1, v2⟩ := hv k (by omega)
    obtain ⟨d, hd0, hd1⟩ : ∃ d : Int32, (inV w → d = 0) ∧ (¬ inV w → d = 1) := by
      by_cases q : inV w
      · exact ⟨0, fun _ => rfl, fun z => absurd q z⟩
      · exact ⟨1, fun z => absurd z q, fun _ => rfl⟩
    have hX : fX6_add_L71 kind h (nI p) (f + 1) acc (nI k) σ = fX6_add_L71 kind h (nI p) f (acc + d) (nI (k + 1)) (up2 σ 11 k (clp w)) := by
      rw [fX6_add_L71]
      simp only [Nat.mul_zero, Nat.add_zero, Nat.reduceAdd]
      rw [h10, if_neg hng, gi hk64 (by decide), gd_of hp0, hrem, s1, bd_s, nI_clamp (show k < 2 ^ 31 by omega), v1, nm_s, ← hw, x_clip, bd_s, gj hk64 (by decide), nm_s, x_isV, bd_s]
      simp only [nm_s, nI_1]
      by_cases q : inV w
      · rw [hd0 q, if_pos ((inV_iff w).mpr q), if_neg (show ¬ (1 : Int32) = 0 by decide), Int32.add_zero]
      · rw [hd1 q, if_neg (fun z => q ((inV_iff w).mp z)), if_pos rfl]
    have hMM : fX7_add_L54 kind h (nI p) (f + 1) acc (nI k) μ = fX7_add_L54 kind h (nI p) f (acc + d) (nI (k + 1)) (up2 μ 0 (7 + k) (clp w)) := by
      have hb : ∀ z : Int32, fX7_add_b105 kind h (nI p) (fun x4 x5 μ => fX7_add_L54 kind h (nI p) f x4 x5 μ) (nI k) w z acc μ = fX7_add_L54 kind h (nI p) f (acc + z) (nI (k + 1)) (up2 μ 0 (7 + k) (clp w)) := by
        intro z
        unfold fX7_add_b105
        rw [nm_s, m_clp, bd_s, o7, gi (show 7 + k < 295 by omega) (by decide), nI_clamp (show 7 + k < 2 ^ 31 by omega), nm_s, nm_s, nI_1]
      rw [fX7_add_L54, h0, if_neg hng, o7, gi (show 7 + k < 295 by omega) (by decide), gd_of hp0, hrem, s2, bd_s, nI_clamp (show 7 + k < 2 ^ 31 by omega), nm_s, ← hw, m_clp, bd_s, hb, hb]
      by_cases q : inV w
      · rw [hd0 q, if_pos ((clp_eq w).mpr q)]
      · rw [hd1 q, if_neg (fun z => q ((clp_eq w).mp z))]
    obtain ⟨r, τ, u1, u, c1, c2, c3, c4, c5, c6, c7⟩ := ih f (k + 1) (acc + d) (up2 σ 11 k (clp w)) (up2 μ 0 (7 + k) (clp w)) (by omega) (by omega) (by rw [up2_ne (by decide)]; exact h10) (by rw [up2_self, pk_un (by omega)]; exact h0) (fun i hi => by
      rw [up2_self, up2_self]
      by_cases q : i = k
      · rw [q, pk_us, pk_us]
        exact ⟨rfl, clp_r w⟩
      · rw [pk_un q, pk_un (by omega)]
        exact hv i hi)
    exact ⟨r, τ, u1, u, hX.trans c1, hMM.trans c2, c3, fun q hq => by rw [c4 q hq, up2_ne hq], fun q hq => by rw [c5 q hq, up2_ne hq], fun i hi => by rw [c6 i hi, up2_self, pk_un (by omega)], c7⟩
theorem op_add : Op_add Rl := by
  intro σ μ dg hR a1 a2 a3
  have thrown : ∀ (_ : fX6_add a1 a2 a3 σ = some (.inr 0, σ)) (_ : fX7_add a1 a2 a3 μ = some (0, up2 μ 20 0 1)), ∃ res σ' r μ', fX6_add a1 a2 a3 σ = some (res, σ') ∧ fX7_add a1 a2 a3 μ = some (r, μ') ∧ tel [0] res r (μ' 20 0) ∧ Rl σ' μ' dg := by
    intro hX hM
    obtain ⟨t1, t2⟩ := hR.thr (T := [0]) (e := 0) (k := 1) (r := 0) (by decide) rfl
    exact ⟨_, σ, _, _, hX, hM, t1, t2⟩
  have hbad : fX7_add_b35 a1 a2 a3 μ = some (0, up2 μ 20 0 1) := by
    unfold fX7_add_b35 fX7_add_b36
    rw [m_holds (by decide), bd2_s, if_pos rfl]
  by_cases i1 : (0 : Int32) ≤ a1 ∧ a1 ≤ 2
  · by_cases i2 : (0 : Int32) ≤ a2 ∧ a2 ≤ 2047
    · by_cases i3 : (1 : Int32) ≤ a3 ∧ a3 ≤ 64
      · obtain ⟨p, p1, p2, rfl⟩ := rng 1 64 (by decide) (by decide) i3
        obtain ⟨σ1, μ1, b1, b2, b3, b4, b5, b6, b7⟩ := xm_begin (hR.th 0 dg)
        have b3' := b3 dg
        have b3'' := b3'
        obtain ⟨r1, _, r3, _, _, _, _⟩ := b3''
        obtain ⟨M, B, hm, ha, h9, h10, hc⟩ := r1
        obtain ⟨m1, m2, m3, m4, m5, m6, m7, m8, m9, m10⟩ := hm
        obtain ⟨r, τ, u1, u, c1, c2, c3, c4, c5, c6, c7⟩ := xm_adL (kind := a1) (h := a2) p1 p2 m2 M 80 0 0 σ1 μ1 (by omega) (by omega) ha.1 m5 (fun i hi => ⟨ha.2.2.2.2 i hi, m9 i hi⟩)
        obtain ⟨u', d1, d2, d3, d4⟩ := m_nc u1
        rw [c3] at d1
        cases d1
        have hX : fX6_add a1 a2 (nI p) σ = some (.inl r, up2 τ 10 3 0) := by
          unfold fX6_add
          rw [if_neg (nlt.mpr i1.1), if_pos i1.2, if_neg (nlt.mpr i2.1), if_pos i2.2, if_neg (nlt.mpr i3.1), if_pos i3.2, b1, bd_s]
          rw [show fX6_add_L71 a1 a2 (nI p) 80 0 0 σ1 = fX6_add_L71 a1 a2 (nI p) 80 0 (nI 0) σ1 from by rw [← n0], c1]
        have hM : fX7_add a1 a2 (nI p) μ = some (r, u) := by
          unfold fX7_add fX7_add_b36
          rw [m_in, if_pos i1, bd_s, if_neg (show ¬ (1 : Int32) = 0 by decide), m_in, if_pos i2, bd_s, if_neg (show ¬ (1 : Int32) = 0 by decide), m_in, if_pos i3, bd_s, if_neg (show ¬ (1 : Int32) = 0 by decide), m_holds0, bd2_s, if_neg (show ¬ (1 : Int32) = 0 by decide), b2, bd_s]
          rw [show fX7_add_L54 a1 a2 (nI p) 80 0 0 μ1 = fX7_add_L54 a1 a2 (nI p) 80 0 (nI 0) μ1 from by rw [← n0], c2]
        have v0 : ∀ i, i ≠ 1 → i < 7 → u 0 i = μ1 0 i := fun i h1 h2 => by rw [d4 i h1 (by omega), c6 i h2]
        have s10 : up2 τ 10 3 0 10 = upd (σ1 10) 3 0 := by rw [up2_self, c4 10 (by decide)]
        have s12 : up2 τ 10 3 0 12 = σ1 12 := by rw [up2_ne (by decide), c4 12 (by decide)]
        refine ⟨_, _, _, u, hX, hM, ⟨?_, rfl⟩, b3'.op (SR.unc M B m1 m2 m3 m4 ?_ ?_ ?_ ?_ ?_ ?_ ?_ ?_ (fun i hi => ?_) ?_ ?_ d3 ?_) ?_ (fun q hq => ?_) ?_ (fun q h1 h2 => ?_) ?_⟩
        · rw [d2 20 (by decide), c5 20 (by decide), b7 0 (by decide), up2_self, pk_us]
        · rw [s10]; exact ha.1
        · rw [v0 0 (by decide) (by decide)]; exact m5
        · rw [s12]; exact ha.2.1
        · rw [v0 2 (by decide) (by decide)]; exact m6
        · rw [s12, v0 3 (by decide) (by decide)]; exact ha.2.2.1
        · rw [s12, v0 4 (by decide) (by decide)]; exact ha.2.2.2.1
        · rw [v0 3 (by decide) (by decide)]; exact m7
        · rw [v0 4 (by decide) (by decide)]; exact m8
        · rw [up2_ne (by decide), d4 (7 + i) (by omega) (by omega)]
          exact c7 i hi
        · rw [s10, v0 5 (by decide) (by decide)]; exact h9
        · rw [s10, v0 6 (by decide) (by decide)]; exact h10
        · rw [s10]; rfl
        · intro i hi
          rw [up2_ne (by decide), c4 _ (by decide)]
          exact r3 0 (by decide) i hi
        · rw [up2_ne (by omega), c4 _ (by omega)]
        · rw [up2_ne (by decide), c4 _ (by decide)]; exact b4
        · rw [d2 q (by omega), c5 q (by omega)]
        · rw [d2 20 (by decide), c5 20 (by decide)]
      · refine thrown ?_ ?_
        · unfold fX6_add
          rw [if_neg (nlt.mpr i1.1), if_pos i1.2, if_neg (nlt.mpr i2.1), if_pos i2.2]
          rcases th_in i3 with q | q
          · rw [if_pos q]
          · rw [if_neg q]
            split <;> rfl
        · unfold fX7_add
          rw [m_in, if_pos i1, bd_s, if_neg (show ¬ (1 : Int32) = 0 by decide), m_in, if_pos i2, bd_s, if_neg (show ¬ (1 : Int32) = 0 by decide), m_in, if_neg i3, bd_s, if_pos rfl]
          exact hbad
    · refine thrown ?_ ?_
      · unfold fX6_add
        rw [if_neg (nlt.mpr i1.1), if_pos i1.2]
        rcases th_in i2 with q | q
        · rw [if_pos q]
        · rw [if_neg q]
          split <;> rfl
      · unfold fX7_add
        rw [m_in, if_pos i1, bd_s, if_neg (show ¬ (1 : Int32) = 0 by decide), m_in, if_neg i2, bd_s, if_pos rfl]
        exact hbad
  · refine thrown ?_ ?_
    · unfold fX6_add
      rcases th_in i1 with q | q
      · rw [if_pos q]
      · rw [if_neg q]
        split <;> rfl
    · unfold fX7_add
      rw [m_in, if_neg i1, bd_s, if_pos rfl]
      exact hbad
