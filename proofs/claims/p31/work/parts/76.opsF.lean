/-! PURE: the calls: sampleOf, blockOf, count, ifSpoiled, take -/
theorem m_dbL {M : Nat} (hM : M ≤ 64) : ∀ n f k (u : Sg), n < f → k + n = M → u 0 0 = nI M → ∃ u', fX7_decodesBefore_L6 f (nI k) u = some u' ∧ (∀ q, q ≠ 9 → u' q = u q) ∧ ∀ i, u' 9 i = if k ≤ i ∧ i < M then u 6 i else u 9 i := by
  intro n
  induction n with
  | zero =>
    intro f k u hf hk h0
    obtain ⟨f, rfl⟩ := fu1 hf
    rw [fX7_decodesBefore_L6, h0, if_pos (nI_le (by omega) (by omega))]
    exact ⟨u, rfl, fun _ _ => rfl, fun i => by rw [if_neg (by omega)]⟩
  | succ n ih =>
    intro f k u hf hk h0
    obtain ⟨f, rfl⟩ := fu1 hf
    rw [fX7_decodesBefore_L6, h0, if_neg (nI_ge (by omega) (by omega)), gi (show k < 64 by omega) (by decide), gi (show k < 64 by omega) (by decide), nI_clamp (show k < 2 ^ 31 by omega)]
    simp only [nm_s, nI_1]
    obtain ⟨u', a1, a2, a3⟩ := ih f (k + 1) (up2 u 9 k (u 6 k)) (by omega) (by omega) (by rw [up2_ne (by decide)]; exact h0)
    refine ⟨u', a1, fun q hq => by rw [a2 q hq, up2_ne hq], fun i => ?_⟩
    rw [a3 i, up2_self, up2_ne (show 6 ≠ 9 by decide)]
    by_cases h1 : k + 1 ≤ i ∧ i < M
    · rw [if_pos h1, if_pos (by omega)]
    · rw [if_neg h1]
      by_cases h2 : i = k
      · rw [h2, pk_us, if_pos (by omega)]
      · rw [pk_un h2, if_neg (by omega)]
theorem xor2_dec : ∀ c, c < 16 → ∀ b, b < 4 → (nI c ^^^ (1 <<< (nI b &&& 31))) ^^^ (1 <<< (nI b &&& 31)) = nI c := by decide +kernel
theorem upd_back (f : Nat → Int32) (k : Nat) (c : Int32) : upd (upd f k c) k (f k) = f := by
  funext j
  by_cases h : j = k
  · rw [h, pk_us]
  · rw [pk_un h, pk_un h]
theorem sp_core {σ μ : Sg} {dg : Int64} {M B k b : Nat} (hR : Rl σ μ dg) (hm : MS (μ 0) M B) (h1 : μ 0 1 = 1) (hk : k < M) (hkB : k % B ≠ 0) (hb : b < 4) : ∃ r σ' μ', fX6_ifSpoiled (nI k) (nI b) σ = some (.inl r, σ') ∧ fX7_spreads (nI k) (nI b) μ = some (r, μ') ∧ Qt σ μ σ' μ' := by
  have hR' := hR
  obtain ⟨hS, _, _, _, _, hT, _⟩ := hR'
  obtain ⟨M', B', hm2, ha, ho, hd⟩ := hS.cod h1
  obtain ⟨rfl, rfl⟩ := hm.one hm2
  have hm3 := hm2
  obtain ⟨m1, m2, m3, m4, m5, m6, m7, m8, m9, m10⟩ := hm3
  have n10 : ¬ (1 : Int32) = 0 := by decide
  have e16 : σ 16 k = μ 0 (71 + k) := (ho.2.2 k hk).1
  have hc16 := (hd.2 k hk).2 hkB
  obtain ⟨c, hcd⟩ : ∃ c, c = μ 0 (71 + k) ^^^ (1 <<< (nI b &&& 31)) := ⟨_, rfl⟩
  have hc : c16 c := by rw [hcd]; exact xor_r hc16 hb
  have hback : c ^^^ (1 <<< (nI b &&& 31)) = μ 0 (71 + k) := by
    obtain ⟨x, hx, ex⟩ := c16_nI hc16
    rw [hcd, ex]
    exact xor2_dec x hx b hb
  have hcode : fX4_hasCode 0 (nI k) σ = some 1 := by
    rcases cod hS (nI k) with ⟨_, _, _, _, _, _, _, _, _, _, _, g1, _⟩ | ⟨_, _, g3⟩
    · exact g1
    · exact absurd (g3 k rfl (by omega) M' B' hm2 h1 hk) hkB
  obtain ⟨σ7, x1, x2, x3, x4, x5⟩ := x_decR hR hm2 h1
  obtain ⟨s9, hs9⟩ : ∃ s9, s9 = up2 (up2 σ7 16 k c) 89 3 0 := ⟨_, rfl⟩
  have t9 : ∀ q, q ≠ 16 → q ≠ 89 → s9 q = σ7 q := fun q q1 q2 => by rw [hs9, up2_ne q2, up2_ne q1]
  have t16 : s9 16 = upd (σ 16) k c := by rw [hs9, up2_ne (by decide), up2_self, x2 16 (by decide)]
  obtain ⟨u4, hu4⟩ : ∃ u4 : Nat → Int32, u4 = upd (μ 0) (71 + k) c := ⟨_, rfl⟩
  obtain ⟨z1, z2, z3, z4, z5, z6⟩ := SR.turn (t := μ 0 6) (τ := s9) (s' := u4) hS hm2 h1 ha ho hd hk hkB hc (fun q q1 q2 q3 => by rw [t9 q q3 (by omega), x2 q (by omega)]) (fun i _ => by rw [t9 10 (by decide) (by decide), x2 10 (by decide)]) (by
    obtain ⟨_, _, _, _, _, w, _⟩ := hS
    rw [t9 10 (by decide) (by decide), x2 10 (by decide), w]) t16 (fun i q1 q2 => by rw [hu4, pk_un q1]) (by rw [hu4, pk_un (by omega)]) (by rw [hu4, pk_us])
  obtain ⟨s12, y1, y2, y3, y4⟩ := x_dec (i0 := 1) m2 m3 m4 z5 z3 z4 (by rw [hs9, up2_self, pk_us])
  have y2' : ∀ q, q ≠ 84 → q ≠ 89 → q ≠ 90 → q ≠ 91 → s12 q = s9 q := fun q q1 q2 q3 q4 => y2 q (by unfold dR; omega) q2
  obtain ⟨s14, hs14⟩ : ∃ s14, s14 = up2 s12 16 k (μ 0 (71 + k)) := ⟨_, rfl⟩
  have r16 : s14 16 = σ 16 := by rw [hs14, up2_self, y2' 16 (by decide) (by decide) (by decide) (by decide), t16, ← e16, upd_back]
  have rq : ∀ q, q < 82 → s14 q = σ q := by
    intro q hq
    by_cases h : q = 16
    · rw [h, r16]
    · rw [hs14, up2_ne h, y2' q (by omega) (by omega) (by omega) (by omega), t9 q h (by omega), x2 q (Or.inl hq)]
  have r86 : ∀ q, 86 ≤ q → q < 89 → s14 q = σ7 q := fun q q1 q2 => by rw [hs14, up2_ne (by omega), y2' q (by omega) (by omega) (by omega) (by omega), t9 q (by omega) (by omega)]
  have r90 : ∀ i, i < M' → s14 90 i = md u4 B' i := fun i hi => by rw [hs14, up2_ne (by decide)]; exact (y3 i hi).1
  have hX : fX6_ifSpoiled (nI k) (nI b) σ = some (.inl (cntN (md u4 B') (md (μ 0) B') M' 0 0), s14) := by
    unfold fX6_ifSpoiled fX4_turnOver
    rw [(x_cb _ _ _).2.2 hcode ⟨b, hb, rfl⟩, bx_s, x1, bd_s]
    simp only [gi (show k < 64 by omega) (by decide), nm_s, bd_s, Nat.mul_zero, Nat.add_zero, Nat.mul_one, Nat.reduceAdd]
    rw [nI_clamp (show k < 2 ^ 31 by omega), x2 16 (by decide), e16, ← hcd, ← hs9, y1, bd_s, y2' 16 (by decide) (by decide) (by decide) (by decide), t16, pk_us, hback, ← hs14, rq 10 (by decide), show σ 10 0 = nI M' from ha.1]
    unfold fX2_othersThan
    rw [show fX2_othersThan_L5 1 0 (nI M') 80 0 0 s14 = fX2_othersThan_L5 1 0 (nI M') 80 0 (nI 0) s14 from by rw [← n0], x_otL m2 M' 80 0 0 (by omega) (by omega), bd_s]
    refine congrArg some (congrArg (fun z => (Sum.inl z, s14)) (cntN_congr _ _ _ (fun i _ hi => ?_)))
    exact ⟨r90 i (by omega), by rw [r86 87 (by decide) (by decide)]; exact (x3 i (by omega)).1⟩
  obtain ⟨μ1, v1, v2, v3, v4, v5, v6⟩ := m_decR hR hm2 h1
  obtain ⟨μ2, w1, w2, w3⟩ := m_dbL m2 M' 80 0 μ1 (by omega) (by omega) (by rw [v2 0 (by decide) (by decide) (by decide)]; exact m5)
  have f0 : μ2 0 = μ 0 := by rw [w2 0 (by decide), v2 0 (by decide) (by decide) (by decide)]
  obtain ⟨μ3, hμ3⟩ : ∃ μ3, μ3 = up2 μ2 0 (71 + k) c := ⟨_, rfl⟩
  have g0 : μ3 0 = u4 := by rw [hμ3, up2_self, f0, hu4]
  have gq : ∀ q, q ≠ 0 → μ3 q = μ2 q := fun q hq => by rw [hμ3, up2_ne hq]
  have T3 : Tbl μ3 := fun n hn => by rw [gq 5 (by decide), w2 5 (by decide), v2 5 (by decide) (by decide) (by decide)]; exact hT n hn
  have z2' := z2
  obtain ⟨q1, q2, q3, q4, q5, q6, _⟩ := z2'
  obtain ⟨μ4, p1, p2, p3, p4, p5⟩ := m_dec T3 m2 m3 m4 (by rw [g0]; exact q5) (by rw [g0]; exact q6) (by rw [g0]; exact z5)
  obtain ⟨μ5, hμ5⟩ : ∃ μ5, μ5 = up2 μ4 0 (71 + k) (μ 0 (71 + k)) := ⟨_, rfl⟩
  have k0 : μ4 0 = u4 := by rw [p2 0 (by decide) (by decide) (by decide), g0]
  have l0 : μ5 0 = μ 0 := by rw [hμ5, up2_self, k0, hu4, upd_back]
  have lq : ∀ q, q ≠ 6 → q ≠ 7 → q ≠ 8 → q ≠ 9 → μ5 q = μ q := by
    intro q a6 a7 a8 a9
    by_cases h : q = 0
    · rw [h, l0]
    · rw [hμ5, up2_ne h, p2 q a6 a7 a8, gq q h, w2 q a9, v2 q a6 a7 a8]
  have hM : fX7_spreads (nI k) (nI b) μ = some (cntN (md u4 B') (md (μ 0) B') M' 0 0, μ5) := by
    unfold fX7_spreads fX7_decodesBefore fX7_others
    rw [v1, bd_s]
    rw [show fX7_decodesBefore_L6 80 0 μ1 = fX7_decodesBefore_L6 80 (nI 0) μ1 from by rw [← n0], w1, bd_s, o71]
    simp only [gi (show 71 + k < 295 by omega) (by decide), nm_s]
    rw [nI_clamp (show 71 + k < 2 ^ 31 by omega), f0, ← hcd, ← hμ3, p1, bd_s]
    rw [show fX7_others_L8 80 0 0 μ4 = fX7_others_L8 80 0 (nI 0) μ4 from by rw [← n0], m_otL m2 (by rw [k0]; exact q5) M' 80 0 0 (by omega) (by omega), bd2_s, k0, hu4, pk_us, hback, ← hμ5, ← hu4]
    refine congrArg some (congrArg (fun z => (z, μ5)) (cntN_congr _ _ _ (fun i _ hi => ?_)))
    have hiM : i < M' := by omega
    refine ⟨by rw [p3 i hiM, g0], ?_⟩
    rw [p2 9 (by decide) (by decide) (by decide), gq 9 (by decide), w3 i, if_pos ⟨Nat.zero_le i, hiM⟩, v3 i hiM]
  refine ⟨_, s14, μ5, hX, hM, rq, fun q hq => lq q (by omega) (by omega) (by omega) (by omega), lq 20 (by decide) (by decide) (by decide) (by decide), fun dg' => (x5 dg).sm (fun q _ hq => by rw [rq q hq, x2 q (Or.inl hq)]) (by rw [rq 5 (by decide), x2 5 (by decide)]) (Or.inr ⟨by rw [r86 86 (by decide) (by decide)]; exact x4, fun M2 B2 hm5 _ => ?_⟩) (fun q hq => lq q (by omega) (by omega) (by omega) (by omega)) (by rw [lq 20 (by decide) (by decide) (by decide) (by decide)]) (by rw [lq 20 (by decide) (by decide) (by decide) (by decide)])⟩
  rw [l0] at hm5 ⊢
  obtain ⟨rfl, rfl⟩ := hm5.one hm2
  intro i hi
  show s14 87 i = _ ∧ s14 88 i = _
  rw [r86 87 (by decide) (by decide), r86 88 (by decide) (by decide)]
  exact x3 i hi
theorem m_tkL {M : Nat} (hM : M ≤ 64) : ∀ n f k acc (u : Sg), n < f → k + n = M → u 0 0 = nI M → ∃ u1 u', fX7_take_L33 f acc (nI k) u = some (cntN (fun i => u 0 (7 + i)) (u 6) n acc k, u') ∧ fX7_notCoded u1 = some u' ∧ (∀ q, q ≠ 0 → u1 q = u q) ∧ (∀ i, i < 7 → u1 0 i = u 0 i) ∧ ∀ i, i < M → u1 0 (7 + i) = if k ≤ i then u 6 i else u 0 (7 + i) := by
  intro n
  induction n with
  | zero =>
    intro f k acc u hf hk h0
    obtain ⟨f, rfl⟩ := fu1 hf
    obtain ⟨u', a1, _⟩ := m_nc u
    rw [fX7_take_L33, h0, if_pos (nI_le (by omega) (by omega)), a1, bd_s]
    exact ⟨u, u', rfl, a1, fun _ _ => rfl, fun _ _ => rfl, fun i hi => by rw [if_neg (by omega)]⟩
  | succ n ih =>
    intro f k acc u hf hk h0
    obtain ⟨f, rfl⟩ := fu1 hf
    have hb : ∀ z : Int32, fX7_take_b67 (fun x1 x2 μ => fX7_take_L33 f x1 x2 μ) (nI k) z acc u = fX7_take_L33 f (acc + z) (nI (k + 1)) (up2 u 0 (7 + k) (u 6 k)) := by
      intro z
      unfold fX7_take_b67
      rw [nm_s, gi (show k < 64 by omega) (by decide), o7, gi (show 7 + k < 295 by omega) (by decide), nI_clamp (show k < 2 ^ 31 by omega), nI_clamp (show 7 + k < 2 ^ 31 by omega), nm_s, nm_s, nI_1]
    rw [fX7_take_L33, h0, if_neg (nI_ge (by omega) (by omega)), o7, gi (show 7 + k < 295 by omega) (by decide), gi (show k < 64 by omega) (by decide), nI_clamp (show k < 2 ^ 31 by omega), nI_clamp (show 7 + k < 2 ^ 31 by omega), hb, hb, cntN]
    have go : ∀ acc', ∃ u1 u', fX7_take_L33 f acc' (nI (k + 1)) (up2 u 0 (7 + k) (u 6 k)) = some (cntN (fun i => u 0 (7 + i)) (u 6) n acc' (k + 1), u') ∧ fX7_notCoded u1 = some u' ∧ (∀ q, q ≠ 0 → u1 q = u q) ∧ (∀ i, i < 7 → u1 0 i = u 0 i) ∧ ∀ i, i < M → u1 0 (7 + i) = if k ≤ i then u 6 i else u 0 (7 + i) := by
      intro acc'
      obtain ⟨u1, u', a1, a2, a3, a4, a5⟩ := ih f (k + 1) acc' (up2 u 0 (7 + k) (u 6 k)) (by omega) (by omega) (by rw [up2_self, pk_un (by omega)]; exact h0)
      refine ⟨u1, u', ?_, a2, fun q hq => by rw [a3 q hq, up2_ne hq], fun i hi => by rw [a4 i hi, up2_self, pk_un (by omega)], fun i hi => ?_⟩
      · rw [a1]
        refine congrArg some (congrArg (fun z => (z, u')) (cntN_congr _ _ _ (fun i h1 h2 => ⟨?_, ?_⟩)))
        · show up2 u 0 (7 + k) (u 6 k) 0 (7 + i) = u 0 (7 + i)
          rw [up2_self, pk_un (by omega)]
        · rw [up2_ne (by decide)]
      · rw [a5 i hi, up2_ne (show 6 ≠ 0 by decide), up2_self]
        by_cases h1 : k + 1 ≤ i
        · rw [if_pos h1, if_pos (by omega)]
        · rw [if_neg h1]
          by_cases h2 : i = k
          · rw [h2, pk_us, if_pos (by omega)]
          · rw [pk_un (by omega), if_neg (by omega)]
    by_cases h : u 0 (7 + k) = u 6 k
    · rw [if_pos h, if_pos h, Int32.add_zero]
      exact go acc
    · rw [if_neg h, if_neg h]
      exact go (acc + 1)
