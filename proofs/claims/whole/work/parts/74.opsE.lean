/-! PURE: the calls: ifCoded, ifBlock, bestStep; the decoder in its place -/
theorem x_isN (x : Int32) : fX6_isNumber x = some (if 0 ≤ x ∧ x ≤ 48 then 1 else 0) := m_in x 0 48
theorem op_ifCoded : Op_ifCoded Rl := by
  intro σ μ dg hR a1 a2 a3 a4
  have hR' := hR
  obtain ⟨_, _, _, _, _, hT, hD⟩ := hR'
  have thrown : ∀ (_ : fX6_ifCoded a1 a2 a3 a4 σ = some (.inr 0, σ)) (_ : fX7_ifCoded a1 a2 a3 a4 μ = some (0, up2 μ 20 0 1)), ∃ res σ' r μ', fX6_ifCoded a1 a2 a3 a4 σ = some (res, σ') ∧ fX7_ifCoded a1 a2 a3 a4 μ = some (r, μ') ∧ tel [0] res r (μ' 20 0) ∧ Rl σ' μ' dg := by
    intro hX hM
    obtain ⟨t1, t2⟩ := hR.thr (T := [0]) (e := 0) (k := 1) (r := 0) (by decide) rfl
    exact ⟨_, σ, _, _, hX, hM, t1, t2⟩
  have hbad : fX7_ifCoded_b50 a1 a2 a3 a4 μ = some (0, up2 μ 20 0 1) := by
    unfold fX7_ifCoded_b50 fX7_ifCoded_b51 fX7_ifCoded_b64
    rw [if_pos rfl, m_holds (by decide), bd2_s, if_pos rfl]
  have n10 : ¬ (1 : Int32) = 0 := by decide
  by_cases i1 : (-2048 : Int32) ≤ a1 ∧ a1 ≤ 2047
  · by_cases i2 : (0 : Int32) ≤ a2 ∧ a2 ≤ 48
    · by_cases i3 : (-2048 : Int32) ≤ a3 ∧ a3 ≤ 2047
      · by_cases i4 : (0 : Int32) ≤ a4 ∧ a4 ≤ 2
        · obtain ⟨j, j1, j2, rfl⟩ := rng 0 48 (by decide) (by decide) i2
          obtain ⟨w, w1, w2, rfl⟩ := rng 0 2 (by decide) (by decide) i4
          have hj : j < 49 := by omega
          obtain ⟨c, hc⟩ : ∃ c, c = cdf a1 j a3 := ⟨_, rfl⟩
          have hX : fX6_ifCoded a1 (nI j) a3 (nI w) σ = if nI w = 0 then some (.inl c, wk (wk σ 3 a1 j) 3 (nxg a1 j c) (nxn j c)) else if nI w = 1 then some (.inl (nxg a1 j c + 10000), wk (wk σ 3 a1 j) 3 (nxg a1 j c) (nxn j c)) else some (.inl (nI (nxn j c)), wk (wk σ 3 a1 j) 3 (nxg a1 j c) (nxn j c)) := by
            unfold fX6_ifCoded
            rw [x_isV, if_pos i1, bd_s, if_neg n10, x_isV, if_pos i3, bd_s, if_neg n10, x_isN, if_pos i2, bd_s, if_neg n10, if_neg (nlt.mpr i4.1), if_pos i4.2, x_begin, bd_s, x_code 3 j a3 _ hj (wk_1 _ _ _ _), bd_s, wk_0, ← hc, x_follow 3 j c _ hj (wk_1 _ _ _ _), bd_s, wk_0, wk_0, wk_1]
          have hM : fX7_ifCoded a1 (nI j) a3 (nI w) μ = if nI w = 0 then some (c, up2 μ 20 0 0) else if nI w = 1 then some (nxg a1 j c + 10000, up2 μ 20 0 0) else some (nI (nxn j c), up2 μ 20 0 0) := by
            have T' : Tbl (up2 μ 20 0 0) := fun n hn => by rw [up2_ne (by decide)]; exact hT n hn
            unfold fX7_ifCoded fX7_ifCoded_b51 fX7_ifCoded_b64
            rw [m_in, if_pos i1, bd_s, if_neg n10, m_in, if_pos i2, bd_s, if_neg n10, m_in, if_pos i3, bd_s, if_neg n10, m_in, if_pos i4, bd_s, if_neg n10, if_neg n10, m_holds0, bd2_s, if_neg n10, m_code T' hj ((inV_iff a1).mp i1) ((inV_iff a3).mp i3), bd_s, ← hc, m_guess T' hj, bd_s, m_num hj, bd_s]
          have hr : ∀ q, q ≠ 85 → wk (wk σ 3 a1 j) 3 (nxg a1 j c) (nxn j c) q = σ q := fun q hq => by rw [wk_ne hq, wk_ne hq]
          have hRR : Rl (wk (wk σ 3 a1 j) 3 (nxg a1 j c) (nxn j c)) (up2 μ 20 0 0) dg := hR.sm (fun q _ h => hr q (by omega)) (by rw [hr 5 (by decide)]) (hD.fr (by rw [hr 86 (by decide)]) (hr 87 (by decide)) (hr 88 (by decide)) (up2_ne (by decide))) (fun q hq => up2_ne (by omega)) (by rw [up2_self, pk_un (by decide)]) (by rw [up2_self, pk_un (by decide)])
          have ht : ∀ r : Int32, tel [0] (.inl r) r (up2 μ 20 0 0 20 0) := fun r => ⟨by rw [up2_self, pk_us], rfl⟩
          by_cases q0 : nI w = 0
          · rw [if_pos q0] at hX hM
            exact ⟨_, _, _, _, hX, hM, ht _, hRR⟩
          · rw [if_neg q0] at hX hM
            by_cases q1 : nI w = 1
            · rw [if_pos q1] at hX hM
              exact ⟨_, _, _, _, hX, hM, ht _, hRR⟩
            · rw [if_neg q1] at hX hM
              exact ⟨_, _, _, _, hX, hM, ht _, hRR⟩
        · refine thrown ?_ ?_
          · unfold fX6_ifCoded
            rw [x_isV, if_pos i1, bd_s, if_neg n10, x_isV, if_pos i3, bd_s, if_neg n10, x_isN, if_pos i2, bd_s, if_neg n10]
            rcases th_in i4 with q | q
            · rw [if_pos q]
            · rw [if_neg q]
              split <;> rfl
          · unfold fX7_ifCoded
            rw [m_in, if_pos i1, bd_s, if_neg n10, m_in, if_pos i2, bd_s, if_neg n10, m_in, if_pos i3, bd_s, if_neg n10, m_in, if_neg i4, bd_s, if_pos rfl]
            exact hbad
      · refine thrown ?_ ?_
        · unfold fX6_ifCoded
          rw [x_isV, if_pos i1, bd_s, if_neg n10, x_isV, if_neg i3, bd_s, if_pos rfl]
        · unfold fX7_ifCoded
          rw [m_in, if_pos i1, bd_s, if_neg n10, m_in, if_pos i2, bd_s, if_neg n10, m_in, if_neg i3, bd_s, if_pos rfl]
          exact hbad
    · refine thrown ?_ ?_
      · unfold fX6_ifCoded
        rw [x_isV, if_pos i1, bd_s, if_neg n10, x_isV, bd_s, x_isN, if_neg i2, bd_s]
        split
        · rfl
        · rw [if_pos rfl]
      · unfold fX7_ifCoded
        rw [m_in, if_pos i1, bd_s, if_neg n10, m_in, if_neg i2, bd_s, if_pos rfl]
        exact hbad
  · refine thrown ?_ ?_
    · unfold fX6_ifCoded
      rw [x_isV, if_neg i1, bd_s, if_pos rfl]
    · unfold fX7_ifCoded
      rw [m_in, if_neg i1, bd_s, if_pos rfl]
      exact hbad
/-- a range of samples, or none -/
theorem rngS {σ μ : Sg} {M : Nat} (hM1 : 1 ≤ M) (hM2 : M ≤ 64) (h1 : σ 10 0 = nI M) (h2 : μ 0 0 = nI M) (x y : Int32) : (∃ a m, 1 ≤ m ∧ a + m ≤ M ∧ x = nI a ∧ y = nI m ∧ fX6_refuseUnlessSamples x y σ = some (.inl (), σ) ∧ fX7_areSamples x y μ = some 1) ∨ (fX6_refuseUnlessSamples x y σ = some (.inr 1, σ) ∧ fX7_areSamples x y μ = some 0) := by
  have n10 : ¬ (1 : Int32) = 0 := by decide
  unfold fX6_refuseUnlessSamples fX7_areSamples
  rcases smp hM1 hM2 h1 h2 x with ⟨k, hk, rfl, g1, g2⟩ | ⟨g1, g2⟩
  · have e : nI M - nI k = nI (M - k) := pk_sub (by omega)
    rw [g1, g2, bd_s, bd_s, if_neg n10, if_neg n10]
    simp only [Nat.mul_zero, Nat.add_zero]
    rw [h1, h2, e, m_in]
    by_cases c : (1 : Int32) ≤ y ∧ y ≤ nI (M - k)
    · obtain ⟨m, m1, m2, rfl⟩ := rng 1 (M - k) (by decide) (nN _ (by omega)) c
      rw [if_pos c, bd_s, if_neg n10, if_neg (nlt.mpr c.1), if_pos c.2]
      exact Or.inl ⟨k, m, m1, by omega, rfl, rfl, rfl, rfl⟩
    · rw [if_neg c, bd_s, if_pos rfl]
      refine Or.inr ⟨?_, rfl⟩
      rcases th_in c with q | q
      · rw [if_pos q]
      · rw [if_neg q]
        split <;> rfl
  · rw [g1, g2, bd_s, bd_s, if_pos rfl, if_pos rfl]
    exact Or.inr ⟨rfl, rfl⟩
theorem Rl.w82 {σ μ σ' : Sg} {dg : Int64} (hR : Rl σ μ dg) (hr : ∀ q, q < 82 ∨ 86 ≤ q → σ' q = σ q) (dg' : Int64) : Rl σ' μ dg' := by
  have hR' := hR
  obtain ⟨_, _, _, _, _, _, hD⟩ := hR'
  exact hR.sm (fun q _ h => hr q (by omega)) (by rw [hr 5 (by decide)]) (hD.fr (by rw [hr 86 (by decide)]) (hr 87 (by decide)) (hr 88 (by decide)) rfl) (fun q hq => rfl) rfl rfl
theorem op_ifBlock : Op_ifBlock Rl := by
  intro σ μ dg hR a1 a2 a3
  have hR' := hR
  obtain ⟨⟨M, B, hm, ha, _⟩, _, _, _, _, hT, _⟩ := hR'
  have hm' := hm
  obtain ⟨m1, m2, m3, m4, m5, m6, m7, m8, m9, m10⟩ := hm'
  have n10 : ¬ (1 : Int32) = 0 := by decide
  rcases rngS m1 m2 ha.1 m5 a1 a2 with ⟨a, m, h1, h2, rfl, rfl, g1, g2⟩ | ⟨g1, g2⟩
  · by_cases i3 : (0 : Int32) ≤ a3 ∧ a3 ≤ 48
    · obtain ⟨j, j1, j2, rfl⟩ := rng 0 48 (by decide) (by decide) i3
      obtain ⟨σ', e1, e2⟩ := x_err (s := μ 0) (σ := σ) (a := a) (m := m) (j := j) h1 (by omega) (by omega) (fun i hi => ha.2.2.2.2 i (by omega))
      have hX : fX6_ifBlock (nI a) (nI m) (nI j) σ = some (.inl (errs (μ 0) a m j), σ') := by
        unfold fX6_ifBlock
        rw [g1, bx_s, x_isN, if_pos i3, bd_s, if_neg n10, nI_add, e1, bd2_s]
      have hM : fX7_ifBlock (nI a) (nI m) (nI j) μ = some (errs (μ 0) a m j, up2 μ 20 0 0) := by
        have T' : Tbl (up2 μ 20 0 0) := fun n hn => by rw [up2_ne (by decide)]; exact hT n hn
        have f0 : up2 μ 20 0 0 0 = μ 0 := up2_ne (by decide)
        unfold fX7_ifBlock fX7_ifBlock_b29
        rw [g2, bd_s, if_neg n10, m_in, if_pos i3, bd_s, if_neg n10, m_holds0, bd2_s, if_neg n10, m_err T' h1 (by omega) (by omega) (fun i hi => by rw [f0]; exact m9 i (by omega)), bd_s, f0]
      exact ⟨_, _, _, _, hX, hM, ⟨by rw [up2_self, pk_us], rfl⟩, (hR.w82 (fun q hq => e2 q (by omega)) dg).th 0 dg⟩
    · have hX : fX6_ifBlock (nI a) (nI m) a3 σ = some (.inr 0, σ) := by
        unfold fX6_ifBlock
        rw [g1, bx_s, x_isN, if_neg i3, bd_s, if_pos rfl]
      have hM : fX7_ifBlock (nI a) (nI m) a3 μ = some (0, up2 μ 20 0 2) := by
        unfold fX7_ifBlock fX7_ifBlock_b29
        rw [g2, bd_s, if_neg n10, m_in, if_neg i3, bd_s, if_pos rfl, m_holds (by decide), bd2_s, if_pos rfl]
      obtain ⟨t1, t2⟩ := hR.thr (T := [1, 0]) (e := 0) (k := 2) (r := 0) (by decide) rfl
      exact ⟨_, σ, _, _, hX, hM, t1, t2⟩
  · have hX : fX6_ifBlock a1 a2 a3 σ = some (.inr 1, σ) := by
      unfold fX6_ifBlock
      rw [g1, bx_e]
    have hM : fX7_ifBlock a1 a2 a3 μ = some (0, up2 μ 20 0 1) := by
      unfold fX7_ifBlock fX7_ifBlock_b29
      rw [g2, bd_s, if_pos rfl, m_holds (by decide), bd2_s, if_pos rfl]
    obtain ⟨t1, t2⟩ := hR.thr (T := [1, 0]) (e := 1) (k := 1) (r := 0) (by decide) rfl
    exact ⟨_, σ, _, _, hX, hM, t1, t2⟩
theorem bs_core {σ μ : Sg} {dg : Int64} {M B a m : Nat} (hR : Rl σ μ dg) (hm : MS (μ 0) M B) (h1 : 1 ≤ m) (h2 : a + m ≤ M) : ∃ r σ', fX6_bestStep (nI a) (nI m) σ = some (.inl (nI r), σ') ∧ fX7_best (nI a) (nI m) μ = some (nI r) ∧ (∀ q, q ≠ 82 → σ' q = σ q) ∧ ∀ dg', Rl σ' μ dg' := by
  have hR' := hR
  obtain ⟨⟨M', B', hm2, ha, _⟩, _, _, _, _, hT, _⟩ := hR'
  obtain ⟨rfl, rfl⟩ := hm.one hm2
  obtain ⟨m1, m2, m3, m4, m5, m6, m7, m8, m9, m10⟩ := hm2
  obtain ⟨r, σ', e1, e2, e3, e4⟩ := xm_best (σ := σ) hT (a := a) (m := m) h1 (by omega) (fun i hi => ha.2.2.2.2 i (by omega)) (fun i hi => m9 i (by omega))
  refine ⟨r, σ', ?_, e2, e4, hR.w82 (fun q hq => e4 q (by omega))⟩
  unfold fX6_bestStep
  rcases rngS m1 m2 ha.1 m5 (nI a) (nI m) with ⟨_, _, _, _, _, _, g1, _⟩ | ⟨g1, _⟩
  · rw [g1, bx_s, nI_add, e1, bd2_s]
  · exfalso
    revert g1
    unfold fX6_refuseUnlessSamples fX4_hasSample
    simp only [Nat.mul_zero, Nat.add_zero]
    rw [if_neg (nI_pos (by omega)), show σ 10 0 = nI M' from ha.1, if_neg (nI_ge (show a < M' by omega) (by omega)), bd_s, if_neg (show ¬ (1 : Int32) = 0 by decide), if_neg (show ¬ nI m < 1 from nI_nlt (b := 1) h1 (by omega)), pk_sub (by omega), if_pos (nI_le (by omega) (by omega))]
    intro q
    cases q
theorem op_bestStep : Op_bestStep Rl := by
  intro σ μ dg hR a1 a2
  have hR' := hR
  obtain ⟨⟨M, B, hm, ha, _⟩, _⟩ := hR'
  have hm' := hm
  obtain ⟨m1, m2, m3, m4, m5, _⟩ := hm'
  have n10 : ¬ (1 : Int32) = 0 := by decide
  have f0 : up2 μ 20 0 0 0 = μ 0 := up2_ne (by decide)
  rcases rngS m1 m2 ha.1 m5 a1 a2 with ⟨a, m, h1, h2, rfl, rfl, g1, g2⟩ | ⟨g1, g2⟩
  · obtain ⟨r, σ', e1, e2, e3, e4⟩ := bs_core (hR.th 0 dg) (by rw [f0]; exact hm) h1 h2
    have hM : fX7_bestStep (nI a) (nI m) μ = some (nI r, up2 μ 20 0 0) := by
      unfold fX7_bestStep fX7_bestStep_b15
      rw [g2, bd_s, if_neg n10, m_holds0, bd2_s, if_neg n10, e2, bd_s]
    exact ⟨_, _, _, _, e1, hM, ⟨by rw [up2_self, pk_us], rfl⟩, e4 dg⟩
  · have hX : fX6_bestStep a1 a2 σ = some (.inr 1, σ) := by
      unfold fX6_bestStep
      rw [g1, bx_e]
    have hM : fX7_bestStep a1 a2 μ = some (0, up2 μ 20 0 1) := by
      unfold fX7_bestStep fX7_bestStep_b15
      rw [g2, bd_s, if_pos rfl, m_holds (by decide), bd2_s, if_pos rfl]
    obtain ⟨t1, t2⟩ := hR.thr (T := [1]) (e := 1) (k := 1) (r := 0) (by decide) rfl
    exact ⟨_, σ, _, _, hX, hM, t1, t2⟩
/-- the class's decoder asked where the wave is coded -/
theorem x_decR {σ μ : Sg} {dg : Int64} {M B : Nat} (hR : Rl σ μ dg) (hm : MS (μ 0) M B) (h1 : μ 0 1 = 1) : ∃ σ', fX2_decode 0 0 σ = some σ' ∧ (∀ q, q < 82 ∨ 89 ≤ q → σ' q = σ q) ∧ (∀ i, i < M → σ' 87 i = md (μ 0) B i ∧ σ' 88 i = nd (μ 0) B i) ∧ σ' 86 3 = 1 ∧ ∀ dg', Rl σ' μ dg' := by
  have hR' := hR
  obtain ⟨hS, _, _, _, _, _, hD⟩ := hR'
  obtain ⟨M', B', hm2, ha, ho, hd⟩ := hS.cod h1
  obtain ⟨rfl, rfl⟩ := hm.one hm2
  have hm3 := hm2
  obtain ⟨m1, m2, m3, m4, m5, m6, m7, m8, m9, m10⟩ := hm3
  obtain ⟨σ', e1, e2, e3, e4⟩ := x_dec2 (i0 := 0) m2 m3 m4 hd ha ho (by
    rcases hD with q | ⟨q, q2⟩
    · exact Or.inl q
    · exact Or.inr ⟨q, q2 M' B' hm2 h1⟩)
  have hr : ∀ q, q < 82 ∨ 89 ≤ q → σ' q = σ q := fun q hq => e2 q (by unfold dR; omega) (by omega)
  refine ⟨σ', e1, hr, e3, e4, fun dg' => hR.sm (fun q _ h => hr q (Or.inl h)) (by rw [hr 5 (by decide)]) (Or.inr ⟨e4, fun M2 B2 hm4 _ => ?_⟩) (fun _ _ => rfl) rfl rfl⟩
  obtain ⟨rfl, rfl⟩ := hm2.one hm4
  exact e3
theorem m_decR {σ μ : Sg} {dg : Int64} {M B : Nat} (hR : Rl σ μ dg) (hm : MS (μ 0) M B) (h1 : μ 0 1 = 1) : ∃ μ', fX7_decodes μ = some μ' ∧ (∀ q, q ≠ 6 → q ≠ 7 → q ≠ 8 → μ' q = μ q) ∧ (∀ i, i < M → μ' 6 i = md (μ 0) B i) ∧ (∀ i, i < M → μ' 7 i = nI (gn (μ 0) B i).2) ∧ (∀ b, b * B < M → μ' 8 b = nI (gn (μ 0) B (eo M B b - 1)).2) ∧ ∀ dg', Rl σ μ' dg' := by
  have hR' := hR
  obtain ⟨hS, _, _, _, _, hT, hD⟩ := hR'
  obtain ⟨M', B', hm2, ha, ho, hd⟩ := hS.cod h1
  obtain ⟨rfl, rfl⟩ := hm.one hm2
  obtain ⟨m1, m2, m3, m4, m5, m6, m7, m8, m9, m10⟩ := hm2
  obtain ⟨μ', e1, e2, e3, e4, e5⟩ := m_dec hT m2 m3 m4 m5 m6 hd
  exact ⟨μ', e1, e2, e3, e4, e5, fun dg' => hR.sm (fun _ _ _ => rfl) rfl (hD.fr rfl rfl rfl (e2 0 (by decide) (by decide) (by decide))) (fun q hq => e2 q (by omega) (by omega) (by omega)) (by rw [e2 20 (by decide) (by decide) (by decide)]) (by rw [e2 20 (by decide) (by decide) (by decide)])⟩
