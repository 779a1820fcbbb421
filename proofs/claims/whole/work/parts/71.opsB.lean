/-! PURE: the calls: slots, undo, code, settings, the buffer's small calls -/
theorem op_step : Op_step Rl := by
  intro σ μ dg hR a1
  have hR' := hR
  obtain ⟨_, _, _, _, _, hT, _⟩ := hR'
  by_cases hin : (0 : Int32) ≤ a1 ∧ a1 ≤ 48
  · obtain ⟨j, j1, j2, rfl⟩ := rng 0 48 (by decide) (by decide) hin
    have hX : fX6_step (nI j) σ = some (.inl (stp j), σ) := by
      unfold fX6_step fX6_isNumber
      rw [if_neg (nlt.mpr hin.1), if_neg (nlt.mpr hin.2), bd_s, if_neg (show ¬ (1 : Int32) = 0 by decide), so_j j (by omega), bd_s]
    have hM : fX7_step (nI j) μ = some (stp j, up2 μ 20 0 0) := by
      unfold fX7_step fX7_step_b16
      rw [m_in, if_pos hin, bd_s, if_neg (show ¬ (1 : Int32) = 0 by decide), m_holds0, bd2_s, if_neg (show ¬ (1 : Int32) = 0 by decide), gi (show j < 49 by omega) (by decide), nI_clamp (show j < 2 ^ 31 by omega), up2_ne (by decide), hT j (by omega)]
    exact ⟨_, σ, _, _, hX, hM, ⟨by rw [up2_self, pk_us], rfl⟩, hR.th 0 dg⟩
  · have hX : fX6_step a1 σ = some (.inr 1, σ) := by
      unfold fX6_step fX6_isNumber
      rcases th_in hin with h | h
      · rw [if_pos h, bd_s, if_pos rfl]
      · have h' := nle.mp h
        by_cases h0 : a1 < 0
        · rw [if_pos h0, bd_s, if_pos rfl]
        · rw [if_neg h0, if_pos h', bd_s, if_pos rfl]
    have hM : fX7_step a1 μ = some (0, up2 μ 20 0 1) := by
      unfold fX7_step fX7_step_b16
      rw [m_in, if_neg hin, bd_s, if_pos rfl, m_holds (by decide), bd2_s, if_pos rfl]
    obtain ⟨t1, t2⟩ := hR.thr (T := [1]) (e := 1) (k := 1) (r := 0) (by decide) rfl
    exact ⟨_, σ, _, _, hX, hM, t1, t2⟩
theorem x_isS {a1 : Int32} : fX6_isSetting a1 = some (if 0 ≤ a1 ∧ a1 ≤ 2 then 1 else 0) := by
  unfold fX6_isSetting
  have t2 : (2 : Int32).toInt = 2 := by decide
  have t3 : (3 : Int32).toInt = 3 := by decide
  simp only [Int32.lt_iff_toInt_lt, Int32.le_iff_toInt_le, t2, t3, Int32.toInt_zero]
  by_cases c1 : a1.toInt < 0
  · rw [if_pos c1, if_neg (by omega)]
  · rw [if_neg c1]
    by_cases c2 : 3 ≤ a1.toInt
    · rw [if_pos c2, if_neg (by omega)]
    · rw [if_neg c2, if_pos (by omega)]
theorem set_eq {σ : Sg} {s : Nat → Int32} {M B : Nat} (ha : Ba σ 10 s M B) (hm : MS s M B) : ∀ j, j < 3 → σ 12 j = s (2 + j) := by
  intro j hj
  rcases (show j = 0 ∨ j = 1 ∨ j = 2 by omega) with rfl | rfl | rfl
  · exact ha.2.1.trans hm.2.2.2.2.2.1.symm
  · exact ha.2.2.1
  · exact ha.2.2.2.1
theorem op_setting : Op_setting Rl := by
  intro σ μ dg hR a1
  have hR' := hR
  obtain ⟨⟨M, B, hm, ha, _⟩, _⟩ := hR'
  by_cases hin : (0 : Int32) ≤ a1 ∧ a1 ≤ 2
  · obtain ⟨j, j1, j2, rfl⟩ := rng 0 2 (by decide) (by decide) hin
    have hX : fX6_setting (nI j) σ = some (.inl (μ 0 (2 + j)), σ) := by
      unfold fX6_setting
      rw [x_isS, if_pos hin, bd_s, if_neg (show ¬ (1 : Int32) = 0 by decide), gi (show j < 3 by omega) (by decide), nI_clamp (show j < 2 ^ 31 by omega)]
      simp only [Nat.mul_zero, Nat.add_zero, Nat.reduceAdd]
      rw [set_eq ha hm j (by omega)]
    have hM : fX7_setting (nI j) μ = some (μ 0 (2 + j), up2 μ 20 0 0) := by
      unfold fX7_setting fX7_setting_b15
      rw [m_in, if_pos hin, bd_s, if_neg (show ¬ (1 : Int32) = 0 by decide), m_holds0, bd2_s, if_neg (show ¬ (1 : Int32) = 0 by decide), o2, gi (show 2 + j < 295 by omega) (by decide), nI_clamp (show 2 + j < 2 ^ 31 by omega), up2_ne (by decide)]
    exact ⟨_, σ, _, _, hX, hM, ⟨by rw [up2_self, pk_us], rfl⟩, hR.th 0 dg⟩
  · have hX : fX6_setting a1 σ = some (.inr 1, σ) := by
      unfold fX6_setting
      rw [x_isS, if_neg hin, bd_s, if_pos rfl]
    have hM : fX7_setting a1 μ = some (0, up2 μ 20 0 1) := by
      unfold fX7_setting fX7_setting_b15
      rw [m_in, if_neg hin, bd_s, if_pos rfl, m_holds (by decide), bd2_s, if_pos rfl]
    obtain ⟨t1, t2⟩ := hR.thr (T := [1]) (e := 1) (k := 1) (r := 0) (by decide) rfl
    exact ⟨_, σ, _, _, hX, hM, t1, t2⟩
theorem x_slot {a1 : Int32} {σ : Sg} : fX6_refuseUnlessSlot a1 σ = if 0 ≤ a1 ∧ a1 ≤ 1 then some (.inl (), σ) else some (.inr 0, σ) := by
  unfold fX6_refuseUnlessSlot
  have t2 : (2 : Int32).toInt = 2 := by decide
  have t1 : (1 : Int32).toInt = 1 := by decide
  simp only [Int32.lt_iff_toInt_lt, Int32.le_iff_toInt_le, t2, t1, Int32.toInt_zero]
  by_cases c1 : a1.toInt < 0
  · rw [if_pos c1, if_neg (by omega)]
  · rw [if_neg c1]
    by_cases c2 : a1.toInt < 2
    · rw [if_pos c2, if_pos (by omega)]
    · rw [if_neg c2, if_neg (by omega)]
theorem op_keep : Op_keep Rl := by
  intro σ μ dg hR a1
  have hR' := hR
  obtain ⟨hS, ⟨h, hH⟩, hB, hK, hbf, hT, hD⟩ := hR'
  by_cases hin : (0 : Int32) ≤ a1 ∧ a1 ≤ 1
  · obtain ⟨j, j1, j2, rfl⟩ := rng 0 1 (by decide) (by decide) hin
    obtain ⟨τ, e1, e2, e3, e4⟩ := x_cf (σ := σ) (i0 := 1 + j) (i1 := 0) (by omega) (hB 0 (by decide))
    obtain ⟨u, k1, k2, k3⟩ := m_kpL (a := j) (by omega) 295 400 0 (up2 μ 20 0 0) (by decide) (by decide)
    have hX : fX6_keep (nI j) σ = some (.inl (μ 0 0), up2 τ 4 j 1) := by
      unfold fX6_keep
      rw [x_slot, if_pos hin, bx_s, gi (show j < 2 by omega) (by decide), nI_clamp (show j < 2 ^ 31 by omega), nm_s, gd_of (show 1 + j < 9 by omega), e1, bd_s, gj (show j < 2 by omega) (by decide), nm_s]
      simp only [Nat.mul_zero, Nat.add_zero]
      obtain ⟨M, B, hm, ha, _⟩ := hS
      rw [up2_ne (by decide), e2 10 (by omega), show σ 10 0 = nI M from ha.1, hm.2.2.2.2.1]
    have hM : fX7_keep (nI j) μ = some (μ 0 0, up2 u 3 j 1) := by
      unfold fX7_keep
      rw [m_in, if_pos hin, bd_s, if_neg (show ¬ (1 : Int32) = 0 by decide), m_holds0, bd2_s, if_neg (show ¬ (1 : Int32) = 0 by decide), n0, ← n0]
      rw [show fX7_keep_L25 (nI j) 400 0 (up2 μ 20 0 0) = fX7_keep_L25 (nI j) 400 (nI 0) (up2 μ 20 0 0) from by rw [← n0], k1, up2_ne (by decide)]
    have hr : ∀ q, q ≠ 4 → (q < 18 ∨ 34 ≤ q) → up2 τ 4 j 1 q = σ q := fun q h1 h2 => by rw [up2_ne h1, e2 q (by omega)]
    have hu : ∀ q, q ≠ 2 → q ≠ 3 → q ≠ 20 → up2 u 3 j 1 q = μ q := fun q h1 h2 h3 => by rw [up2_ne h2, k2 q h1, up2_ne h3]
    have h20 : up2 u 3 j 1 20 = upd (μ 20) 0 0 := by rw [up2_ne (by decide), k2 20 (by decide), up2_self]
    refine ⟨_, _, _, _, hX, hM, ⟨by rw [h20, pk_us], rfl⟩, ?_, ⟨h, hH.fr (fun q hq => hr q (by omega) (by omega)) (hu 1 (by decide) (by decide) (by decide)) (by rw [h20, pk_un (by decide)])⟩, fun i hi => ?_, fun v hv => ?_, hbf.fr (by rw [hr 5 (by decide) (by decide)]) (hr 6 (by decide) (by decide)) (by rw [h20, pk_un (by decide)]) (hu 4 (by decide) (by decide) (by decide)), fun n hn => by rw [hu 5 (by decide) (by decide) (by decide)]; exact hT n hn, hD.fr (by rw [hr 86 (by decide) (by decide)]) (hr 87 (by decide) (by decide)) (hr 88 (by decide) (by decide)) (hu 0 (by decide) (by decide) (by decide))⟩
    · rw [hu 0 (by decide) (by decide) (by decide)]
      exact hS.eqs (EqS.of (fun q hq => hr _ (by omega) (by omega)))
    · intro q hq
      rw [up2_ne (by omega)]
      by_cases hi2 : i = 1 + j
      · rw [hi2]
        exact e4 q hq
      · rw [e2 _ (by omega)]
        exact hB i hi q hq
    · by_cases hv2 : v = j
      · subst hv2
        rw [up2_self, up2_self, pk_us, pk_us]
        refine ⟨rfl, Or.inr ⟨rfl, ?_⟩⟩
        rw [up2_ne (by decide)]
        refine SR.cong (s := μ 0) (SR.eqs (σ := τ) (q := 10 + 8 * (1 + v)) (SR.eqs hS e3) (EqS.of (fun q hq => up2_ne (by omega)))) (fun q hq => ?_)
        rw [k3, if_pos (by omega), show 295 * v + q - 295 * v = q by omega, up2_ne (by decide)]
      · obtain ⟨w1, w2⟩ := hK v hv
        rw [up2_self, up2_self, pk_un hv2, pk_un hv2, e2 4 (by omega), k2 3 (by decide), up2_ne (by decide)]
        refine ⟨w1, ?_⟩
        rcases w2 with w | ⟨w, w3⟩
        · exact Or.inl w
        · refine Or.inr ⟨w, ?_⟩
          rw [up2_ne (by decide)]
          refine SR.cong (SR.eqs w3 (EqS.of (fun q hq => by rw [up2_ne (by omega), e2 _ (by omega)]))) (fun q hq => ?_)
          rw [k3, if_neg (by omega), up2_ne (by decide)]
  · have hX : fX6_keep a1 σ = some (.inr 0, σ) := by
      unfold fX6_keep
      rw [x_slot, if_neg hin, bx_e]
    have hM : fX7_keep a1 μ = some (0, up2 μ 20 0 1) := by
      unfold fX7_keep
      rw [m_in, if_neg hin, bd_s, if_pos rfl, m_holds (by decide), bd2_s, if_pos rfl]
    obtain ⟨t1, t2⟩ := hR.thr (T := [0]) (e := 0) (k := 1) (r := 0) (by decide) rfl
    exact ⟨_, σ, _, _, hX, hM, t1, t2⟩
theorem op_goBack : Op_goBack Rl := by
  intro σ μ dg hR a1
  have hR' := hR
  obtain ⟨_, _, _, hK, _, _, _⟩ := hR'
  by_cases hin : (0 : Int32) ≤ a1 ∧ a1 ≤ 1
  · obtain ⟨j, j1, j2, rfl⟩ := rng 0 1 (by decide) (by decide) hin
    obtain ⟨w1, w2⟩ := hK j (by omega)
    rcases w2 with w | ⟨w, w3⟩
    · have hX : fX6_goBack (nI j) σ = some (.inr 2, σ) := by
        unfold fX6_goBack
        rw [x_slot, if_pos hin, bx_s, gi (show j < 2 by omega) (by decide), nI_clamp (show j < 2 ^ 31 by omega), w1, w, if_pos rfl]
      have hM : fX7_goBack (nI j) μ = some (0, up2 μ 20 0 2) := by
        unfold fX7_goBack fX7_goBack_b28
        rw [m_in, if_pos hin, bd_s, if_neg (show ¬ (1 : Int32) = 0 by decide), gi (show j < 2 by omega) (by decide), nI_clamp (show j < 2 ^ 31 by omega), w, if_pos rfl, m_holds (by decide), bd2_s, if_pos rfl]
      obtain ⟨t1, t2⟩ := hR.thr (T := [0, 2]) (e := 2) (k := 2) (r := 0) (by decide) rfl
      exact ⟨_, σ, _, _, hX, hM, t1, t2⟩
    · obtain ⟨σ1, μ1, b1, b2, b3, b4, b5, b6, b7⟩ := xm_begin (hR.th 0 dg)
      have b3' := b3 dg
      have b3'' := b3'
      obtain ⟨_, _, r3, _, _, _, _⟩ := b3''
      obtain ⟨τ, e1, e2, e3, e4⟩ := x_cf (σ := σ1) (i0 := 0) (i1 := 1 + j) (by omega) (r3 (1 + j) (by omega))
      obtain ⟨u, k1, k2, k3⟩ := m_gbL (a := j) (by omega) 295 400 0 μ1 (by decide) (by decide)
      have hS1 : SR σ1 (10 + 8 * (1 + j)) (fun k => μ 2 (295 * j + k)) := w3.eqs (EqS.of (fun q hq => b5 _ (by omega) (by omega) (by omega) (by omega)))
      have hS2 : SR τ 10 (u 0) := by
        refine SR.cong (SR.eqs hS1 e3) (fun q hq => ?_)
        rw [k3 q hq, if_pos (Nat.zero_le q), b6 2 (by decide) (by decide), up2_ne (by decide)]
      have hS3 := hS2
      obtain ⟨M, B, hm, ha, _⟩ := hS3
      have hX : fX6_goBack (nI j) σ = some (.inl (nI M), τ) := by
        unfold fX6_goBack
        rw [x_slot, if_pos hin, bx_s, gi (show j < 2 by omega) (by decide), nI_clamp (show j < 2 ^ 31 by omega), w1, w, if_neg (by decide), b1, bd_s, gj (show j < 2 by omega) (by decide), nm_s, gd_of (show 1 + j < 9 by omega), e1, bd_s]
        simp only [Nat.mul_zero, Nat.add_zero]
        rw [show τ 10 0 = nI M from ha.1]
      have hM : fX7_goBack (nI j) μ = some (nI M, u) := by
        unfold fX7_goBack fX7_goBack_b28
        rw [m_in, if_pos hin, bd_s, if_neg (show ¬ (1 : Int32) = 0 by decide), gi (show j < 2 by omega) (by decide), nI_clamp (show j < 2 ^ 31 by omega), w, if_neg (by decide), m_holds0, bd2_s, if_neg (show ¬ (1 : Int32) = 0 by decide), b2, bd_s]
        rw [show fX7_goBack_L42 (nI j) 400 0 μ1 = fX7_goBack_L42 (nI j) 400 (nI 0) μ1 from by rw [← n0], k1, hm.2.2.2.2.1]
      refine ⟨_, τ, _, u, hX, hM, ⟨?_, rfl⟩, b3'.op hS2 e4 (fun q hq => e2 q (by omega)) ?_ (fun q h1 h2 => k2 q (by omega)) (k2 20 (by decide))⟩
      · rw [k2 20 (by decide), b7 0 (by decide), up2_self, pk_us]
      · rw [e2 86 (by omega)]
        exact b4
  · have hX : fX6_goBack a1 σ = some (.inr 0, σ) := by
      unfold fX6_goBack
      rw [x_slot, if_neg hin, bx_e]
    have hM : fX7_goBack a1 μ = some (0, up2 μ 20 0 1) := by
      unfold fX7_goBack fX7_goBack_b28
      rw [m_in, if_neg hin, bd_s, if_pos rfl, m_holds (by decide), bd2_s, if_pos rfl]
    obtain ⟨t1, t2⟩ := hR.thr (T := [0, 2]) (e := 0) (k := 1) (r := 0) (by decide) rfl
    exact ⟨_, σ, _, _, hX, hM, t1, t2⟩
theorem op_undo : Op_undo Rl := by
  intro σ μ dg hR
  have hR' := hR
  obtain ⟨hS, ⟨h, hH⟩, hB, hK, hbf, hT, hD⟩ := hR'
  obtain ⟨a1, a2, a3, π, p1, p2, p3⟩ := hH
  by_cases h0 : h = 0
  · subst h0
    have hX : fX6_undo σ = some (.inr 2, σ) := by
      unfold fX6_undo
      rw [a2, if_pos (show nI 0 = 0 from rfl)]
    have hM : fX7_undo μ = some (0, up2 μ 20 0 1) := by
      unfold fX7_undo fX7_undo_b13
      rw [a3, if_pos (show nI 0 ≤ 0 by decide), m_holds (by decide), bd2_s, if_pos rfl]
    obtain ⟨t1, t2⟩ := hR.thr (T := [2]) (e := 2) (k := 1) (r := 0) (by decide) rfl
    exact ⟨_, σ, _, _, hX, hM, t1, t2⟩
  · obtain ⟨g, rfl⟩ : ∃ g, h = g + 1 := ⟨h - 1, by omega⟩
    obtain ⟨q1, q2, q3⟩ := p1 g (by omega)
    have en : nI (g + 1) - 1 = nI g := nI_pred g
    obtain ⟨τ, e1, e2, e3, e4⟩ := x_cf (σ := up2 σ 1 1 (nI g)) (i0 := 0) (i1 := π g) (by omega) (fun k hk => by rw [up2_ne (by omega)]; exact hB (π g) q2 k hk)
    obtain ⟨u, k1, k2, k3⟩ := m_unL (h := g) (by omega) 295 400 0 (up2 (up2 μ 20 0 0) 20 3 (nI g)) (by decide) (by decide) (by rw [up2_self, pk_us])
    have hX : fX6_undo σ = some (.inl (nI g), up2 τ 86 3 0) := by
      unfold fX6_undo fX3_restore
      rw [a2, if_neg (nI_ne0 (by omega) (by omega)), en, nm_s, up2_self, pk_us, gi (show g < 6 by omega) (by decide), nI_clamp (show g < 2 ^ 31 by omega), up2_ne (show 2 ≠ 1 by decide), q3, nI_clamp (show π g < 2 ^ 31 by omega), nm_s, gd_of q2, e1, bd_s, bd_s, nm_s]
      simp only [Nat.mul_zero, Nat.add_zero]
      rw [up2_ne (by decide), e2 1 (by omega), up2_self, pk_us]
    have hM : fX7_undo μ = some (nI g, u) := by
      unfold fX7_undo fX7_undo_b13
      rw [a3, if_neg (nI_nle (by omega) (by omega)), m_holds0, bd2_s, if_neg (show ¬ (1 : Int32) = 0 by decide), up2_self, pk_un (by decide), a3, en, nm_s]
      rw [show fX7_undo_L33 400 0 (up2 (up2 μ 20 0 0) 20 3 (nI g)) = fX7_undo_L33 400 (nI 0) (up2 (up2 μ 20 0 0) 20 3 (nI g)) from by rw [← n0], k1]
    have h20 : u 20 = upd (upd (μ 20) 0 0) 3 (nI g) := by rw [k2 20 (by decide), up2_self, up2_self]
    have hu : ∀ q, q ≠ 0 → q ≠ 20 → u q = μ q := fun q h1 h2 => by rw [k2 q h1, up2_ne h2, up2_ne h2]
    have hr : ∀ q, q ≠ 1 → (q < 10 ∨ 18 ≤ q) → q ≠ 86 → up2 τ 86 3 0 q = σ q := fun q h1 h2 h3 => by rw [up2_ne h3, e2 q (by omega), up2_ne h1]
    refine ⟨_, _, _, _, hX, hM, ⟨by rw [h20, pk_un (by decide), pk_us], rfl⟩, ?_, ⟨g, ⟨by omega, by rw [up2_ne (by decide), e2 1 (by omega), up2_self, pk_us], by rw [h20, pk_us], π, fun t ht => by rw [hr 2 (by decide) (by decide) (by decide)]; exact p1 t ht, p2, fun t ht => ?_⟩⟩, fun i hi => ?_, hK.fr (fun q hq => hr q (by omega) (by omega) (by omega)) (hu 2 (by decide) (by decide)) (hu 3 (by decide) (by decide)), hbf.fr (by rw [hr 5 (by decide) (by decide) (by decide)]) (hr 6 (by decide) (by decide) (by decide)) (by rw [h20, pk_un (by decide), pk_un (by decide)]) (hu 4 (by decide) (by decide)), fun n hn => by rw [hu 5 (by decide) (by decide)]; exact hT n hn, Or.inl (by rw [up2_self, pk_us])⟩
    · refine SR.cong (SR.eqs (SR.eqs (SR.eqs (p3 g (by omega)) (EqS.of (fun q hq => up2_ne (by omega)))) e3) (EqS.of (fun q hq => up2_ne (by omega)))) (fun q hq => ?_)
      rw [k3 q hq, if_pos (Nat.zero_le q), up2_ne (by decide), up2_ne (by decide)]
    · have := p1 t (by omega)
      rw [hu 1 (by decide) (by decide)]
      exact (p3 t (by omega)).eqs (EqS.of (fun q hq => hr _ (by omega) (by omega) (by omega)))
    · intro q hq
      rcases Nat.eq_zero_or_pos i with rfl | hp
      · rw [up2_ne (by decide)]
        exact e4 q hq
      · rw [hr _ (by omega) (by omega) (by omega)]
        exact hB i hi q hq
theorem op_code : Op_code Rl := by
  intro σ μ dg hR
  obtain ⟨σ1, μ1, b1, b2, b3, b4, b5, b6, b7⟩ := xm_begin (hR.th 0 dg)
  have b3' := b3 dg
  have b3'' := b3'
  obtain ⟨r1, _, r3, _, _, rT, _⟩ := b3''
  obtain ⟨M, B, hm, ha, h9, h10, hc⟩ := r1
  have hm' := hm
  obtain ⟨m1, m2, m3, m4, m5, m6, m7, m8, m9, m10⟩ := hm'
  obtain ⟨μ2, hμ2⟩ : ∃ μ2, μ2 = up2 (up2 μ1 0 1 1) 0 5 (μ1 0 5 + 1) := ⟨_, rfl⟩
  have u0 : μ2 0 = upd (upd (μ1 0) 1 1) 5 (μ1 0 5 + 1) := by rw [hμ2, up2_self, up2_self]
  have u1 : ∀ q, q ≠ 0 → μ2 q = μ1 q := fun q h => by rw [hμ2, up2_ne h, up2_ne h]
  have hF : Fa σ1 μ2 M B := by
    refine ⟨m1, m2, m3, m4, ha.1, ha.2.1, ?_, ?_, ?_, fun n hn => by rw [u1 5 (by decide)]; exact rT n hn, fun i hi => ?_⟩
    · rw [u0, pk_un (by decide), pk_un (by decide)]; exact m5
    · rw [u0, pk_un (by decide), pk_un (by decide)]; exact m6
    · rw [u0, pk_un (by decide), pk_un (by decide)]; exact ha.2.2.1
    · rw [u0, pk_un (by omega), pk_un (by omega)]
      exact ⟨ha.2.2.2.2 i hi, m9 i hi⟩
  obtain ⟨τ, u, c1, c2, c3, c4, c5, c6, c7, c8, c9, c10⟩ := xm_cwL (M := M) (B := B) (NB M B) 80 0 0 σ1 μ2 (by have := nb_le m3 m2; omega) (by omega) (by decide) hF (by rw [u0, pk_un (by decide), pk_us]) (r3 0 (by decide)) ⟨fun i hi => by omega, fun i hi => by omega⟩
  have hX : fX6_code σ = some (nI (NB M B), τ) := by
    unfold fX6_code fX1_codeWave
    rw [b1, bd_s, n0, c1, bd_s]
    simp only [Nat.mul_zero, Nat.add_zero]
    rw [c4]
  have hM : fX7_code μ = some (nI (NB M B), u) := by
    unfold fX7_code
    rw [nm_s, b2, bd_s, nm_s, nm_s, up2_self, pk_un (show (5 : Nat) ≠ 1 by decide), ← hμ2]
    rw [show fX7_code_L30 80 0 0 μ2 = fX7_code_L30 80 (nI 0) (nI 0) μ2 from by rw [← n0], c2]
  have v0 : ∀ i, i ≠ 1 → i ≠ 5 → i < 71 → u 0 i = μ1 0 i := fun i h1 h5 h => by rw [c8 i h, u0, pk_un h5, pk_un h1]
  have s12 : τ 12 = σ1 12 := c3 12 (by decide) (by decide) (by decide)
  have s11 : τ 11 = σ1 11 := c3 11 (by decide) (by decide) (by decide)
  have e1 : u 0 1 = 1 := by rw [c8 1 (by decide), u0, pk_un (by decide), pk_us]
  obtain ⟨P1, P2⟩ := c10
  have hBm : ∀ {b : Nat}, 0 < B → (b < NB M B ↔ b * B < M) := fun h => nb_lt h
  have hCd : CdS (u 0) M B := by
    refine ⟨fun b hb => ?_, fun k hk => ?_⟩
    · obtain ⟨g1, g2, g3, g4, g5, g6⟩ := P1 b ((hBm (by omega)).mpr hb)
      exact ⟨g2, g4, Or.inl g6⟩
    · obtain ⟨g1, g2, g3, g4⟩ := P2 k (by
        rcases Nat.lt_or_ge k (NB M B * B) with q | q
        · exact q
        · have := (hBm (b := NB M B) (by omega)).mpr (by omega)
          omega) hk
      exact ⟨g3, g4⟩
  have hCo : Co τ 10 (u 0) M B := by
    refine ⟨c4, fun b hb => ?_, fun k hk => ?_⟩
    · obtain ⟨g1, g2, g3, g4, g5, g6⟩ := P1 b ((hBm (by omega)).mpr hb)
      exact ⟨g1, g3, g5.trans g6.symm⟩
    · obtain ⟨g1, g2, g3, g4⟩ := P2 k (by
        rcases Nat.lt_or_ge k (NB M B * B) with q | q
        · exact q
        · have := (hBm (b := NB M B) (by omega)).mpr (by omega)
          omega) hk
      exact ⟨g1, g2⟩
  refine ⟨_, τ, u, hX, hM, b3'.op ⟨M, B, ⟨m1, m2, m3, m4, ?_, ?_, ?_, ?_, fun k hk => ?_, Or.inr ⟨e1, hCd⟩⟩, ⟨?_, ?_, ?_, ?_, fun k hk => ?_⟩, ?_, ?_, Or.inr ⟨e1, hCo⟩⟩ c9 (fun q hq => c3 q (by omega) (by omega) (by omega)) ?_ (fun q h1 h2 => ?_) ?_⟩
  · rw [v0 0 (by decide) (by decide) (by decide)]; exact m5
  · rw [v0 2 (by decide) (by decide) (by decide)]; exact m6
  · rw [v0 3 (by decide) (by decide) (by decide)]; exact m7
  · rw [v0 4 (by decide) (by decide) (by decide)]; exact m8
  · rw [v0 (7 + k) (by omega) (by omega) (by omega)]; exact m9 k hk
  · rw [c6 0 (by decide) (by decide)]; exact ha.1
  · rw [s12]; exact ha.2.1
  · rw [s12, v0 3 (by decide) (by decide) (by decide)]; exact ha.2.2.1
  · rw [s12, v0 4 (by decide) (by decide) (by decide)]; exact ha.2.2.2.1
  · rw [s11, v0 (7 + k) (by omega) (by omega) (by omega)]; exact ha.2.2.2.2 k hk
  · rw [c5, c8 5 (by decide), u0, pk_us, h9]
  · rw [c6 10 (by decide) (by decide), v0 6 (by decide) (by decide) (by decide)]; exact h10
  · rw [c3 86 (by decide) (by decide) (by decide)]; exact b4
  · rw [c7 q (by omega), u1 q (by omega)]
  · rw [c7 20 (by decide), u1 20 (by decide)]
theorem op_append : Op_append Rl := by
  intro σ μ dg hR a1
  have hR' := hR
  obtain ⟨hS, hH, hB, hK, ⟨L, L1, L2, L3, L4⟩, hT, hD⟩ := hR'
  by_cases hin : (33 : Int32) ≤ a1 ∧ a1 ≤ 126
  · by_cases hL : L = 40
    · subst hL
      have hX : fX6_append a1 σ = some (.inr 2, σ) := by
        unfold fX6_append fX0_isFull
        rw [if_neg (nlt.mpr hin.1), if_pos hin.2, L2, if_neg (show ¬ nI 40 < 40 by decide), bd_s, if_neg (show ¬ (1 : Int32) = 0 by decide)]
      have hM : fX7_append a1 μ = some (0, up2 μ 20 0 2) := by
        unfold fX7_append fX7_append_b30
        rw [m_in, if_pos hin, bd_s, if_neg (show ¬ (1 : Int32) = 0 by decide), L3, if_pos (show nI 40 = 40 from rfl), m_holds (by decide), bd2_s, if_pos rfl]
      obtain ⟨t1, t2⟩ := hR.thr (T := [0, 2]) (e := 2) (k := 2) (r := 0) (by decide) rfl
      exact ⟨_, σ, _, _, hX, hM, t1, t2⟩
    · have hX : fX6_append a1 σ = some (.inl (nI (L + 1)), up2 (up2 σ 6 L a1) 5 1 (nI (L + 1))) := by
        unfold fX6_append fX0_put fX0_isFull
        rw [if_neg (nlt.mpr hin.1), if_pos hin.2, L2, if_pos (show nI L < 40 from nI_lt (b := 40) (by omega) (by decide)), bd_s, if_pos rfl, bd_s, if_pos rfl, gi (show L < 40 by omega) (by decide), nI_clamp (show L < 2 ^ 31 by omega), nm_s, nm_s, up2_ne (show 5 ≠ 6 by decide), L2, nI_1, bd_s, up2_self, pk_us]
      have e7 : up2 μ 20 0 0 20 7 = nI L := by rw [up2_self, pk_un (show (7 : Nat) ≠ 0 by decide), L3]
      have hM : fX7_append a1 μ = some (nI (L + 1), up2 (up2 (up2 μ 20 0 0) 4 L a1) 20 7 (nI (L + 1))) := by
        unfold fX7_append fX7_append_b30
        rw [m_in, if_pos hin, bd_s, if_neg (show ¬ (1 : Int32) = 0 by decide), L3, if_neg (show ¬ nI L = 40 from fun q => hL ((nI_eq (b := 40) (by omega) (by decide)).mp q)), m_holds0, bd2_s, if_neg (show ¬ (1 : Int32) = 0 by decide), e7, gi (show L < 40 by omega) (by decide), nI_clamp (show L < 2 ^ 31 by omega), nm_s, nm_s, up2_ne (show 20 ≠ 4 by decide), e7, nI_1, up2_self, pk_us]
      have w20 : up2 (up2 (up2 μ 20 0 0) 4 L a1) 20 7 (nI (L + 1)) 20 = upd (upd (μ 20) 0 0) 7 (nI (L + 1)) := by rw [up2_self, up2_ne (by decide), up2_self]
      have wq : ∀ q, q ≠ 4 → q ≠ 20 → up2 (up2 (up2 μ 20 0 0) 4 L a1) 20 7 (nI (L + 1)) q = μ q := fun q h1 h2 => by rw [up2_ne h2, up2_ne h1, up2_ne h2]
      have xq : ∀ q, q ≠ 5 → q ≠ 6 → up2 (up2 σ 6 L a1) 5 1 (nI (L + 1)) q = σ q := fun q h1 h2 => by rw [up2_ne h1, up2_ne h2]
      refine ⟨_, _, _, _, hX, hM, ⟨by rw [w20, pk_un (by decide), pk_us], rfl⟩, hR.re ?_ ?_ ⟨L + 1, by omega, by rw [up2_self, pk_us], by rw [w20, pk_us], fun k hk => ?_⟩ (hD.fr (by rw [xq 86 (by decide) (by decide)]) (xq 87 (by decide) (by decide)) (xq 88 (by decide) (by decide)) (wq 0 (by decide) (by decide))) (fun q hq => xq q (by omega) (by omega)) (wq 1 (by decide) (by decide)) (wq 2 (by decide) (by decide)) (wq 3 (by decide) (by decide)) (wq 5 (by decide) (by decide)) (by rw [w20, pk_un (by decide), pk_un (by decide)])⟩
      · rw [wq 0 (by decide) (by decide)]
        exact hS.eqs (EqS.of (fun q hq => xq _ (by omega) (by omega)))
      · intro k hk
        rw [xq _ (by decide) (by decide)]
        exact hB 0 (by decide) k hk
      · rw [up2_ne (show 6 ≠ 5 by decide), up2_self, up2_ne (show 4 ≠ 20 by decide), up2_self, up2_ne (show 4 ≠ 20 by decide)]
        by_cases h : k = L
        · rw [h, pk_us, pk_us]
        · rw [pk_un h, pk_un h]
          exact L4 k (by omega)
  · have hX : fX6_append a1 σ = some (.inr 0, σ) := by
      unfold fX6_append
      rcases th_in hin with h | h
      · rw [if_pos h]
      · rw [if_neg h]
        split <;> rfl
    have hM : fX7_append a1 μ = some (0, up2 μ 20 0 1) := by
      unfold fX7_append fX7_append_b30
      rw [m_in, if_neg hin, bd_s, if_pos rfl, m_holds (by decide), bd2_s, if_pos rfl]
    obtain ⟨t1, t2⟩ := hR.thr (T := [0, 2]) (e := 0) (k := 1) (r := 0) (by decide) rfl
    exact ⟨_, σ, _, _, hX, hM, t1, t2⟩
theorem op_clearBuffer : Op_clearBuffer Rl := by
  intro σ μ dg hR
  have hR' := hR
  obtain ⟨hS, hH, hB, hK, ⟨L, L1, L2, L3, L4⟩, hT, hD⟩ := hR'
  have hX : fX6_clearBuffer σ = some (nI L, up2 σ 5 1 0) := by
    unfold fX6_clearBuffer
    rw [L2, nm_s, nm_s]
  have hM : fX7_clearBuffer μ = some (nI L, up2 (up2 μ 20 0 0) 20 7 0) := by
    unfold fX7_clearBuffer
    rw [nm_s, up2_self, pk_un (show (7 : Nat) ≠ 0 by decide), L3, nm_s, nm_s]
  have w20 : up2 (up2 μ 20 0 0) 20 7 0 20 = upd (upd (μ 20) 0 0) 7 0 := by rw [up2_self, up2_self]
  have wq : ∀ q, q ≠ 20 → up2 (up2 μ 20 0 0) 20 7 0 q = μ q := fun q h2 => by rw [up2_ne h2, up2_ne h2]
  refine ⟨_, _, _, hX, hM, hR.re ?_ ?_ ⟨0, by omega, by rw [up2_self, pk_us]; rfl, by rw [w20, pk_us]; rfl, fun k hk => by omega⟩ (hD.fr rfl rfl rfl (wq 0 (by decide))) (fun q hq => up2_ne (by omega)) (wq 1 (by decide)) (wq 2 (by decide)) (wq 3 (by decide)) (wq 5 (by decide)) (by rw [w20, pk_un (by decide), pk_un (by decide)])⟩
  · rw [wq 0 (by decide)]
    exact hS.eqs (EqS.of (fun q hq => up2_ne (by omega)))
  · intro k hk
    rw [up2_ne (by decide)]
    exact hB 0 (by decide) k hk
