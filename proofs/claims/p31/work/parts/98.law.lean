/-! P31: kept, gone back, undone; the law's whole way -/
theorem ch_keep {σ μ : Sg} {j : Nat} (hR : Rl σ μ 0) (j2 : j < 2) : ∃ σ' μ', fX6_keep (nI j) σ = some (.inl (μ 0 0), σ') ∧ Rl σ' μ' 0 ∧ μ' 0 = μ 0 ∧ μ' 3 j = 1 ∧ ∀ k, k < 295 → μ' 2 (295 * j + k) = μ 0 k := by
  have hR' := hR
  obtain ⟨hS, ⟨h, hH⟩, hB, hK, hbf, hT, hD⟩ := hR'
  have hin : (0 : Int32) ≤ nI j ∧ nI j ≤ 1 := ⟨nI_pos' (by omega), nI_le (b := 1) (by omega) (by decide)⟩
  obtain ⟨τ, e1, e2, e3, e4⟩ := x_cf (σ := σ) (i0 := 1 + j) (i1 := 0) (by omega) (hB 0 (by decide))
  obtain ⟨u, k1, k2, k3⟩ := m_kpL (a := j) (by omega) 295 400 0 (up2 μ 20 0 0) (by decide) (by decide)
  have hX : fX6_keep (nI j) σ = some (.inl (μ 0 0), up2 τ 4 j 1) := by
    unfold fX6_keep
    rw [x_slot, if_pos hin, bx_s, gi (show j < 2 by omega) (by decide), nI_clamp (show j < 2 ^ 31 by omega), nm_s, gd_of (show 1 + j < 9 by omega), e1, bd_s, gj (show j < 2 by omega) (by decide), nm_s]
    simp only [Nat.mul_zero, Nat.add_zero]
    obtain ⟨M, B, hm, ha, _⟩ := hS
    rw [up2_ne (by decide), e2 10 (by omega), show σ 10 0 = nI M from ha.1, hm.2.2.2.2.1]
  have hr : ∀ q, q ≠ 4 → (q < 18 ∨ 34 ≤ q) → up2 τ 4 j 1 q = σ q := fun q h1 h2 => by rw [up2_ne h1, e2 q (by omega)]
  have hu : ∀ q, q ≠ 2 → q ≠ 3 → q ≠ 20 → up2 u 3 j 1 q = μ q := fun q h1 h2 h3 => by rw [up2_ne h2, k2 q h1, up2_ne h3]
  have h20 : up2 u 3 j 1 20 = upd (μ 20) 0 0 := by rw [up2_ne (by decide), k2 20 (by decide), up2_self]
  refine ⟨up2 τ 4 j 1, up2 u 3 j 1, hX, ⟨?_, ⟨h, hH.fr (fun q hq => hr q (by omega) (by omega)) (hu 1 (by decide) (by decide) (by decide)) (by rw [h20, pk_un (by decide)])⟩, fun i hi => ?_, fun v hv => ?_, hbf.fr (by rw [hr 5 (by decide) (by decide)]) (hr 6 (by decide) (by decide)) (by rw [h20, pk_un (by decide)]) (hu 4 (by decide) (by decide) (by decide)), fun n hn => by rw [hu 5 (by decide) (by decide) (by decide)]; exact hT n hn, hD.fr (by rw [hr 86 (by decide) (by decide)]) (hr 87 (by decide) (by decide)) (hr 88 (by decide) (by decide)) (hu 0 (by decide) (by decide) (by decide))⟩, hu 0 (by decide) (by decide) (by decide), by rw [up2_self, pk_us], fun k hk => by rw [up2_ne (by decide), k3, if_pos (by omega), up2_ne (by decide), show 295 * j + k - 295 * j = k by omega]⟩
  · rw [hu 0 (by decide) (by decide) (by decide)]
    exact hS.eqs (EqS.of (fun q hq => hr _ (by omega) (by omega)))
  · intro q hq
    rw [up2_ne (by omega)]
    by_cases hi2 : i = 1 + j
    · rw [hi2]
      exact e4 q hq
    · rw [e2 _ (by omega)]
      exact hB i hi q hq
  · by_cases hv2 : v = j
    · subst hv2
      rw [up2_self, up2_self, pk_us, pk_us]
      refine ⟨rfl, Or.inr ⟨rfl, ?_⟩⟩
      rw [up2_ne (by decide)]
      refine SR.cong (s := μ 0) (SR.eqs (σ := τ) (q := 10 + 8 * (1 + v)) (SR.eqs hS e3) (EqS.of (fun q hq => up2_ne (by omega)))) (fun q hq => ?_)
      rw [k3, if_pos (by omega), show 295 * v + q - 295 * v = q by omega, up2_ne (by decide)]
    · obtain ⟨w1, w2⟩ := hK v hv
      rw [up2_self, up2_self, pk_un hv2, pk_un hv2, e2 4 (by omega), k2 3 (by decide), up2_ne (by decide)]
      refine ⟨w1, ?_⟩
      rcases w2 with w | ⟨w, w3⟩
      · exact Or.inl w
      · refine Or.inr ⟨w, ?_⟩
        rw [up2_ne (by decide)]
        refine SR.cong (SR.eqs w3 (EqS.of (fun q hq => by rw [up2_ne (by omega), e2 _ (by omega)]))) (fun q hq => ?_)
        rw [k3, if_neg (by omega), up2_ne (by decide)]
theorem ch_goBack {σ μ : Sg} {j : Nat} (hR : Rl σ μ 0) (j2 : j < 2) (w : μ 3 j = 1) : ∃ σ' μ', fX6_goBack (nI j) σ = some (.inl (μ' 0 0), σ') ∧ Rl σ' μ' 0 ∧ ∀ k, k < 295 → μ' 0 k = μ 2 (295 * j + k) := by
  have hR' := hR
  obtain ⟨_, _, _, hK, _, _, _⟩ := hR'
  have hin : (0 : Int32) ≤ nI j ∧ nI j ≤ 1 := ⟨nI_pos' (by omega), nI_le (b := 1) (by omega) (by decide)⟩
  obtain ⟨w1, w2⟩ := hK j (by omega)
  obtain ⟨w0, w3⟩ : μ 3 j = 1 ∧ SR σ (10 + 8 * (1 + j)) (fun k => μ 2 (295 * j + k)) := by
    rcases w2 with z | z
    · rw [w] at z
      exact absurd z (by decide)
    · exact z
  obtain ⟨σ1, μ1, b1, b2, b3, b4, b5, b6, b7⟩ := xm_begin hR
  have b3' := b3 0
  have b3'' := b3'
  obtain ⟨_, _, r3, _, _, _, _⟩ := b3''
  obtain ⟨τ, e1, e2, e3, e4⟩ := x_cf (σ := σ1) (i0 := 0) (i1 := 1 + j) (by omega) (r3 (1 + j) (by omega))
  obtain ⟨u, k1, k2, k3⟩ := m_gbL (a := j) (by omega) 295 400 0 μ1 (by decide) (by decide)
  have k4 : ∀ q, q < 295 → u 0 q = μ 2 (295 * j + q) := fun q hq => by rw [k3 q hq, if_pos (Nat.zero_le q), b6 2 (by decide) (by decide)]
  have hS1 : SR σ1 (10 + 8 * (1 + j)) (fun k => μ 2 (295 * j + k)) := w3.eqs (EqS.of (fun q hq => b5 _ (by omega) (by omega) (by omega) (by omega)))
  have hS2 : SR τ 10 (u 0) := SR.cong (SR.eqs hS1 e3) k4
  have hS3 := hS2
  obtain ⟨M, B, hm, ha, _⟩ := hS3
  have hX : fX6_goBack (nI j) σ = some (.inl (u 0 0), τ) := by
    unfold fX6_goBack
    rw [x_slot, if_pos hin, bx_s, gi (show j < 2 by omega) (by decide), nI_clamp (show j < 2 ^ 31 by omega), w1, w, if_neg (by decide), b1, bd_s, gj (show j < 2 by omega) (by decide), nm_s, gd_of (show 1 + j < 9 by omega), e1, bd_s]
    simp only [Nat.mul_zero, Nat.add_zero]
    rw [show τ 10 0 = nI M from ha.1, hm.2.2.2.2.1]
  refine ⟨τ, u, hX, b3'.op hS2 e4 (fun q hq => e2 q (by omega)) ?_ (fun q h1 h2 => k2 q (by omega)) (k2 20 (by decide)), k4⟩
  rw [e2 86 (by omega)]
  exact b4
theorem ch_undo {σ μ : Sg} {g : Nat} (hR : Rl σ μ 0) (hg : g < 6) (h3 : μ 20 3 = nI (g + 1)) : ∃ σ' μ', fX6_undo σ = some (.inl (nI g), σ') ∧ Rl σ' μ' 0 ∧ (∀ k, k < 295 → μ' 0 k = μ 1 (295 * g + k)) ∧ (∀ q, q ≠ 0 → q ≠ 20 → μ' q = μ q) ∧ μ' 20 3 = nI g := by
  have hR' := hR
  obtain ⟨hS, ⟨h, hH⟩, hB, hK, hbf, hT, hD⟩ := hR'
  obtain ⟨a1, a2, a3, π, p1, p2, p3⟩ := hH
  obtain rfl : h = g + 1 := by
    rw [h3] at a3
    have := (nI_eq (by omega) (by omega)).mp a3
    omega
  obtain ⟨q1, q2, q3⟩ := p1 g (by omega)
  have en : nI (g + 1) - 1 = nI g := nI_pred g
  obtain ⟨τ, e1, e2, e3, e4⟩ := x_cf (σ := up2 σ 1 1 (nI g)) (i0 := 0) (i1 := π g) (by omega) (fun k hk => by rw [up2_ne (by omega)]; exact hB (π g) q2 k hk)
  obtain ⟨u, k1, k2, k3⟩ := m_unL (h := g) (by omega) 295 400 0 (up2 (up2 μ 20 0 0) 20 3 (nI g)) (by decide) (by decide) (by rw [up2_self, pk_us])
  have hX : fX6_undo σ = some (.inl (nI g), up2 τ 86 3 0) := by
    unfold fX6_undo fX3_restore
    rw [a2, if_neg (nI_ne0 (by omega) (by omega)), en, nm_s, up2_self, pk_us, gi (show g < 6 by omega) (by decide), nI_clamp (show g < 2 ^ 31 by omega), up2_ne (show 2 ≠ 1 by decide), q3, nI_clamp (show π g < 2 ^ 31 by omega), nm_s, gd_of q2, e1, bd_s, bd_s, nm_s]
    simp only [Nat.mul_zero, Nat.add_zero]
    rw [up2_ne (by decide), e2 1 (by omega), up2_self, pk_us]
  have h20 : u 20 = upd (upd (μ 20) 0 0) 3 (nI g) := by rw [k2 20 (by decide), up2_self, up2_self]
  have hu : ∀ q, q ≠ 0 → q ≠ 20 → u q = μ q := fun q h1 h2 => by rw [k2 q h1, up2_ne h2, up2_ne h2]
  have hr : ∀ q, q ≠ 1 → (q < 10 ∨ 18 ≤ q) → q ≠ 86 → up2 τ 86 3 0 q = σ q := fun q h1 h2 h3 => by rw [up2_ne h3, e2 q (by omega), up2_ne h1]
  have k4 : ∀ q, q < 295 → u 0 q = μ 1 (295 * g + q) := fun q hq => by rw [k3 q hq, if_pos (Nat.zero_le q), up2_ne (by decide), up2_ne (by decide)]
  refine ⟨up2 τ 86 3 0, u, hX, ⟨?_, ⟨g, ⟨by omega, by rw [up2_ne (by decide), e2 1 (by omega), up2_self, pk_us], by rw [h20, pk_us], π, fun t ht => by rw [hr 2 (by decide) (by decide) (by decide)]; exact p1 t ht, p2, fun t ht => ?_⟩⟩, fun i hi => ?_, hK.fr (fun q hq => hr q (by omega) (by omega) (by omega)) (hu 2 (by decide) (by decide)) (hu 3 (by decide) (by decide)), hbf.fr (by rw [hr 5 (by decide) (by decide) (by decide)]) (hr 6 (by decide) (by decide) (by decide)) (by rw [h20, pk_un (by decide), pk_un (by decide)]) (hu 4 (by decide) (by decide)), fun n hn => by rw [hu 5 (by decide) (by decide)]; exact hT n hn, Or.inl (by rw [up2_self, pk_us])⟩, k4, hu, by rw [h20, pk_us]⟩
  · exact SR.cong (SR.eqs (SR.eqs (SR.eqs (p3 g (by omega)) (EqS.of (fun q hq => up2_ne (by omega)))) e3) (EqS.of (fun q hq => up2_ne (by omega)))) k4
  · have := p1 t (by omega)
    rw [hu 1 (by decide) (by decide)]
    exact (p3 t (by omega)).eqs (EqS.of (fun q hq => hr _ (by omega) (by omega) (by omega)))
  · intro q hq
    rcases Nat.eq_zero_or_pos i with rfl | hp
    · rw [up2_ne (by decide)]
      exact e4 q hq
    · rw [hr _ (by omega) (by omega) (by omega)]
      exact hB i hi q hq
/-- the error of a coded wave, and nothing of another -/
def V4 (s : Nat → Int32) (M B : Nat) : Int32 := if s 1 = 1 then sumSq (erD s B) M 0 0 else 0
theorem lk_c4 {σ μ : Sg} {M B : Nat} (hR : Rl σ μ 0) (hm : MS (μ 0) M B) : ∃ σ', fX6_count 4 σ = some (.inl (V4 (μ 0) M B), σ') ∧ Lk σ μ σ' := by
  rcases hR.cd with h1 | h1
  · refine ⟨σ, ?_, Lk.rf hR⟩
    unfold V4
    rw [if_neg (by rw [h1]; decide)]
    exact lk_cN (w := 4) hR h1 (by decide) (by decide)
  · obtain ⟨σ1, e1, l1⟩ := lk_ct (w := 4) hR hm h1 (by decide) (by decide)
    refine ⟨σ1, ?_, l1⟩
    unfold V4
    rw [if_pos h1]
    exact e1
theorem V4_cong {s s' : Nat → Int32} {M B : Nat} (hm : MS s M B) (e : ∀ k, k < 295 → s' k = s k) : V4 s' M B = V4 s M B := by
  obtain ⟨m1, m2, m3, m4, _⟩ := hm
  have hA : Ag s s' M B := by
    refine ⟨e 4 (by decide), fun b hb => ?_, fun k hk _ => e _ (by omega)⟩
    have := b32 m2 m3 hb
    exact ⟨e _ (by omega), e _ (by omega), e _ (by omega)⟩
  unfold V4
  rw [e 1 (by decide), sumSq_congr (f := erD s' B) (g := erD s B) M 0 0 (fun i _ hi => by
    unfold erD
    rw [e (7 + i) (by omega), md_ag m3 hA (i + 1) i (by omega) (by omega)])]
theorem lw_115 {σ μ : Sg} (hR : Rl σ μ 0) : ∃ σ', fL_law_b115 1 σ = some (1, σ') := by
  have n10 : ¬ (1 : Int32) = 0 := by decide
  obtain ⟨M, B, hm⟩ := hR.ms
  have hm' := hm
  obtain ⟨m1, m2, m3, m4, m5, _⟩ := hm'
  obtain ⟨σ1, c1, l1⟩ := lk_c4 hR hm
  have c2 := x_c9 σ1
  rw [l1.1.n5e] at c2
  obtain ⟨σ2, μ2, k1, R2, k2, k3, k4⟩ := ch_keep (j := 0) l1.1 (by decide)
  have k1' : fX6_keep 0 σ1 = some (.inl (μ 0 0), σ2) := k1
  have hm2 : MS (μ2 0) M B := by rw [k2]; exact hm
  have R2' := R2
  obtain ⟨_, ⟨h, hh, _, hh3, _⟩, _⟩ := R2'
  obtain ⟨r, σ3, μ3, s3, a1, a2, R3, C3, _, _⟩ := ch_add (a1 := 1) (a2 := 2047) (p := 5) R2 hm2 ⟨by decide, by decide⟩ ⟨by decide, by decide⟩ (by decide) (by decide)
  have a1' : fX6_add 1 2047 5 σ2 = some (.inl (nI r), σ3) := a1
  obtain ⟨h3, g1, g2, g3, g4, _⟩ := C3.2.2.2 h hh hh3
  obtain ⟨M3, B3, hm3⟩ := R3.ms
  have hm3' := hm3
  obtain ⟨n1, n2, n3, n4, _⟩ := hm3'
  obtain ⟨σ4, μ4, s4, d1, R4, C4, _⟩ := ch_code R3 hm3
  have hNB : 0 < NB M3 B3 := (nb_lt (by omega)).mpr (by rw [Nat.zero_mul]; omega)
  have hle := nb_le n3 n2
  obtain ⟨h4, f1, f2, f3, f4, f5⟩ := C4.2.2.2 h3 g2 g3
  obtain ⟨f6, f7⟩ := f5 g1
  obtain ⟨σ5, μ5, u1, R5, u2, u3, u4⟩ := ch_undo (g := h4 - 1) R4 (by omega) (by rw [show h4 - 1 + 1 = h4 by omega]; exact f3)
  obtain ⟨σ6, μ6, v1, R6, v2, v3, v4⟩ := ch_undo (g := h4 - 2) R5 (by omega) (by rw [show h4 - 2 + 1 = h4 - 1 by omega]; exact u4)
  have e6 : ∀ k, k < 295 → μ6 0 k = μ 0 k := fun k hk => by rw [v2 k hk, u3 1 (by decide) (by decide), f7 k hk, g4 k hk, k2]
  have hm6 : MS (μ6 0) M B := hm.cong e6
  obtain ⟨σ7, c7, l7⟩ := lk_c4 R6 hm6
  rw [V4_cong hm e6] at c7
  have c8 := x_c9 σ7
  rw [l7.1.n5e, e6 5 (by decide)] at c8
  obtain ⟨σ8, μ8, s8, w1, R8, C8, _⟩ := ch_wave (j := 3) l7.1 (by decide) (by decide)
  have w1' : fX6_wave 3 σ7 = some (.inl (μ6 0 0), σ8) := w1
  rw [e6 0 (by decide)] at w1'
  have q2 : μ8 2 = μ2 2 := by rw [C8.2.1, v3 2 (by decide) (by decide), u3 2 (by decide) (by decide), C4.2.1, C3.2.1]
  have q3 : μ8 3 = μ2 3 := by rw [C8.2.2.1, v3 3 (by decide) (by decide), u3 3 (by decide) (by decide), C4.2.2.1, C3.2.2.1]
  obtain ⟨σ9, μ9, b1, R9, b2⟩ := ch_goBack (j := 0) R8 (by decide) (by rw [q3]; exact k3)
  have e9 : ∀ k, k < 295 → μ9 0 k = μ 0 k := fun k hk => by rw [b2 k hk, q2, k4 k hk]
  have b1' : fX6_goBack 0 σ8 = some (.inl (μ9 0 0), σ9) := b1
  rw [e9 0 (by decide)] at b1'
  have hm9 : MS (μ9 0) M B := hm.cong e9
  obtain ⟨σ10, c10, l10⟩ := lk_c4 R9 hm9
  rw [V4_cong hm e9] at c10
  have c11 := x_c9 σ10
  rw [l10.1.n5e, e9 5 (by decide)] at c11
  obtain ⟨σ11, c12, l11⟩ := holds_ok l10.1
  refine ⟨σ11, ?_⟩
  unfold fL_law_b115 fL_law_b210
  rw [x_c0, bo_s, hR.n0e, c1, bo_s, c2, bo_s, if_neg n10, k1', bo_s, if_pos rfl, a1', bo_s, if_neg (nI_pos (by omega)), d1, bd2_s, if_neg (nI_nle hNB (by omega)), u1, bo_s, if_neg (nI_pos (by omega)), v1, bo_s, if_neg (nI_pos (by omega)), c7, bo_s, if_pos rfl, c8, bo_s, if_pos rfl, if_neg n10, w1', bo_s, if_pos rfl, b1', bo_s, if_pos rfl, c10, bo_s, if_pos rfl, c11, bo_s, if_pos rfl, c12, bd2_s, if_neg n10]
theorem lw_61 {L T : Nat} {xs : Nat → Int32} (hT : T ≤ 24) : ∀ n f t (σ μ : Sg), n < f → t + n = T → Rl σ μ 0 → ∃ σ', fL_law_L61 L xs f 1 (nI T) (nI t) σ = some (1, σ') := by
  have n10 : ¬ (1 : Int32) = 0 := by decide
  intro n
  induction n with
  | zero =>
    intro f t σ μ hf ht hR
    obtain ⟨f, rfl⟩ := fu1 hf
    rw [fL_law_L61, if_pos (nI_le (by omega) (by omega))]
    exact lw_115 hR
  | succ n ih =>
    intro f t σ μ hf ht hR
    obtain ⟨f, rfl⟩ := fu1 hf
    have hx : (2 : Int32) * nI t = nI (2 * t) := pk_mul 2 t
    have hy : nI (2 * t) + 1 = nI (2 * t + 1) := nI_add _ 1
    obtain ⟨σ1, μ1, e1, R1⟩ := change_ok hR (cellF L xs (nI (2 * t))) (cellF L xs (nI (2 * t + 1)))
    obtain ⟨σ2, e2, l2⟩ := holds_ok R1
    obtain ⟨σ3, e3⟩ := ih f (t + 1) σ2 μ1 (by omega) (by omega) l2.1
    refine ⟨σ3, ?_⟩
    rw [fL_law_L61, if_neg (nI_ge (show t < T by omega) (by omega)), if_neg n10, hx, gd_of (nI_pos (by omega)), nm_s, hy, gd_of (nI_pos (by omega)), nm_s, e1, bd2_s, if_neg n10, e2, bd2_s, if_neg n10, nm_s, nI_1]
    exact e3
theorem law_ok {σ μ : Sg} {L : Nat} {xs : Nat → Int32} (hR : Rl σ μ 0) (h1 : μ 0 1 = 0) (h3 : σ 1 1 = 0) (hL : L ≤ 260) : ∃ σ', fL_law L xs σ = some (1, σ') := by
  have n10 : ¬ (1 : Int32) = 0 := by decide
  obtain ⟨σ1, e1, l1⟩ := holds_ok hR
  have q3 : σ1 1 1 = 0 := by
    have a := hR.2.1
    have b := l1.1.2.1
    obtain ⟨h, _, x1, x2, _⟩ := a
    obtain ⟨h', _, y1, y2, _⟩ := b
    rw [y1, ← y2, x2, ← x1, h3]
  have hd : nI L / 2 = nI (L / 2) := pk_div (d := 2) (by omega) (by decide) (by decide)
  have hd' : (Int32.ofNat L) / 2 = nI (L / 2) := hd
  unfold fL_law fL_law_b38
  rw [e1, bd2_s, if_neg n10, lk_ldN l1.1 h1, bd2_s, if_pos f0_cmp, x_c11, bo_s, if_pos q3, hd']
  by_cases h : L / 2 ≤ 24
  · obtain ⟨σ2, e2⟩ := lw_61 (L := L) (xs := xs) h (L / 2) 80 0 σ1 μ (by omega) (by omega) l1.1
    refine ⟨σ2, ?_⟩
    rw [if_pos (show nI (L / 2) ≤ 24 from nI_le (b := 24) h (by decide)), nm_s]
    rw [show fL_law_L61 L xs 80 1 (nI (L / 2)) 0 σ1 = fL_law_L61 L xs 80 1 (nI (L / 2)) (nI 0) σ1 from by rw [← n0]]
    exact e2
  · obtain ⟨σ2, e2⟩ := lw_61 (L := L) (xs := xs) (T := 24) (by decide) 24 80 0 σ1 μ (by omega) (by omega) l1.1
    refine ⟨σ2, ?_⟩
    rw [if_neg (show ¬ nI (L / 2) ≤ 24 from fun z => h ((nI_leI (b := 24) (by omega) (by decide)).mp z))]
    rw [show fL_law_L61 L xs 80 1 24 0 σ1 = fL_law_L61 L xs 80 1 (nI 24) (nI 0) σ1 from by rw [← n0]; rfl]
    exact e2
