/-! PURE: what is told of samples, of blocks, of the whole; both sides, nothing changed -/
def Qt (σ μ σ' μ' : Sg) : Prop := (∀ q, q < 82 → σ' q = σ q) ∧ (∀ q, q < 6 → μ' q = μ q) ∧ μ' 20 = μ 20 ∧ ∀ dg', Rl σ' μ' dg'
theorem Qt.rf {σ μ : Sg} {dg : Int64} (hR : Rl σ μ dg) : Qt σ μ σ μ := ⟨fun _ _ => rfl, fun _ _ => rfl, rfl, fun dg' => hR.sm (fun _ _ _ => rfl) rfl (by obtain ⟨_, _, _, _, _, _, h⟩ := hR; exact h) (fun _ _ => rfl) rfl rfl⟩
theorem Qt.th {σ μ σ' μ' : Sg} {k : Int32} (h : Qt σ (up2 μ 20 0 k) σ' μ') : μ' 20 0 = k := by rw [h.2.2.1, up2_self, pk_us]
theorem Qt.tr {σ μ σ1 μ1 σ2 μ2 : Sg} (h : Qt σ μ σ1 μ1) (h' : Qt σ1 μ1 σ2 μ2) : Qt σ μ σ2 μ2 := ⟨fun q hq => by rw [h'.1 q hq, h.1 q hq], fun q hq => by rw [h'.2.1 q hq, h.2.1 q hq], h'.2.2.1.trans h.2.2.1, h'.2.2.2⟩
theorem so_core {σ μ : Sg} {dg : Int64} {M B k w : Nat} (hR : Rl σ μ dg) (hm : MS (μ 0) M B) (hk : k < M) (hw : w < 6) : ∃ r σ' μ', fX6_sampleOf (nI k) (nI w) σ = some (.inl r, σ') ∧ fX7_toldOfSample (nI k) (nI w) μ = some (r, μ') ∧ Qt σ μ σ' μ' := by
  have hR' := hR
  obtain ⟨hS, _, _, _, _, hT, _⟩ := hR'
  have hS' := hS
  obtain ⟨M', B', hm2, ha, _⟩ := hS'
  obtain ⟨rfl, rfl⟩ := hm.one hm2
  have hm3 := hm2
  obtain ⟨m1, m2, m3, m4, m5, m6, m7, m8, m9, m10⟩ := hm3
  have n10 : ¬ (1 : Int32) = 0 := by decide
  have hk64 : k < 64 := by omega
  have hs : fX4_hasSample 0 (nI k) σ = some 1 := by
    unfold fX4_hasSample
    simp only [Nat.mul_zero, Nat.add_zero]
    rw [if_neg (nI_pos (by omega)), show σ 10 0 = nI M' from ha.1, if_neg (nI_ge hk (by omega))]
  have e11 : σ 11 k = μ 0 (7 + k) := ha.2.2.2.2 k hk
  unfold fX6_sampleOf fX7_toldOfSample
  rw [hs, bd_s, if_neg n10, if_neg (nI_pos (by omega)), if_pos (show nI w < 6 from nI_lt (b := 6) hw (by decide)), o7, o71, o135]
  simp only [gi hk64 (by decide), gi (show 7 + k < 295 by omega) (by decide), gi (show 71 + k < 295 by omega) (by decide), gi (show 135 + k < 295 by omega) (by decide), Nat.mul_zero, Nat.add_zero, Nat.reduceAdd]
  rw [nI_clamp (show k < 2 ^ 31 by omega), nI_clamp (show 7 + k < 2 ^ 31 by omega), nI_clamp (show 71 + k < 2 ^ 31 by omega), nI_clamp (show 135 + k < 2 ^ 31 by omega)]
  by_cases w0 : nI w = 0
  · rw [if_pos w0, if_pos w0, e11]
    exact ⟨_, σ, μ, rfl, rfl, Qt.rf hR⟩
  · rw [if_neg w0, if_neg w0, x_isC hS, m_isC, bd_s, bd_s]
    by_cases h1 : μ 0 1 = 1
    · rw [if_pos h1, if_neg n10, if_neg n10]
      obtain ⟨_, _, hm4, _, ho, hd⟩ := hS.cod h1
      obtain ⟨rfl, rfl⟩ := hm4.one hm2
      obtain ⟨σ', x1, x2, x3, x4, x5⟩ := x_decR hR hm2 h1
      obtain ⟨μ', y1, y2, y3, y4, y5, y6⟩ := m_decR (x5 dg) hm2 h1
      have f0 : μ' 0 = μ 0 := y2 0 (by decide) (by decide) (by decide)
      have hQ : Qt σ μ σ' μ' := ⟨fun q hq => x2 q (Or.inl hq), fun q hq => y2 q (by omega) (by omega) (by omega), y2 20 (by decide) (by decide) (by decide), y6⟩
      have hB := kb m3 hk64
      have e16 : σ 16 k = μ 0 (71 + k) := (ho.2.2 k hk).1
      have e17 : σ 17 k = μ 0 (135 + k) := (ho.2.2 k hk).2
      rw [x1, bd_s, y1, bd_s]
      by_cases w1 : nI w = 1
      · rw [if_pos w1, if_pos w1, (x3 k hk).1, y3 k hk]
        exact ⟨_, σ', μ', rfl, rfl, hQ⟩
      · rw [if_neg w1, if_neg w1]
        by_cases w2 : nI w = 2
        · rw [if_pos w2, if_pos w2, x2 17 (by decide), e17, f0]
          exact ⟨_, σ', μ', rfl, rfl, hQ⟩
        · rw [if_neg w2, if_neg w2]
          by_cases w3 : nI w = 3
          · rw [if_pos w3, if_pos w3, x2 16 (by decide), e16]
            have hS2 : SR σ' 10 (μ' 0) := (y6 dg).1
            have hh : fX7_hasCode (nI k) μ' = some (if k % B' = 0 then 0 else 1) := by
              unfold fX7_hasCode fX7_isSample
              rw [m_isC, f0, if_pos h1, bd_s, if_neg n10, m5, show nI M' - 1 = nI (M' - 1) from pk_sub (b := 1) m1, m_in, if_pos ⟨nI_pos' (by omega), nI_le (by omega) (by omega)⟩, bd_s, gd_of (Or.inr rfl), bd_s, if_neg n10, m6, gd_of (nI_ne0 (by omega) (by omega)), rem_k hk64 m3 m4]
              by_cases q : k % B' = 0
              · rw [if_pos q, q, if_pos (show nI 0 ≤ 0 by decide)]
              · have hlt : k % B' < B' := Nat.mod_lt _ (by omega)
                rw [if_neg q, if_neg (nI_nle (by omega) (by omega))]
            rw [hh, bd_s, f0]
            by_cases q : k % B' = 0
            · rw [if_pos q, if_pos rfl, (hd.2 k hk).1 q]
              exact ⟨_, σ', μ', rfl, rfl, hQ⟩
            · rw [if_neg q, if_neg n10]
              exact ⟨_, σ', μ', rfl, rfl, hQ⟩
          · rw [if_neg w3, if_neg w3]
            by_cases w4 : nI w = 4
            · rw [if_pos w4, if_pos w4, (x3 k hk).2, f0, m6, gd_of (nI_ne0 (by omega) (by omega)), div_k hk64 m3 m4, o263, gi (show 263 + k / B' < 295 by omega) (by decide), nI_clamp (show 263 + k / B' < 2 ^ 31 by omega), y4 k hk]
              unfold nd
              by_cases q : μ 0 (263 + k / B') = 1
              · rw [if_pos q, if_pos q]
                exact ⟨_, σ', μ', rfl, rfl, hQ⟩
              · rw [if_neg q, if_neg q]
                exact ⟨_, σ', μ', rfl, rfl, hQ⟩
            · rw [if_neg w4, if_neg w4, x2 11 (by decide), e11, (x3 k hk).1, f0, y3 k hk]
              exact ⟨_, σ', μ', rfl, rfl, hQ⟩
    · rw [if_neg h1, if_pos rfl, if_pos rfl]
      exact ⟨_, σ, μ, rfl, rfl, Qt.rf hR⟩
theorem x_erA {σ : Sg} {s : Nat → Int32} {M B a e : Nat} (he : e ≤ M) (hM : M ≤ 64) (hae : a ≤ e) (h11 : ∀ i, i < M → σ 11 i = s (7 + i)) (h87 : ∀ i, i < M → σ 87 i = md s B i) : fX2_errorOf 0 0 (nI a) (nI e) σ = some (sumSq (erD s B) (e - a) 0 a) := by
  rw [x_eof (by omega) hae]
  refine congrArg some (sumSq_congr _ _ _ (fun i h1 h2 => ?_))
  show σ 11 i - σ (86 + 3 * 0 + 1) i = s (7 + i) - md s B i
  simp only [Nat.mul_zero, Nat.add_zero, Nat.reduceAdd]
  rw [h11 i (by omega), h87 i (by omega)]
theorem m_erA {μ : Sg} {s : Nat → Int32} {M B a e : Nat} (he : e ≤ M) (hM : M ≤ 64) (hae : a ≤ e) (h0 : μ 0 = s) (h6 : ∀ i, i < M → μ 6 i = md s B i) : fX7_errorMade (nI a) (nI e) μ = some (sumSq (erD s B) (e - a) 0 a) := by
  rw [m_em (by omega) hae]
  refine congrArg some (sumSq_congr _ _ _ (fun i h1 h2 => ?_))
  show μ 0 (7 + i) - μ 6 i = s (7 + i) - md s B i
  rw [h0, h6 i (by omega)]
theorem bo_core {σ μ : Sg} {dg : Int64} {M B b w : Nat} (hR : Rl σ μ dg) (hm : MS (μ 0) M B) (h1 : μ 0 1 = 1) (hb : b * B < M) (hw : w < 6) : ∃ r σ' μ', fX6_blockOf (nI b) (nI w) σ = some (.inl r, σ') ∧ fX7_toldOfBlock (nI b) (nI w) μ = some (r, μ') ∧ Qt σ μ σ' μ' := by
  have hR' := hR
  obtain ⟨hS, _, _, _, _, hT, _⟩ := hR'
  obtain ⟨M', B', hm2, ha, ho, hd⟩ := hS.cod h1
  obtain ⟨rfl, rfl⟩ := hm.one hm2
  have hm3 := hm2
  obtain ⟨m1, m2, m3, m4, m5, m6, m7, m8, m9, m10⟩ := hm3
  have n10 : ¬ (1 : Int32) = 0 := by decide
  have hb32 := b32 m2 m3 hb
  have he1 : eo M' B' b ≤ M' := Nat.min_le_left _ _
  have he2 : b * B' < eo M' B' b := by unfold eo; omega
  have hbl : fX6_refuseUnlessBlock (nI b) σ = some (.inl (), σ) := by
    refine x_blk.1 ?_
    unfold fX4_hasBlock
    simp only [Nat.mul_zero, Nat.add_zero]
    rw [if_neg (nI_pos (by omega)), show σ 10 3 = nI (NB M' B') from ho.1, if_neg (nI_ge ((nb_lt (by omega)).mpr hb) (by have := nb_le m3 m2; omega))]
  obtain ⟨μ', y1, y2, y3, y4, y5, y6⟩ := m_decR hR hm2 h1
  have f0 : μ' 0 = μ 0 := y2 0 (by decide) (by decide) (by decide)
  have hQ0 : ∀ σ', (∀ q, q < 82 → σ' q = σ q) → (∀ dg', Rl σ' μ' dg') → Qt σ μ σ' μ' := fun σ' z1 z2 => ⟨z1, fun q hq => y2 q (by omega) (by omega) (by omega), y2 20 (by decide) (by decide) (by decide), z2⟩
  have hq0 : Qt σ μ σ μ' := hQ0 σ (fun _ _ => rfl) y6
  obtain ⟨c1, c2, c3⟩ := ho.2.1 b hb
  have c1' : σ 13 b = μ 0 (199 + b) := c1
  have c2' : σ 14 b = μ 0 (231 + b) := c2
  have c3' : σ 15 b = μ 0 (263 + b) := c3
  unfold fX6_blockOf fX7_toldOfBlock
  rw [hbl, bx_s, if_neg (nI_pos (by omega)), if_pos (show nI w < 6 from nI_lt (b := 6) hw (by decide)), m6, pk_mul, nm_s, y1, bd_s, o199, o231, o263]
  simp only [gi hb32 (by decide), gi (show 199 + b < 295 by omega) (by decide), gi (show 231 + b < 295 by omega) (by decide), gi (show 263 + b < 295 by omega) (by decide), Nat.mul_zero, Nat.add_zero, Nat.reduceAdd]
  rw [nI_clamp (show b < 2 ^ 31 by omega), nI_clamp (show 199 + b < 2 ^ 31 by omega), nI_clamp (show 231 + b < 2 ^ 31 by omega), nI_clamp (show 263 + b < 2 ^ 31 by omega), f0]
  by_cases w0 : nI w = 0
  · rw [if_pos w0, if_pos w0, x_eo m2 m4 ha.1 ha.2.1 hb, bd_s, x_so ha.2.1, bd_s, m_eo m2 m4 (by rw [f0]; exact m5) (by rw [f0]; exact m6) hb, bd_s]
    exact ⟨_, σ, μ', rfl, rfl, hq0⟩
  · rw [if_neg w0, if_neg w0]
    by_cases w1 : nI w = 1
    · rw [if_pos w1, if_pos w1, c1']
      exact ⟨_, σ, μ', rfl, rfl, hq0⟩
    · rw [if_neg w1, if_neg w1]
      by_cases w2 : nI w = 2
      · rw [if_pos w2, if_pos w2, c2']
        exact ⟨_, σ, μ', rfl, rfl, hq0⟩
      · rw [if_neg w2, if_neg w2]
        by_cases w3 : nI w = 3
        · rw [if_pos w3, if_pos w3, c3']
          rcases (hd.1 b hb).2.2 with q | q
          · rw [q, if_pos rfl]
            exact ⟨_, σ, μ', rfl, rfl, hq0⟩
          · rw [q, if_neg n10]
            exact ⟨_, σ, μ', rfl, rfl, hq0⟩
        · rw [if_neg w3, if_neg w3]
          by_cases w4 : nI w = 4
          · obtain ⟨σ', x1, x2, x3, x4, x5⟩ := x_decR (y6 dg) (by rw [f0]; exact hm2) (by rw [f0]; exact h1)
            rw [f0] at x3
            have ha' : Ba σ' 10 (μ 0) M' B' := ha.fr (fun q hq => x2 q (Or.inl hq))
            rw [if_pos w4, if_pos w4, x1, bd_s, x_so ha'.2.1, bd_s, x_eo m2 m4 ha'.1 ha'.2.1 hb, bd_s, x_erA (s := μ 0) (B := B') he1 m2 (by omega) ha'.2.2.2.2 (fun i hi => (x3 i hi).1), bd_s, m_eo m2 m4 (by rw [f0]; exact m5) (by rw [f0]; exact m6) hb, bd_s, m_erA (s := μ 0) (B := B') he1 m2 (by omega) f0 y3, bd_s]
            exact ⟨_, σ', μ', rfl, rfl, hQ0 σ' (fun q hq => x2 q (Or.inl hq)) x5⟩
          · obtain ⟨σ', x1, x2⟩ := x_lead m2 m3 m4 hb hd ha ho
            rw [if_neg w4, if_neg w4, x1, bd2_s, y5 b hb]
            exact ⟨_, σ', μ', rfl, rfl, hQ0 σ' (fun q hq => x2 q (by omega)) (fun dg' => (y6 dg).w82 (fun q hq => x2 q (by omega)) dg')⟩
theorem erA_blk {s : Nat → Int32} {σ : Sg} {M B : Nat} (hM1 : M ≤ 64) (hB : 2 ≤ B) (hB2 : B ≤ 16) (ha : Ba σ 10 s M B) (h3 : σ 10 3 = nI (NB M B)) (h87 : ∀ i, i < M → σ 87 i = md s B i) : fX6_errorByBlocks σ = some (sumSq (erD s B) M 0 0) := by
  have hle := nb_le hB hM1
  unfold fX6_errorByBlocks
  rw [show fX6_errorByBlocks_L4 80 0 0 σ = fX6_errorByBlocks_L4 80 0 (nI 0) σ from by rw [← n0], x_ebbL hM1 hB hB2 ha h3 (NB M B) 80 0 0 (by omega) (by omega), Nat.zero_mul, Nat.sub_zero]
  refine congrArg some (sumSq_congr _ _ _ (fun i h1 h2 => ?_))
  show σ 11 i - σ 87 i = s (7 + i) - md s B i
  rw [show σ 11 i = s (7 + i) from ha.2.2.2.2 i (by omega), h87 i (by omega)]
/-- what the numbers 4 to 8 are -/
theorem ct_core {σ μ : Sg} {dg : Int64} {M B w : Nat} (hR : Rl σ μ dg) (hm : MS (μ 0) M B) (hw : w < 12) : ∃ r σ' μ', fX6_count (nI w) σ = some (.inl r, σ') ∧ fX7_counted (nI w) μ = some (r, μ') ∧ Qt σ μ σ' μ' := by
  have hR' := hR
  obtain ⟨hS, ⟨h, hH⟩, _, _, _, hT, _⟩ := hR'
  have hS' := hS
  obtain ⟨M', B', hm2, ha, h9, h10, hc⟩ := hS'
  obtain ⟨rfl, rfl⟩ := hm.one hm2
  have hm3 := hm2
  obtain ⟨m1, m2, m3, m4, m5, m6, m7, m8, m9, m10⟩ := hm3
  have n10 : ¬ (1 : Int32) = 0 := by decide
  have hle := nb_le m3 m2
  have hQ := Qt.rf hR
  obtain ⟨v1, v2, v3, _⟩ := hH
  have hN : ∃ N, N ≤ 32 ∧ σ 10 3 = nI N ∧ fX7_blocks μ = some (nI N) ∧ ∀ b, b < N → σ 15 b = μ 0 (263 + b) ∧ (μ 0 (263 + b) = 0 ∨ μ 0 (263 + b) = 1) := by
    rcases hc with ⟨c1, c2⟩ | ⟨c1, c2⟩
    · exact ⟨0, by decide, c2, m_blk0 c1, fun b hb => by omega⟩
    · obtain ⟨_, _, hm4, _, _, hd⟩ := hS.cod c1
      obtain ⟨rfl, rfl⟩ := hm4.one hm2
      exact ⟨NB M' B', hle, c2.1, m_blk1 c1 m2 m3 m4 m5 m6, fun b hb => ⟨(c2.2.1 b ((nb_lt (by omega)).mp hb)).2.2, (hd.1 b ((nb_lt (by omega)).mp hb)).2.2⟩⟩
  obtain ⟨N, N1, N2, N3, N4⟩ := hN
  have hne : ∀ j, j < 12 → w ≠ j → ¬ nI w = nI j := fun j hj q z => q ((nI_eq (by omega) (by omega)).mp z)
  have hX0 : fX6_count (nI w) σ = (if nI w = 0 then (some (.inl (σ 10 0), σ)) else (if nI w = 1 then (bd (fX4_isCoded 0 σ) fun r6 => if r6 = 0 then (some (.inl 0, σ)) else (some (.inl 1, σ))) else (if nI w = 2 then (some (.inl (σ 10 3), σ)) else (if nI w = 3 then (bd (fX4_lostBlocks 0 σ) fun r11 => some (.inl r11, σ)) else (if nI w = 9 then (some (.inl (σ 10 9), σ)) else (if nI w = 10 then (some (.inl (σ 10 10), σ)) else (if nI w = 11 then (some (.inl (σ 1 1), σ)) else (bd (fX4_isCoded 0 σ) fun r16 => if r16 = 0 then (some (.inl 0, σ)) else (bd2 (fX6_codedCount (nI w) σ) fun r19 s20 => some (.inl r19, s20)))))))))) := by
    unfold fX6_count
    rw [if_neg (nI_pos (by omega)), if_pos (show nI w < 12 from nI_lt (b := 12) hw (by decide))]
  have hM0 : (w < 4 ∨ 8 < w) → fX7_counted (nI w) μ = fX7_counted_b19 (nI w) μ := by
    intro q
    unfold fX7_counted
    rw [m_in, if_neg (show ¬ ((4 : Int32) ≤ nI w ∧ nI w ≤ 8) from fun z => by
      have z1 := (nI_leI (a := 4) (by decide) (by omega)).mp z.1
      have z2 := (nI_leI (b := 8) (by omega) (by decide)).mp z.2
      omega), bd_s, if_pos rfl]
  have hM1 : 4 ≤ w → w ≤ 8 → fX7_counted (nI w) μ = if μ 0 1 = 1 then fX7_counted_b19 (nI w) μ else some (0, μ) := by
    intro q1 q2
    unfold fX7_counted
    rw [m_in, if_pos ⟨nI_le (a := 4) q1 (by omega), nI_le (b := 8) q2 (by decide)⟩, bd_s, if_neg n10, m_isC, bd_s]
    by_cases h1 : μ 0 1 = 1
    · rw [if_pos h1, if_neg n10, if_pos h1]
    · rw [if_neg h1, if_pos rfl, if_neg h1]
  rcases Nat.lt_or_ge w 4 with q | q
  · rw [hX0, hM0 (Or.inl q)]
    unfold fX7_counted_b19
    rcases (show w = 0 ∨ w = 1 ∨ w = 2 ∨ w = 3 by omega) with rfl | rfl | rfl | rfl
    · rw [if_pos (show nI 0 = 0 from rfl), if_pos (show nI 0 = 0 from rfl), show σ 10 0 = nI M' from ha.1, m5]
      exact ⟨_, σ, μ, rfl, rfl, hQ⟩
    · rw [if_neg (show ¬ nI 1 = 0 by decide), if_pos (show nI 1 = 1 from rfl), if_neg (show ¬ nI 1 = 0 by decide), if_pos (show nI 1 = 1 from rfl), x_isC hS, bd_s]
      rcases m10 with z | ⟨z, _⟩
      · rw [z, if_neg (show ¬ (0 : Int32) = 1 by decide), if_pos rfl]
        exact ⟨_, σ, μ, rfl, rfl, hQ⟩
      · rw [z, if_pos (show (1 : Int32) = 1 from rfl), if_neg n10]
        exact ⟨_, σ, μ, rfl, rfl, hQ⟩
    · rw [if_neg (show ¬ nI 2 = 0 by decide), if_neg (show ¬ nI 2 = 1 by decide), if_pos (show nI 2 = 2 from rfl), if_neg (show ¬ nI 2 = 0 by decide), if_neg (show ¬ nI 2 = 1 by decide), if_pos (show nI 2 = 2 from rfl), N2, N3, bd_s]
      exact ⟨_, σ, μ, rfl, rfl, hQ⟩
    · rw [if_neg (show ¬ nI 3 = 0 by decide), if_neg (show ¬ nI 3 = 1 by decide), if_neg (show ¬ nI 3 = 2 by decide), if_pos (show nI 3 = 3 from rfl), if_neg (show ¬ nI 3 = 0 by decide), if_neg (show ¬ nI 3 = 1 by decide), if_neg (show ¬ nI 3 = 2 by decide), if_pos (show nI 3 = 3 from rfl)]
      unfold fX4_lostBlocks fX7_lost
      rw [show fX4_lostBlocks_L4 0 80 0 0 σ = fX4_lostBlocks_L4 0 80 0 (nI 0) σ from by rw [← n0], show fX7_lost_L4 80 0 0 μ = fX7_lost_L4 80 0 (nI 0) μ from by rw [← n0], x_loL N1 N2 N4 N 80 0 0 (by omega) (by omega), m_loL N1 N3 N 80 0 0 (by omega) (by omega), bd_s, bd_s]
      exact ⟨_, σ, μ, rfl, rfl, hQ⟩
  · have z0 : ¬ nI w = 0 := hne 0 (by decide) (by omega)
    have z1 : ¬ nI w = 1 := hne 1 (by decide) (by omega)
    have z2 : ¬ nI w = 2 := hne 2 (by decide) (by omega)
    have z3 : ¬ nI w = 3 := hne 3 (by decide) (by omega)
    rw [hX0, if_neg z0, if_neg z1, if_neg z2, if_neg z3]
    have hMb : fX7_counted_b19 (nI w) μ = (if nI w = 4 then (bd2 (fX7_errorOfAll μ) fun r11 u12 => some (r11, u12)) else (if nI w = 5 then (bd2 (fX7_errorOfAll μ) fun r15 u16 => some (r15, u16)) else (if nI w = 6 then (bd (fX7_decodes μ) fun u19 => bd (fX7_greatest u19) fun r21 => some (r21, u19)) else (if nI w = 7 then (bd (fX7_decodes μ) fun u24 => bd (fX7_alike u24) fun r26 => some (r26, u24)) else (if nI w = 8 then (bd (fX7_blocks μ) fun r29 => bd (fX7_blocks μ) fun r31 => some (((18 * r29) + (4 * ((μ 0 0) - r31))), μ)) else (if nI w = 9 then (some ((μ 0 5), μ)) else (if nI w = 10 then (some ((μ 0 6), μ)) else (some ((μ 20 3), μ))))))))) := by
      unfold fX7_counted_b19
      rw [if_neg z0, if_neg z1, if_neg z2, if_neg z3]
    rcases Nat.lt_or_ge 8 w with q2 | q2
    · have z4 : ¬ nI w = 4 := hne 4 (by decide) (by omega)
      have z5 : ¬ nI w = 5 := hne 5 (by decide) (by omega)
      have z6 : ¬ nI w = 6 := hne 6 (by decide) (by omega)
      have z7 : ¬ nI w = 7 := hne 7 (by decide) (by omega)
      have z8 : ¬ nI w = 8 := hne 8 (by decide) (by omega)
      rw [hM0 (Or.inr q2), hMb, if_neg z4, if_neg z5, if_neg z6, if_neg z7, if_neg z8]
      rcases (show w = 9 ∨ w = 10 ∨ w = 11 by omega) with rfl | rfl | rfl
      · rw [if_pos (show nI 9 = 9 from rfl), if_pos (show nI 9 = 9 from rfl), h9]
        exact ⟨_, σ, μ, rfl, rfl, hQ⟩
      · rw [if_neg (show ¬ nI 10 = 9 by decide), if_pos (show nI 10 = 10 from rfl), if_neg (show ¬ nI 10 = 9 by decide), if_pos (show nI 10 = 10 from rfl), h10]
        exact ⟨_, σ, μ, rfl, rfl, hQ⟩
      · rw [if_neg (show ¬ nI 11 = 9 by decide), if_neg (show ¬ nI 11 = 10 by decide), if_pos (show nI 11 = 11 from rfl), if_neg (show ¬ nI 11 = 9 by decide), if_neg (show ¬ nI 11 = 10 by decide), v2, v3]
        exact ⟨_, σ, μ, rfl, rfl, hQ⟩
    · have z9 : ¬ nI w = 9 := hne 9 (by decide) (by omega)
      have z10 : ¬ nI w = 10 := hne 10 (by decide) (by omega)
      have z11 : ¬ nI w = 11 := hne 11 (by decide) (by omega)
      rw [if_neg z9, if_neg z10, if_neg z11, x_isC hS, bd_s, hM1 q q2]
      by_cases h1 : μ 0 1 = 1
      · rw [if_pos h1, if_neg n10, if_pos h1, hMb]
        obtain ⟨_, _, hm4, _, ho, hd⟩ := hS.cod h1
        obtain ⟨rfl, rfl⟩ := hm4.one hm2
        obtain ⟨σ', x1, x2, x3, x4, x5⟩ := x_decR hR hm2 h1
        obtain ⟨μ', y1, y2, y3, y4, y5, y6⟩ := m_decR (x5 dg) hm2 h1
        have f0 : μ' 0 = μ 0 := y2 0 (by decide) (by decide) (by decide)
        have hQ2 : Qt σ μ σ' μ' := ⟨fun q hq => x2 q (Or.inl hq), fun q hq => y2 q (by omega) (by omega) (by omega), y2 20 (by decide) (by decide) (by decide), y6⟩
        have ha' : Ba σ' 10 (μ 0) M' B' := ha.fr (fun q hq => x2 q (Or.inl hq))
        have e3' : σ' 10 3 = nI (NB M' B') := by rw [x2 10 (by decide)]; exact ho.1
        have eall : fX7_errorOfAll μ = some (sumSq (erD (μ 0) B') M' 0 0, μ') := by
          unfold fX7_errorOfAll
          rw [y1, bd_s, f0, m5, n0, m_erA (s := μ 0) (B := B') (Nat.le_refl _) m2 (Nat.zero_le _) f0 y3, bd_s, Nat.sub_zero]
          rfl
        unfold fX6_codedCount
        rw [x1, bd_s]
        simp only [Nat.mul_zero, Nat.add_zero]
        rw [show σ' 10 0 = nI M' from ha'.1, e3']
        rcases (show w = 4 ∨ w = 5 ∨ w = 6 ∨ w = 7 ∨ w = 8 by omega) with rfl | rfl | rfl | rfl | rfl
        · rw [if_pos (show nI 4 = 4 from rfl), if_pos (show nI 4 = 4 from rfl), eall, bd2_s, n0, x_erA (s := μ 0) (B := B') (Nat.le_refl _) m2 (Nat.zero_le _) ha'.2.2.2.2 (fun i hi => (x3 i hi).1), bd_s, bd2_s, Nat.sub_zero]
          exact ⟨_, σ', μ', rfl, rfl, hQ2⟩
        · rw [if_neg (show ¬ nI 5 = 4 by decide), if_pos (show nI 5 = 5 from rfl), if_neg (show ¬ nI 5 = 4 by decide), if_pos (show nI 5 = 5 from rfl), eall, bd2_s, erA_blk m2 m3 m4 ha' e3' (fun i hi => (x3 i hi).1), bd_s, bd2_s]
          exact ⟨_, σ', μ', rfl, rfl, hQ2⟩
        · rw [if_neg (show ¬ nI 6 = 4 by decide), if_neg (show ¬ nI 6 = 5 by decide), if_pos (show nI 6 = 6 from rfl), if_neg (show ¬ nI 6 = 4 by decide), if_neg (show ¬ nI 6 = 5 by decide), if_pos (show nI 6 = 6 from rfl), y1, bd_s]
          unfold fX2_greatestDifference fX7_greatest
          rw [show fX2_greatestDifference_L4 0 0 80 0 0 σ' = fX2_greatestDifference_L4 0 0 80 0 (nI 0) σ' from by rw [← n0], show fX7_greatest_L4 80 0 0 μ' = fX7_greatest_L4 80 0 (nI 0) μ' from by rw [← n0], x_grL m2 ha'.1 M' 80 0 0 (by omega) (by omega), m_grL m2 (by rw [f0]; exact m5) (fun i hi => by rw [f0, y3 i hi]; exact ⟨m9 i hi, md_r m3 hd (i + 1) i (by omega) hi⟩) M' 80 0 0 (by omega) (by omega), bd_s, bd_s, bd2_s]
          refine ⟨_, σ', μ', rfl, ?_, hQ2⟩
          refine congrArg some (congrArg (fun z => (z, μ')) (grt_congr _ _ _ (fun i _ hi => ?_)))
          rw [f0, y3 i (by omega), show σ' 11 i = μ 0 (7 + i) from ha'.2.2.2.2 i (by omega), (x3 i (by omega)).1]
        · rw [if_neg (show ¬ nI 7 = 4 by decide), if_neg (show ¬ nI 7 = 5 by decide), if_neg (show ¬ nI 7 = 6 by decide), if_pos (show nI 7 = 7 from rfl), if_neg (show ¬ nI 7 = 4 by decide), if_neg (show ¬ nI 7 = 5 by decide), if_neg (show ¬ nI 7 = 6 by decide), if_pos (show nI 7 = 7 from rfl), y1, bd_s]
          unfold fX2_justAsTheyAre fX7_alike
          rw [show fX2_justAsTheyAre_L4 0 0 80 0 0 σ' = fX2_justAsTheyAre_L4 0 0 80 0 (nI 0) σ' from by rw [← n0], show fX7_alike_L4 80 0 0 μ' = fX7_alike_L4 80 0 (nI 0) μ' from by rw [← n0], x_jaL m2 ha'.1 M' 80 0 0 (by omega) (by omega), m_alL m2 (by rw [f0]; exact m5) M' 80 0 0 (by omega) (by omega), bd_s, bd_s, bd2_s]
          refine ⟨_, σ', μ', rfl, ?_, hQ2⟩
          refine congrArg some (congrArg (fun z => (z, μ')) (cntE_congr _ _ _ (fun i _ hi => ?_)))
          rw [f0, y3 i (by omega), show σ' 11 i = μ 0 (7 + i) from ha'.2.2.2.2 i (by omega), (x3 i (by omega)).1]
          exact ⟨rfl, rfl⟩
        · rw [if_neg (show ¬ nI 8 = 4 by decide), if_neg (show ¬ nI 8 = 5 by decide), if_neg (show ¬ nI 8 = 6 by decide), if_neg (show ¬ nI 8 = 7 by decide), bd2_s, if_neg (show ¬ nI 8 = 4 by decide), if_neg (show ¬ nI 8 = 5 by decide), if_neg (show ¬ nI 8 = 6 by decide), if_neg (show ¬ nI 8 = 7 by decide), if_pos (show nI 8 = 8 from rfl), m_blk1 h1 m2 m3 m4 m5 m6, bd_s, bd_s, m5]
          exact ⟨_, σ', μ, rfl, rfl, fun q hq => x2 q (Or.inl hq), fun _ _ => rfl, rfl, x5⟩
      · rw [if_neg h1, if_pos rfl, if_neg h1]
        exact ⟨_, σ, μ, rfl, rfl, hQ⟩
