/-! PURE: the calls: set, lose, spoil, add -/
theorem c16_nI {x : Int32} (h : c16 x) : ∃ c, c < 16 ∧ x = nI c := by
  unfold c16 at h
  obtain ⟨j, hj, hx⟩ := nI_of (x := x) (by rw [Int32.lt_iff_toInt_lt, Int32.toInt_zero]; omega)
  rw [hx, nI_toInt hj] at h
  exact ⟨j, by omega, hx⟩
theorem xor_dec : ∀ c, c < 16 → ∀ b, b < 4 → 0 ≤ (nI c ^^^ (1 <<< (nI b &&& 31))).toInt ∧ (nI c ^^^ (1 <<< (nI b &&& 31))).toInt < 16 := by decide +kernel
theorem xor_r {x : Int32} (h : c16 x) {b : Nat} (hb : b < 4) : c16 (x ^^^ (1 <<< (nI b &&& 31))) := by
  obtain ⟨c, hc, rfl⟩ := c16_nI h
  exact xor_dec c hc b hb
/-- a coded state, put together -/
theorem SR.co {σ : Sg} {s : Nat → Int32} {M B : Nat} (hm : 1 ≤ M ∧ M ≤ 64 ∧ 2 ≤ B ∧ B ≤ 16 ∧ s 0 = nI M ∧ s 2 = nI B ∧ (s 3 = 0 ∨ s 3 = 1) ∧ (s 4 = 0 ∨ s 4 = 1 ∨ s 4 = 2) ∧ ∀ k, k < M → inV (s (7 + k))) (h1 : s 1 = 1) (hd : CdS s M B) (ha : Ba σ 10 s M B) (h9 : σ 10 9 = s 5) (h10 : σ 10 10 = s 6) (ho : Co σ 10 s M B) : SR σ 10 s := by
  obtain ⟨a1, a2, a3, a4, a5, a6, a7, a8, a9⟩ := hm
  exact ⟨M, B, ⟨a1, a2, a3, a4, a5, a6, a7, a8, a9, Or.inr ⟨h1, hd⟩⟩, ha, h9, h10, Or.inr ⟨h1, ho⟩⟩
theorem SR.set4 {σ σ' : Sg} {s s' : Nat → Int32} {v : Int32} (hS : SR σ 10 s) (hv : v = 0 ∨ v = 1 ∨ v = 2) (hσ : ∀ q, 10 ≤ q → q < 18 → q ≠ 12 → σ' q = σ q) (h12 : σ' 12 = upd (σ 12) 2 v) (hs : s' = upd s 4 v) : SR σ' 10 s' := by
  obtain ⟨M, B, hm, ha, h9, h10, hc⟩ := hS
  obtain ⟨a1, a2, a3, a4, a5, a6, a7, a8, a9, a10⟩ := hm
  obtain ⟨b1, b2, b3, b4, b5⟩ := ha
  have e : ∀ i, i ≠ 4 → s' i = s i := fun i h => by rw [hs, pk_un h]
  refine ⟨M, B, ⟨a1, a2, a3, a4, ?_, ?_, ?_, ?_, fun k hk => ?_, ?_⟩, ⟨?_, ?_, ?_, ?_, fun k hk => ?_⟩, ?_, ?_, ?_⟩
  · rw [e 0 (by decide)]; exact a5
  · rw [e 2 (by decide)]; exact a6
  · rw [e 3 (by decide)]; exact a7
  · rw [hs, pk_us]; exact hv
  · rw [e _ (by omega)]; exact a9 k hk
  · rw [e 1 (by decide)]
    rcases a10 with q | ⟨q, d1, d2⟩
    · exact Or.inl q
    · refine Or.inr ⟨q, fun b hb => ?_, fun k hk => ?_⟩
      · rw [e _ (by omega), e _ (by omega), e _ (by omega)]; exact d1 b hb
      · rw [e _ (by omega)]; exact d2 k hk
  · rw [hσ 10 (by decide) (by decide) (by decide)]; exact b1
  · rw [h12]; exact b2
  · rw [h12, e 3 (by decide)]; exact b3
  · rw [h12, pk_us, hs, pk_us]
  · rw [hσ _ (by decide) (by decide) (by decide), e _ (by omega)]; exact b5 k hk
  · rw [hσ 10 (by decide) (by decide) (by decide), e 5 (by decide)]; exact h9
  · rw [hσ 10 (by decide) (by decide) (by decide), e 6 (by decide)]; exact h10
  · rw [e 1 (by decide), hσ 10 (by decide) (by decide) (by decide)]
    rcases hc with ⟨c1, c2⟩ | ⟨c1, c2, c3, c4⟩
    · exact Or.inl ⟨c1, c2⟩
    · refine Or.inr ⟨c1, by rw [hσ 10 (by decide) (by decide) (by decide)]; exact c2, fun b hb => ?_, fun k hk => ?_⟩
      · rw [hσ _ (by decide) (by decide) (by decide), hσ _ (by decide) (by decide) (by decide), hσ _ (by decide) (by decide) (by decide), e _ (by omega), e _ (by omega), e _ (by omega)]; exact c3 b hb
      · rw [hσ _ (by decide) (by decide) (by decide), hσ _ (by decide) (by decide) (by decide), e _ (by omega), e _ (by omega)]; exact c4 k hk
theorem set_dec : (fX6_leastOfSetting (nI 0) = some 2 ∧ fX6_leastOfSetting (nI 1) = some 0 ∧ fX6_leastOfSetting (nI 2) = some 0) ∧ (fX6_mostOfSetting (nI 0) = some 16 ∧ fX6_mostOfSetting (nI 1) = some 1 ∧ fX6_mostOfSetting (nI 2) = some 2) := by decide +kernel
def loS (j : Nat) : Int32 := if j = 0 then 2 else 0
def hiS (j : Nat) : Int32 := if j = 0 then 16 else nI j
theorem x_loS : ∀ j, j < 3 → fX6_leastOfSetting (nI j) = some (loS j) ∧ fX6_mostOfSetting (nI j) = some (hiS j) := by decide +kernel
theorem m_set {j : Nat} (hj : j < 3) (a2 : Int32) (μ : Sg) : fX7_set (nI j) a2 μ = if loS j ≤ a2 ∧ a2 ≤ hiS j then fX7_set_b47 (nI j) a2 0 μ else fX7_set_b47 (nI j) a2 2 μ := by
  have hin : (0 : Int32) ≤ nI j ∧ nI j ≤ 2 := ⟨nI_pos' (by omega), nI_le (b := 2) (by omega) (by decide)⟩
  have key : ∀ lo hi : Int32, fX7_set_b20 (nI j) a2 hi lo a2 μ = if lo ≤ a2 ∧ a2 ≤ hi then fX7_set_b47 (nI j) a2 0 μ else fX7_set_b47 (nI j) a2 2 μ := by
    intro lo hi
    unfold fX7_set_b20
    rw [m_in, bd_s, m_in, if_pos hin, bd_s, if_neg (show ¬ (1 : Int32) = 0 by decide)]
    by_cases h : lo ≤ a2 ∧ a2 ≤ hi
    · rw [if_pos h, if_pos h, if_neg (show ¬ (1 : Int32) = 0 by decide)]
    · rw [if_neg h, if_neg h, if_pos rfl]
  unfold fX7_set fX7_set_b10
  by_cases h0 : j = 0
  · subst h0
    rw [if_pos (show nI 0 = 0 from rfl), if_pos (show nI 0 = 0 from rfl), key]
    rfl
  · rw [if_neg (nI_ne0 (by omega) (by omega)), if_neg (nI_ne0 (by omega) (by omega)), key]
    unfold loS hiS
    rw [if_neg h0, if_neg h0]
theorem op_set : Op_set Rl := by
  intro σ μ dg hR a1 a2
  by_cases hin : (0 : Int32) ≤ a1 ∧ a1 ≤ 2
  · obtain ⟨j, j1, j2, rfl⟩ := rng 0 2 (by decide) (by decide) hin
    obtain ⟨x1, x2⟩ := x_loS j (by omega)
    by_cases hv : loS j ≤ a2 ∧ a2 ≤ hiS j
    · obtain ⟨σ1, μ1, b1, b2, b3, b4, b5, b6, b7⟩ := xm_begin (hR.th 0 dg)
      have b3' := b3 dg
      have b3'' := b3'
      obtain ⟨r1, _, r3, _, _, _, _⟩ := b3''
      have r1' := r1
      obtain ⟨M, B, hm, ha, h9, h10, hc⟩ := r1'
      have hm' := hm
      obtain ⟨m1, m2, m3, m4, m5, m6, m7, m8, m9, m10⟩ := hm'
      have hsj := set_eq ha hm j (by omega)
      obtain ⟨u, u1, u2, u3, u4⟩ := m_nc (up2 μ1 0 (2 + j) a2)
      have hX : fX6_set (nI j) a2 σ = if nI j = 2 then some (.inl (μ1 0 (2 + j)), up2 σ1 12 j a2) else some (.inl (μ1 0 (2 + j)), up2 (up2 σ1 12 j a2) 10 3 0) := by
        unfold fX6_set fX4_forgetBlocks
        rw [x_isS, if_pos hin, bd_s, if_neg (show ¬ (1 : Int32) = 0 by decide), x1, bd_s, if_neg (nlt.mpr hv.1), x2, bd_s, if_pos hv.2, b1, bd_s]
        simp only [gi (show j < 3 by omega) (by decide), nm_s, bd_s, Nat.mul_zero, Nat.add_zero, Nat.reduceAdd]
        rw [nI_clamp (show j < 2 ^ 31 by omega), hsj]
      have hM : fX7_set (nI j) a2 μ = if 2 ≤ nI j then some (μ1 0 (2 + j), up2 μ1 0 (2 + j) a2) else some (μ1 0 (2 + j), u) := by
        rw [m_set (by omega), if_pos hv]
        unfold fX7_set_b47
        rw [m_holds0, bd2_s, if_neg (show ¬ (1 : Int32) = 0 by decide), b2, bd_s, o2]
        simp only [gi (show 2 + j < 295 by omega) (by decide), nm_s]
        rw [nI_clamp (show 2 + j < 2 ^ 31 by omega), u1, bd_s]
      have htel : ∀ (u' : Sg), u' 20 = μ1 20 → tel [1, 0] (.inl (μ1 0 (2 + j))) (μ1 0 (2 + j)) (u' 20 0) := fun u' h => ⟨by rw [h, b7 0 (by decide), up2_self, pk_us], rfl⟩
      by_cases h2 : j = 2
      · subst h2
        rw [if_pos (show nI 2 = 2 from rfl)] at hX
        rw [if_pos (show (2 : Int32) ≤ nI 2 by decide)] at hM
        have hv2 : a2 = 0 ∨ a2 = 1 ∨ a2 = 2 := by
          obtain ⟨k, k1, k2, rfl⟩ := rng 0 2 (by decide) (by decide) (show (0 : Int32) ≤ a2 ∧ a2 ≤ 2 from hv)
          rcases (show k = 0 ∨ k = 1 ∨ k = 2 by omega) with rfl | rfl | rfl
          · exact Or.inl rfl
          · exact Or.inr (Or.inl rfl)
          · exact Or.inr (Or.inr rfl)
        refine ⟨_, _, _, _, hX, hM, htel _ (up2_ne (by decide)), b3'.op (r1.set4 hv2 (fun q h1 h2 h3 => up2_ne h3) (up2_self _ _ _ _) (up2_self _ _ _ _)) ?_ (fun q hq => up2_ne (by omega)) ?_ (fun q h1 h2 => up2_ne (by omega)) (up2_ne (by decide))⟩
        · intro k hk
          rw [up2_ne (by decide)]
          exact r3 0 (by decide) k hk
        · rw [up2_ne (by decide)]; exact b4
      · have hne : ¬ nI j = 2 := fun q => h2 ((nI_eq (b := 2) (by omega) (by decide)).mp q)
        have hng : ¬ (2 : Int32) ≤ nI j := nI_ge (b := 2) (by omega) (by decide)
        rw [if_neg hne] at hX
        rw [if_neg hng] at hM
        have v0 : ∀ i, i ≠ 1 → i < 263 → i ≠ 2 + j → u 0 i = μ1 0 i := fun i h1 h2 h3 => by rw [u4 i h1 h2, up2_self, pk_un h3]
        have s10 : up2 (up2 σ1 12 j a2) 10 3 0 10 = upd (σ1 10) 3 0 := by rw [up2_self, up2_ne (by decide)]
        have s12 : up2 (up2 σ1 12 j a2) 10 3 0 12 = upd (σ1 12) j a2 := by rw [up2_ne (by decide), up2_self]
        have fin : ∀ B', 2 ≤ B' → B' ≤ 16 → up2 (up2 σ1 12 j a2) 10 3 0 12 0 = nI B' → u 0 2 = nI B' → up2 (up2 σ1 12 j a2) 10 3 0 12 1 = u 0 3 → (u 0 3 = 0 ∨ u 0 3 = 1) → Rl (up2 (up2 σ1 12 j a2) 10 3 0) u dg := by
          intro B' hb1 hb2 g1 g2 g3 g4
          refine b3'.op (SR.unc M B' m1 m2 hb1 hb2 ?_ ?_ g1 g2 g3 ?_ g4 ?_ (fun i hi => ?_) ?_ ?_ u3 ?_) ?_ (fun q hq => ?_) ?_ (fun q h1 h2 => ?_) ?_
          · rw [s10]; exact ha.1
          · rw [v0 0 (by decide) (by decide) (by omega)]; exact m5
          · rw [s12, pk_un (by omega), v0 4 (by decide) (by decide) (by omega)]; exact ha.2.2.2.1
          · rw [v0 4 (by decide) (by decide) (by omega)]; exact m8
          · rw [up2_ne (by decide), up2_ne (by decide), v0 (7 + i) (by omega) (by omega) (by omega)]
            exact ⟨ha.2.2.2.2 i hi, m9 i hi⟩
          · rw [s10, v0 5 (by decide) (by decide) (by omega)]; exact h9
          · rw [s10, v0 6 (by decide) (by decide) (by omega)]; exact h10
          · rw [s10]; rfl
          · intro i hi
            rw [up2_ne (by decide), up2_ne (by decide)]
            exact r3 0 (by decide) i hi
          · rw [up2_ne (by omega), up2_ne (by omega)]
          · rw [up2_ne (by decide), up2_ne (by decide)]; exact b4
          · rw [u2 q (by omega), up2_ne (by omega)]
          · rw [u2 20 (by decide), up2_ne (by decide)]
        refine ⟨_, _, _, _, hX, hM, htel _ (by rw [u2 20 (by decide), up2_ne (by decide)]), ?_⟩
        rcases (show j = 0 ∨ j = 1 by omega) with rfl | rfl
        · obtain ⟨b, hb1, hb2, rfl⟩ := rng 2 16 (by decide) (by decide) (show (2 : Int32) ≤ a2 ∧ a2 ≤ 16 from hv)
          refine fin b hb1 hb2 (by rw [s12, pk_us]) (by rw [u4 2 (by decide) (by decide), up2_self, pk_us]) ?_ ?_
          · rw [s12, pk_un (by decide), v0 3 (by decide) (by decide) (by decide)]; exact ha.2.2.1
          · rw [v0 3 (by decide) (by decide) (by decide)]; exact m7
        · obtain ⟨b, hb1, hb2, rfl⟩ := rng 0 1 (by decide) (by decide) (show (0 : Int32) ≤ a2 ∧ a2 ≤ 1 from hv)
          refine fin B m3 m4 (by rw [s12, pk_un (by decide)]; exact ha.2.1) (by rw [v0 2 (by decide) (by decide) (by decide)]; exact m6) ?_ ?_
          · rw [s12, pk_us, u4 3 (by decide) (by decide), up2_self, pk_us]
          · rw [u4 3 (by decide) (by decide), up2_self, pk_us]
            rcases (show b = 0 ∨ b = 1 by omega) with rfl | rfl
            · exact Or.inl rfl
            · exact Or.inr rfl
    · have hX : fX6_set (nI j) a2 σ = some (.inr 0, σ) := by
        unfold fX6_set
        rw [x_isS, if_pos hin, bd_s, if_neg (show ¬ (1 : Int32) = 0 by decide), x1, bd_s]
        rcases th_in hv with h | h
        · rw [if_pos h]
        · by_cases hl : a2 < loS j
          · rw [if_pos hl]
          · rw [if_neg hl, x2, bd_s, if_neg h]
      have hM : fX7_set (nI j) a2 μ = some (0, up2 μ 20 0 2) := by
        rw [m_set (by omega), if_neg hv]
        unfold fX7_set_b47
        rw [m_holds (by decide), bd2_s, if_pos rfl]
      obtain ⟨t1, t2⟩ := hR.thr (T := [1, 0]) (e := 0) (k := 2) (r := 0) (by decide) rfl
      exact ⟨_, σ, _, _, hX, hM, t1, t2⟩
  · have hX : fX6_set a1 a2 σ = some (.inr 1, σ) := by
      unfold fX6_set
      rw [x_isS, if_neg hin, bd_s, if_pos rfl]
    have hb : ∀ lo hi v, fX7_set_b20 a1 a2 hi lo v μ = some (0, up2 μ 20 0 1) := by
      intro lo hi v
      unfold fX7_set_b20 fX7_set_b47
      rw [m_in, bd_s, m_in, if_neg hin, bd_s, if_pos rfl, m_holds (by decide), bd2_s, if_pos rfl]
    have hM : fX7_set a1 a2 μ = some (0, up2 μ 20 0 1) := by
      unfold fX7_set fX7_set_b10
      split <;> exact hb _ _ _
    obtain ⟨t1, t2⟩ := hR.thr (T := [1, 0]) (e := 1) (k := 1) (r := 0) (by decide) rfl
    exact ⟨_, σ, _, _, hX, hM, t1, t2⟩
theorem x_blk {σ : Sg} {x : Int32} : (fX4_hasBlock 0 x σ = some 1 → fX6_refuseUnlessBlock x σ = some (.inl (), σ)) ∧ (fX4_hasBlock 0 x σ = some 0 → fX6_refuseUnlessBlock x σ = some (.inr 1, σ)) := by
  unfold fX6_refuseUnlessBlock
  constructor
  · intro h
    rw [h, bd_s, if_neg (show ¬ (1 : Int32) = 0 by decide)]
  · intro h
    rw [h, bd_s, if_pos rfl]
theorem op_lose : Op_lose Rl := by
  intro σ μ dg hR a1
  have hR' := hR
  obtain ⟨hS, _⟩ := hR'
  rcases blk hS a1 with ⟨M, B, b, hm, h1, ha, ho, hd, hb, rfl, g1, g2⟩ | ⟨g1, g2⟩
  · have hm' := hm
    obtain ⟨m1, m2, m3, m4, m5, m6, m7, m8, m9, m10⟩ := hm'
    have hb32 := b32 m2 m3 hb
    obtain ⟨σ1, μ1, b1, b2, b3, b4, b5, b6, b7⟩ := xm_begin (hR.th 0 dg)
    have b3' := b3 dg
    have b3'' := b3'
    obtain ⟨r1, _, r3, _, _, _, _⟩ := b3''
    have e10 : ∀ q, 10 ≤ q → q < 18 → σ1 q = σ q := fun q h1 h2 => b5 q (by omega) (by omega) (by omega) (by omega)
    have f0 : μ1 0 = μ 0 := by rw [b6 0 (by decide) (by decide), up2_ne (by decide)]
    have hS' := hS
    obtain ⟨_, _, _, _, h9, h10, _⟩ := hS'
    have hob := ho.2.1 b hb
    have hdb := hd.1 b hb
    have e15 : σ 15 b = μ 0 (263 + b) := hob.2.2
    obtain ⟨v, hv, hv2, hX1⟩ : ∃ v : Int32, v = 1 - μ 0 (263 + b) ∧ (v = 0 ∨ v = 1) ∧ fX6_lose (nI b) σ = bd (fX4_lostBlocks 0 (up2 σ1 15 b v)) fun r => some (.inl r, up2 σ1 15 b v) := by
      refine ⟨1 - μ 0 (263 + b), rfl, ?_, ?_⟩
      · rcases hdb.2.2 with q | q
        · rw [q]; exact Or.inr (by decide)
        · rw [q]; exact Or.inl (by decide)
      · unfold fX6_lose
        rw [x_blk.1 g1, bx_s, b1, bd_s]
        simp only [gi hb32 (by decide), nm_s, Nat.mul_zero, Nat.add_zero, Nat.reduceAdd]
        rw [nI_clamp (show b < 2 ^ 31 by omega), e10 15 (by decide) (by decide), e15]
        rcases hdb.2.2 with q | q
        · rw [q, if_pos rfl, show (1 : Int32) - 0 = 1 by decide]
        · rw [q, if_neg (by decide), show (1 : Int32) - 1 = 0 by decide]
    obtain ⟨τ, hτ⟩ : ∃ τ, τ = up2 σ1 15 b v := ⟨_, rfl⟩
    obtain ⟨u, hu⟩ : ∃ u, u = up2 μ1 0 (263 + b) v := ⟨_, rfl⟩
    rw [← hτ] at hX1
    have u0 : u 0 = upd (μ 0) (263 + b) v := by rw [hu, up2_self, f0]
    have uq : ∀ q, q ≠ 0 → u q = μ1 q := fun q h => by rw [hu, up2_ne h]
    have e : ∀ i, i ≠ 263 + b → u 0 i = μ 0 i := fun i h => by rw [u0, pk_un h]
    have t15 : τ 15 = upd (σ 15) b v := by rw [hτ, up2_self, e10 15 (by decide) (by decide)]
    have tq : ∀ q, q ≠ 15 → τ q = σ1 q := fun q h => by rw [hτ, up2_ne h]
    have tq' : ∀ q, 10 ≤ q → q < 18 → q ≠ 15 → τ q = σ q := fun q h1 h2 h3 => by rw [tq q h3, e10 q h1 h2]
    have hle := nb_le m3 m2
    have hCd : CdS (u 0) M B := by
      refine ⟨fun i hi => ?_, fun k hk => ?_⟩
      · have hi32 := b32 m2 m3 hi
        obtain ⟨d1, d2, d3⟩ := hd.1 i hi
        rw [e (199 + i) (by omega), e (231 + i) (by omega)]
        refine ⟨d1, d2, ?_⟩
        by_cases q : i = b
        · rw [q, u0, pk_us]; exact hv2
        · rw [e (263 + i) (by omega)]; exact d3
      · rw [e _ (by omega)]
        exact hd.2 k hk
    have hCo : Co τ 10 (u 0) M B := by
      refine ⟨by rw [tq' 10 (by decide) (by decide) (by decide)]; exact ho.1, fun i hi => ?_, fun k hk => ?_⟩
      · have hi32 := b32 m2 m3 hi
        obtain ⟨d1, d2, d3⟩ := ho.2.1 i hi
        rw [tq' (10 + 3) (by decide) (by decide) (by decide), tq' (10 + 4) (by decide) (by decide) (by decide), e (199 + i) (by omega), e (231 + i) (by omega)]
        refine ⟨d1, d2, ?_⟩
        show τ 15 i = _
        rw [t15]
        by_cases q : i = b
        · rw [q, u0, pk_us, pk_us]
        · rw [e (263 + i) (by omega), pk_un q]; exact d3
      · rw [tq' (10 + 6) (by decide) (by decide) (by decide), tq' (10 + 7) (by decide) (by decide) (by decide), e _ (by omega), e _ (by omega)]
        exact ho.2.2 k hk
    have hu1 : u 0 1 = 1 := by rw [e 1 (by omega)]; exact h1
    have hSR : SR τ 10 (u 0) := by
      refine SR.co (M := M) (B := B) ⟨m1, m2, m3, m4, ?_, ?_, ?_, ?_, fun k hk => ?_⟩ hu1 hCd ⟨?_, ?_, ?_, ?_, fun k hk => ?_⟩ ?_ ?_ hCo
      · rw [e 0 (by omega)]; exact m5
      · rw [e 2 (by omega)]; exact m6
      · rw [e 3 (by omega)]; exact m7
      · rw [e 4 (by omega)]; exact m8
      · rw [e _ (by omega)]; exact m9 k hk
      · rw [tq' 10 (by decide) (by decide) (by decide)]; exact ha.1
      · rw [tq' 12 (by decide) (by decide) (by decide)]; exact ha.2.1
      · rw [tq' 12 (by decide) (by decide) (by decide), e 3 (by omega)]; exact ha.2.2.1
      · rw [tq' 12 (by decide) (by decide) (by decide), e 4 (by omega)]; exact ha.2.2.2.1
      · rw [tq' 11 (by decide) (by decide) (by decide), e _ (by omega)]; exact ha.2.2.2.2 k hk
      · rw [tq' 10 (by decide) (by decide) (by decide), e 5 (by omega)]; exact h9
      · rw [tq' 10 (by decide) (by decide) (by decide), e 6 (by omega)]; exact h10
    have hX : fX6_lose (nI b) σ = some (.inl (lsS (u 0) (NB M B) 0 0), τ) := by
      rw [hX1]
      unfold fX4_lostBlocks
      rw [show fX4_lostBlocks_L4 0 80 0 0 τ = fX4_lostBlocks_L4 0 80 0 (nI 0) τ from by rw [← n0], x_loL (s := u 0) hle hCo.1 (fun i hi => ⟨(hCo.2.1 i ((nb_lt (by omega)).mp hi)).2.2, (hCd.1 i ((nb_lt (by omega)).mp hi)).2.2⟩) (NB M B) 80 0 0 (by omega) (by omega), bd_s]
    have hM : fX7_lose (nI b) μ = some (lsS (u 0) (NB M B) 0 0, u) := by
      unfold fX7_lose fX7_lose_b14
      rw [g2, bd_s, if_neg (show ¬ (1 : Int32) = 0 by decide), m_holds0, bd2_s, if_neg (show ¬ (1 : Int32) = 0 by decide), b2, bd_s, o263]
      simp only [gi (show 263 + b < 295 by omega) (by decide), nm_s]
      rw [nI_clamp (show 263 + b < 2 ^ 31 by omega), f0, ← hv, ← hu]
      unfold fX7_lost
      rw [show fX7_lost_L4 80 0 0 u = fX7_lost_L4 80 0 (nI 0) u from by rw [← n0], m_loL hle (m_blk1 hu1 m2 m3 m4 (by rw [e 0 (by omega)]; exact m5) (by rw [e 2 (by omega)]; exact m6)) (NB M B) 80 0 0 (by omega) (by omega), bd_s]
    refine ⟨_, τ, _, u, hX, hM, ⟨?_, rfl⟩, b3'.op hSR ?_ (fun q hq => tq q (by omega)) ?_ (fun q h1 h2 => uq q (by omega)) (uq 20 (by decide))⟩
    · rw [uq 20 (by decide), b7 0 (by decide), up2_self, pk_us]
    · intro k hk
      show τ 15 k = 0 ∨ τ 15 k = 1
      rw [t15]
      by_cases q : k = b
      · rw [q, pk_us]; exact hv2
      · rw [pk_un q, ← e10 15 (by decide) (by decide)]
        exact r3 0 (by decide) k hk
    · rw [tq 86 (by decide)]; exact b4
  · have hX : fX6_lose a1 σ = some (.inr 1, σ) := by
      unfold fX6_lose
      rw [x_blk.2 g1, bx_e]
    have hM : fX7_lose a1 μ = some (0, up2 μ 20 0 1) := by
      unfold fX7_lose fX7_lose_b14
      rw [g2, bd_s, if_pos rfl, m_holds (by decide), bd2_s, if_pos rfl]
    obtain ⟨t1, t2⟩ := hR.thr (T := [1]) (e := 1) (k := 1) (r := 0) (by decide) rfl
    exact ⟨_, σ, _, _, hX, hM, t1, t2⟩
