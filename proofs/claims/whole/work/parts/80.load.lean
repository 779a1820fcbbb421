/-! PURE: load -/
theorem x_pbL {M B b : Nat} (hM1 : M ≤ 64) (hB2 : B ≤ 16) (hb : b * B < M) : ∀ n f k (σ : Sg), n < f → k + n + (b * B + 1) = eo M B b → σ 10 0 = nI M → σ 12 0 = nI B → ∃ σ', fX4_putBlock_L36 0 (nI b) f (nI (b * B)) (nI k) σ = some σ' ∧ (∀ q, q ≠ 16 → σ' q = σ q) ∧ ∀ i, σ' 16 i = if b * B + 1 + k ≤ i ∧ i < eo M B b then σ 7 (i - (b * B + 1)) else σ 16 i := by
  intro n
  induction n with
  | zero =>
    intro f k σ hf hk h10 h12
    obtain ⟨f, rfl⟩ := fu1 hf
    have he1 : eo M B b ≤ M := Nat.min_le_left _ _
    have hcf : fX4_codesOf 0 (nI b) σ = some (nI k) := by
      unfold fX4_codesOf
      rw [x_eo hM1 hB2 h10 h12 hb, bd_s, x_so h12, bd_s, pk_sub (by omega), show nI (eo M B b - b * B) - 1 = nI (eo M B b - b * B - 1) from pk_sub (b := 1) (by omega), show eo M B b - b * B - 1 = k by omega]
    rw [fX4_putBlock_L36, hcf, bd_s, if_pos (nI_le (Nat.le_refl k) (by omega))]
    exact ⟨σ, rfl, fun _ _ => rfl, fun i => by rw [if_neg (by omega)]⟩
  | succ n ih =>
    intro f k σ hf hk h10 h12
    obtain ⟨f, rfl⟩ := fu1 hf
    have he1 : eo M B b ≤ M := Nat.min_le_left _ _
    have he3 : eo M B b ≤ b * B + B := Nat.min_le_right _ _
    have hcf : fX4_codesOf 0 (nI b) σ = some (nI (k + (n + 1))) := by
      unfold fX4_codesOf
      rw [x_eo hM1 hB2 h10 h12 hb, bd_s, x_so h12, bd_s, pk_sub (by omega), show nI (eo M B b - b * B) - 1 = nI (eo M B b - b * B - 1) from pk_sub (b := 1) (by omega), show eo M B b - b * B - 1 = k + (n + 1) by omega]
    rw [fX4_putBlock_L36, hcf, bd_s, if_neg (nI_ge (by omega) (by omega)), if_neg (show ¬ (15 : Int32) ≤ nI k from nI_ge (b := 15) (by omega) (by decide)), gi (show k < 15 by omega) (by decide), nI_clamp (show k < 2 ^ 31 by omega), nI_1, nI_add, gi (show b * B + 1 + k < 64 by omega) (by decide), nI_clamp (show b * B + 1 + k < 2 ^ 31 by omega)]
    simp only [nm_s, nI_1, Nat.mul_zero, Nat.add_zero, Nat.reduceAdd]
    obtain ⟨σ', e1, e2, e3⟩ := ih f (k + 1) (up2 σ 16 (b * B + 1 + k) (σ 7 k)) (by omega) (by omega) (by rw [up2_ne (by decide)]; exact h10) (by rw [up2_ne (by decide)]; exact h12)
    refine ⟨σ', e1, fun q hq => by rw [e2 q hq, up2_ne hq], fun i => ?_⟩
    rw [e3 i, up2_self, up2_ne (show 7 ≠ 16 by decide)]
    by_cases h1 : b * B + 1 + (k + 1) ≤ i ∧ i < eo M B b
    · rw [if_pos h1, if_pos (by omega)]
    · rw [if_neg h1]
      by_cases h2 : i = b * B + 1 + k
      · rw [h2, pk_us, if_pos (by omega), show b * B + 1 + k - (b * B + 1) = k by omega]
      · rw [pk_un h2, if_neg (by omega)]
theorem m_ldL {B b c : Nat} (hc : c ≤ 15) (hbB : b * B + 1 + c ≤ 64) : ∀ n f k (u : Sg), n < f → k + n = c → u 20 18 = nI c → u 0 2 = nI B → 2 ≤ B → ∃ u', fX7_load_L109 (nI b) f (nI k) u = (nm (up2 u' 20 7 0) fun u2 => bd2 (fX7_others u2) fun r4 u5 => some (r4, u5)) ∧ (∀ q, q ≠ 0 → u' q = u q) ∧ ∀ i, u' 0 i = if 71 + (b * B + 1) + k ≤ i ∧ i < 71 + (b * B + 1) + c then u 10 (i - (71 + (b * B + 1))) else u 0 i := by
  intro n
  induction n with
  | zero =>
    intro f k u hf hk h18 h2 hB
    obtain ⟨f, rfl⟩ := fu1 hf
    rw [fX7_load_L109, h18, if_pos (nI_le (by omega) (by omega))]
    exact ⟨u, rfl, fun _ _ => rfl, fun i => by rw [if_neg (by omega)]⟩
  | succ n ih =>
    intro f k u hf hk h18 h2 hB
    obtain ⟨f, rfl⟩ := fu1 hf
    rw [fX7_load_L109, h18, if_neg (nI_ge (by omega) (by omega)), gi (show k < 15 by omega) (by decide), nI_clamp (show k < 2 ^ 31 by omega), h2, pk_mul, o71, nI_1, nI_add, show 71 + b * B + 1 + k = 71 + (b * B + 1) + k by omega, gi (show 71 + (b * B + 1) + k < 295 by omega) (by decide), nI_clamp (show 71 + (b * B + 1) + k < 2 ^ 31 by omega)]
    simp only [nm_s, nI_1]
    obtain ⟨u', e1, e2, e3⟩ := ih f (k + 1) (up2 u 0 (71 + (b * B + 1) + k) (u 10 k)) (by omega) (by omega) (by rw [up2_ne (by decide)]; exact h18) (by rw [up2_self, pk_un (by omega)]; exact h2) hB
    refine ⟨u', e1, fun q hq => by rw [e2 q hq, up2_ne hq], fun i => ?_⟩
    rw [e3 i, up2_self, up2_ne (show 10 ≠ 0 by decide)]
    by_cases h1 : 71 + (b * B + 1) + (k + 1) ≤ i ∧ i < 71 + (b * B + 1) + c
    · rw [if_pos h1, if_pos (by omega)]
    · rw [if_neg h1]
      by_cases h2 : i = 71 + (b * B + 1) + k
      · rw [h2, pk_us, if_pos (by omega), show 71 + (b * B + 1) + k - (71 + (b * B + 1)) = k by omega]
      · rw [pk_un h2, if_neg (by omega)]
theorem op_load : Op_load Rl := by
  intro σ μ dg hR a1
  have hR' := hR
  obtain ⟨hS, _, _, _, hbf, _, _⟩ := hR'
  have n10 : ¬ (1 : Int32) = 0 := by decide
  obtain ⟨L, p, σ8, μ25, e1, eL, e3, e4, e5, e6, e7, e8⟩ := xm_read hbf
  have hR8 : Rl σ8 μ25 dg := hR.rd e5 e6 dg
  have hRm : Rl σ μ25 dg := hR.rd (Fx.rf σ) e6 dg
  have f25 : μ25 0 = μ 0 := e6.1 0 (by decide) (by decide)
  have s8 : ∀ q, q ≠ 5 → q ≠ 7 → σ8 q = σ q := e5.1
  have htb : fX0_tellsBlock σ = some (if p = L ∧ σ8 5 6 = 2 then 1 else 0, σ8) := by
    unfold fX0_tellsBlock
    rw [e3, bd2_s, e5.2, e1]
    by_cases q : p = L
    · rw [q, if_pos rfl]
      by_cases q2 : σ8 5 6 = 2
      · rw [if_pos q2, if_pos ⟨rfl, q2⟩]
      · rw [if_neg q2, if_neg (fun z => q2 z.2)]
    · rw [if_neg (fun z => q ((nI_eq (by omega) (by omega)).mp z)), if_neg (fun z => q z.1)]
  rcases blk hS a1 with ⟨M, B, b, hm, h1, ha, ho, hd, hb, rfl, g1, g2⟩ | ⟨g1, g2⟩
  · have hm' := hm
    obtain ⟨m1, m2, m3, m4, m5, m6, m7, m8, m9, m10⟩ := hm'
    have hb32 := b32 m2 m3 hb
    have he1 : eo M B b ≤ M := Nat.min_le_left _ _
    have he2 : b * B < eo M B b := by unfold eo; omega
    have he3 : eo M B b ≤ b * B + B := Nat.min_le_right _ _
    have g2' : fX7_isBlock (nI b) μ25 = some 1 := by
      have hS25 : SR σ 10 (μ25 0) := by rw [f25]; exact hS
      rcases blk hS25 (nI b) with ⟨_, _, _, _, _, _, _, _, _, _, _, w⟩ | ⟨w1, _⟩
      · exact w
      · rw [w1] at g1
        cases g1
    have hcf : fX4_codesOf 0 (nI b) σ8 = some (nI (eo M B b - b * B - 1)) := by
      have z12 : σ8 12 0 = nI B := by rw [s8 12 (by decide) (by decide)]; exact ha.2.1
      unfold fX4_codesOf
      rw [x_eo m2 m4 (by rw [s8 10 (by decide) (by decide)]; exact ha.1) z12 hb, bd_s, x_so z12, bd_s, pk_sub (by omega), show nI (eo M B b - b * B) - 1 = nI (eo M B b - b * B - 1) from pk_sub (b := 1) (by omega)]
    have hME : fX7_load (nI b) μ = if μ25 20 14 = 0 ∧ μ25 20 18 = nI (eo M B b - b * B - 1) then fX7_load_b52 (nI b) 0 μ25 else fX7_load_b52 (nI b) 2 μ25 := by
      unfold fX7_load fX7_load_b47
      rw [e4, bd_s, g2', bd_s, if_neg n10]
      by_cases q : μ25 20 14 = 0
      · rw [if_pos q, m_eo m2 m4 (by rw [f25]; exact m5) (by rw [f25]; exact m6) hb, bd_s, f25, m6, pk_mul, pk_sub (by omega), show nI (eo M B b - b * B) - 1 = nI (eo M B b - b * B - 1) from pk_sub (b := 1) (by omega)]
        by_cases q2 : μ25 20 18 = nI (eo M B b - b * B - 1)
        · rw [if_pos q2, if_pos ⟨q, q2⟩]
        · rw [if_neg q2, if_neg (fun z => q2 z.2)]
      · rw [if_neg q, if_neg (fun z => q z.1)]
    have refuse : ∀ (_ : fX6_load (nI b) σ = some (.inr 0, σ8)) (_ : ¬ (μ25 20 14 = 0 ∧ μ25 20 18 = nI (eo M B b - b * B - 1))), ∃ res σ' r μ', fX6_load (nI b) σ = some (res, σ') ∧ fX7_load (nI b) μ = some (r, μ') ∧ tel [1, 0] res r (μ' 20 0) ∧ Rl σ' μ' dg := by
      intro hX hn
      have hM : fX7_load (nI b) μ = some (0, up2 μ25 20 0 2) := by
        rw [hME, if_neg hn]
        unfold fX7_load_b52
        rw [m_holds (by decide), bd2_s, if_pos rfl]
      obtain ⟨t1, t2⟩ := hR8.thr (T := [1, 0]) (e := 0) (k := 2) (r := 0) (by decide) rfl
      exact ⟨_, σ8, _, _, hX, hM, t1, t2⟩
    rcases e8 with ⟨w, w2⟩ | ⟨w1, w2, w3, w4, w5, ⟨j, hj, w6, w7⟩, c, hc1, hc2, hc3, hc4⟩
    · refine refuse ?_ (fun z => by rw [w.1] at z; exact absurd z.1 (by decide))
      unfold fX6_load
      rw [x_blk.1 g1, bx_s, htb, bd2_s, if_neg (show ¬ (p = L ∧ σ8 5 6 = 2) from fun z => w2.elim (fun y => by omega) (fun y => y z.2)), if_pos rfl]
    · have hXt : fX6_load (nI b) σ = if nI c = nI (eo M B b - b * B - 1) then (bd (fX2_decode 0 0 σ8) fun s14 => bd (fX6_beginChange s14) fun s16 => bd (fX4_putBlock 0 (nI b) s16) fun s18 => nm (up2 s18 5 1 0) fun s19 => nm (up2 s19 (86 + 3 * 1) 3 0) fun s20 => bd (fX2_decode 1 0 s20) fun s22 => bd (fX2_othersThan 1 0 (s22 (10 + 8 * 0) 0) s22) fun r24 => some (.inl r24, s22)) else some (.inr 0, σ8) := by
        unfold fX6_load
        rw [x_blk.1 g1, bx_s, htb, if_pos ⟨w2, w3⟩, bd2_s, if_neg n10, hcf, bd_s, hc2]
      by_cases hce : c = eo M B b - b * B - 1
      · rw [if_pos (by rw [hce])] at hXt
        rw [hc3, hce, if_pos ⟨w1, rfl⟩] at hME
        have hm8 : MS (μ25 0) M B := by rw [f25]; exact hm
        have h18 : μ25 0 1 = 1 := by rw [f25]; exact h1
        -- the class
        obtain ⟨s14, x1, x2, x3, x4, x5⟩ := x_decR hR8 hm8 h18
        rw [f25] at x3
        obtain ⟨s16, μ15, b1, b2, b3, b4, b5, b6, b7⟩ := xm_begin ((x5 dg).th 0 dg)
        have b3' := b3 dg
        have b3'' := b3'
        obtain ⟨_, _, r3, _, _, rT, _⟩ := b3''
        have f15 : μ15 0 = μ 0 := by rw [b6 0 (by decide) (by decide), up2_ne (by decide), f25]
        have s16q : ∀ q, 5 ≤ q → (q < 34 ∨ 89 ≤ q) → s16 q = σ8 q := fun q q1 q2 => by rw [b5 q (by omega) (by omega) (by omega) (by omega), x2 q (by omega)]
        have s16n : ∀ q, 10 ≤ q → q < 18 → s16 q = σ q := fun q q1 q2 => by rw [s16q q (by omega) (by omega), s8 q (by omega) (by omega)]
        have a10 : s16 10 0 = nI M := by rw [s16n 10 (by decide) (by decide)]; exact ha.1
        have a12 : s16 12 0 = nI B := by rw [s16n 12 (by decide) (by decide)]; exact ha.2.1
        obtain ⟨v, hv⟩ : ∃ v, v = μ25 20 15 := ⟨_, rfl⟩
        rw [← hv] at w4 w5
        obtain ⟨sA, hsA⟩ : ∃ sA, sA = up2 (up2 (up2 s16 13 b v) 14 b (nI j)) 15 b 0 := ⟨_, rfl⟩
        have sAq : ∀ q, q ≠ 13 → q ≠ 14 → q ≠ 15 → sA q = s16 q := fun q q1 q2 q3 => by rw [hsA, up2_ne q3, up2_ne q2, up2_ne q1]
        obtain ⟨s18, p1, p2, p3⟩ := x_pbL m2 m4 hb c 80 0 sA (by omega) (by omega) (by rw [sAq 10 (by decide) (by decide) (by decide)]; exact a10) (by rw [sAq 12 (by decide) (by decide) (by decide)]; exact a12)
        have hpb : fX4_putBlock 0 (nI b) s16 = some s18 := by
          unfold fX4_putBlock
          simp only [gi hb32 (by decide), nm_s, Nat.mul_zero, Nat.add_zero, Nat.reduceAdd]
          rw [nI_clamp (show b < 2 ^ 31 by omega), s16q 5 (by decide) (by decide), w4, up2_ne (show 5 ≠ 13 by decide), s16q 5 (by decide) (by decide), w6, ← hsA, x_so (show sA 12 0 = nI B by rw [sAq 12 (by decide) (by decide) (by decide)]; exact a12), bd_s]
          rw [show fX4_putBlock_L36 0 (nI b) 80 (nI (b * B)) 0 sA = fX4_putBlock_L36 0 (nI b) 80 (nI (b * B)) (nI 0) sA from by rw [← n0], p1]
        obtain ⟨s20, hs20⟩ : ∃ s20, s20 = up2 (up2 s18 5 1 0) 89 3 0 := ⟨_, rfl⟩
        have s20q : ∀ q, q ≠ 5 → q ≠ 89 → s20 q = s18 q := fun q q1 q2 => by rw [hs20, up2_ne q2, up2_ne q1]
        have t13 : s20 13 = upd (σ 13) b v := by rw [s20q 13 (by decide) (by decide), p2 13 (by decide), hsA, up2_ne (by decide), up2_ne (by decide), up2_self, s16n 13 (by decide) (by decide)]
        have t14 : s20 14 = upd (σ 14) b (nI j) := by rw [s20q 14 (by decide) (by decide), p2 14 (by decide), hsA, up2_ne (by decide), up2_self, up2_ne (by decide), s16n 14 (by decide) (by decide)]
        have t15 : s20 15 = upd (σ 15) b 0 := by rw [s20q 15 (by decide) (by decide), p2 15 (by decide), hsA, up2_self, up2_ne (by decide), up2_ne (by decide), s16n 15 (by decide) (by decide)]
        have t16 : ∀ i, s20 16 i = if b * B + 1 ≤ i ∧ i < eo M B b then σ8 7 (i - (b * B + 1)) else σ 16 i := fun i => by
          rw [s20q 16 (by decide) (by decide), p3 i, sAq 7 (by decide) (by decide) (by decide), s16q 7 (by decide) (by decide), sAq 16 (by decide) (by decide) (by decide), s16n 16 (by decide) (by decide), Nat.add_zero]
        have tq : ∀ q, 10 ≤ q → q < 18 → q ≠ 13 → q ≠ 14 → q ≠ 15 → q ≠ 16 → s20 q = σ q := fun q q0 q00 q1 q2 q3 q4 => by rw [s20q q (by omega) (by omega), p2 q q4, sAq q q1 q2 q3, s16n q q0 q00]
        have tr : ∀ q, (q < 10 ∨ 18 ≤ q) → q ≠ 5 → q ≠ 89 → s20 q = s16 q := fun q q0 q1 q2 => by rw [s20q q q1 q2, p2 q (by omega), sAq q (by omega) (by omega) (by omega)]
        -- the model
        obtain ⟨u1, v1, v2, v3, v4, v5⟩ := m_dec rT m2 m3 m4 (by rw [f15]; exact m5) (by rw [f15]; exact m6) (by rw [f15]; exact hd)
        obtain ⟨u17, y1, y2, y3⟩ := m_dbL m2 M 80 0 u1 (by omega) (by omega) (by rw [v2 0 (by decide) (by decide) (by decide), f15]; exact m5)
        have u17q : ∀ q, q ≠ 6 → q ≠ 7 → q ≠ 8 → q ≠ 9 → u17 q = μ15 q := fun q q6 q7 q8 q9 => by rw [y2 q q9, v2 q q6 q7 q8]
        have u17_20 : ∀ k, k ≠ 3 → u17 20 k = up2 μ25 20 0 0 20 k := fun k hk => by rw [u17q 20 (by decide) (by decide) (by decide) (by decide), b7 k hk]
        have k15 : u17 20 15 = v := by rw [u17_20 15 (by decide), up2_self, pk_un (by decide)]; exact hv.symm
        have k16 : u17 20 16 = nI j := by rw [u17_20 16 (by decide), up2_self, pk_un (by decide)]; exact w7
        have k18 : u17 20 18 = nI c := by rw [u17_20 18 (by decide), up2_self, pk_un (by decide)]; exact hc3
        have k10 : u17 10 = μ25 10 := by rw [u17q 10 (by decide) (by decide) (by decide) (by decide), b6 10 (by decide) (by decide), up2_ne (by decide)]
        have k0 : u17 0 = μ 0 := by rw [u17q 0 (by decide) (by decide) (by decide) (by decide), f15]
        obtain ⟨u23, hu23⟩ : ∃ u23, u23 = up2 (up2 (up2 u17 0 (199 + b) v) 0 (231 + b) (nI j)) 0 (263 + b) 0 := ⟨_, rfl⟩
        have u23q : ∀ q, q ≠ 0 → u23 q = u17 q := fun q h => by rw [hu23, up2_ne h, up2_ne h, up2_ne h]
        have u23_0 : u23 0 = upd (upd (upd (μ 0) (199 + b) v) (231 + b) (nI j)) (263 + b) 0 := by rw [hu23, up2_self, up2_self, up2_self, k0]
        obtain ⟨u9, z1, z2, z3⟩ := m_ldL (B := B) (b := b) (c := c) hc1 (by omega) c 80 0 u23 (by omega) (by omega) (by rw [u23q 20 (by decide)]; exact k18) (by rw [u23_0, pk_un (by omega), pk_un (by omega), pk_un (by omega)]; exact m6) m3
        obtain ⟨uA, huA⟩ : ∃ uA, uA = up2 u9 20 7 0 := ⟨_, rfl⟩
        have uAq : ∀ q, q ≠ 0 → q ≠ 20 → uA q = u17 q := fun q h0 h20 => by rw [huA, up2_ne h20, z2 q h0, u23q q h0]
        -- the new row
        have eN : ∀ i, uA 0 i = if 71 + (b * B + 1) ≤ i ∧ i < 71 + (b * B + 1) + c then μ25 10 (i - (71 + (b * B + 1))) else upd (upd (upd (μ 0) (199 + b) v) (231 + b) (nI j)) (263 + b) 0 i := fun i => by
          rw [huA, up2_ne (by decide), z3 i, u23q 10 (by decide), k10, u23_0, Nat.add_zero]
        have eS : ∀ i, i < 71 → uA 0 i = μ 0 i := fun i hi => by rw [eN, if_neg (by omega), pk_un (by omega), pk_un (by omega), pk_un (by omega)]
        have eC : ∀ i, i < 64 → uA 0 (71 + i) = if b * B + 1 ≤ i ∧ i < eo M B b then μ25 10 (i - (b * B + 1)) else μ 0 (71 + i) := fun i hi => by
          rw [eN]
          by_cases q : b * B + 1 ≤ i ∧ i < eo M B b
          · rw [if_pos (by omega), if_pos q, show 71 + i - (71 + (b * B + 1)) = i - (b * B + 1) by omega]
          · rw [if_neg (by omega), if_neg q, pk_un (by omega), pk_un (by omega), pk_un (by omega)]
        have eG : ∀ i, i < 64 → uA 0 (135 + i) = μ 0 (135 + i) := fun i hi => by rw [eN, if_neg (by omega), pk_un (by omega), pk_un (by omega), pk_un (by omega)]
        have eF : ∀ i, i < 32 → uA 0 (199 + i) = (if i = b then v else μ 0 (199 + i)) ∧ uA 0 (231 + i) = (if i = b then nI j else μ 0 (231 + i)) ∧ uA 0 (263 + i) = (if i = b then 0 else μ 0 (263 + i)) := fun i hi => by
          have n1' : uA 0 (199 + i) = upd (upd (upd (μ 0) (199 + b) v) (231 + b) (nI j)) (263 + b) 0 (199 + i) := by rw [eN, if_neg (by omega)]
          have n2' : uA 0 (231 + i) = upd (upd (upd (μ 0) (199 + b) v) (231 + b) (nI j)) (263 + b) 0 (231 + i) := by rw [eN, if_neg (by omega)]
          have n3' : uA 0 (263 + i) = upd (upd (upd (μ 0) (199 + b) v) (231 + b) (nI j)) (263 + b) 0 (263 + i) := by rw [eN, if_neg (by omega)]
          rw [n1', n2', n3']
          by_cases q : i = b
          · rw [if_pos q, if_pos q, if_pos q, q]
            refine ⟨?_, ?_, ?_⟩
            · rw [pk_un (by omega), pk_un (by omega), pk_us]
            · rw [pk_un (by omega), pk_us]
            · rw [pk_us]
          · rw [if_neg q, if_neg q, if_neg q]
            refine ⟨?_, ?_, ?_⟩
            · rw [pk_un (by omega), pk_un (by omega), pk_un (by omega)]
            · rw [pk_un (by omega), pk_un (by omega), pk_un (by omega)]
            · rw [pk_un (by omega), pk_un (by omega), pk_un (by omega)]
        have hCd : CdS (uA 0) M B := by
          refine ⟨fun i hi => ?_, fun i hi => ?_⟩
          · obtain ⟨q1, q2, q3⟩ := eF i (b32 m2 m3 hi)
            rw [q1, q2, q3]
            by_cases q : i = b
            · rw [if_pos q, if_pos q, if_pos q]
              exact ⟨w5, ⟨j, hj, rfl⟩, Or.inl rfl⟩
            · rw [if_neg q, if_neg q, if_neg q]
              exact hd.1 i hi
          · rw [eC i (by omega)]
            by_cases q : b * B + 1 ≤ i ∧ i < eo M B b
            · rw [if_pos q]
              have hqq := kq (B := B) (b := b) (k := i) (by omega) (by omega)
              exact ⟨fun z => by omega, fun _ => (hc4 (i - (b * B + 1)) (by omega)).2⟩
            · rw [if_neg q]
              exact hd.2 i hi
        have hCo : Co s20 10 (uA 0) M B := by
          refine ⟨by rw [tq 10 (by decide) (by decide) (by decide) (by decide) (by decide) (by decide)]; exact ho.1, fun i hi => ?_, fun i hi => ?_⟩
          · obtain ⟨q1, q2, q3⟩ := eF i (b32 m2 m3 hi)
            show s20 13 i = _ ∧ s20 14 i = _ ∧ s20 15 i = _
            rw [q1, q2, q3, t13, t14, t15]
            by_cases q : i = b
            · rw [if_pos q, if_pos q, if_pos q, q, pk_us, pk_us, pk_us]
              exact ⟨rfl, rfl, rfl⟩
            · rw [if_neg q, if_neg q, if_neg q, pk_un q, pk_un q, pk_un q]
              exact ho.2.1 i hi
          · show s20 16 i = _ ∧ s20 17 i = _
            rw [t16 i, eC i (by omega), eG i (by omega), tq 17 (by decide) (by decide) (by decide) (by decide) (by decide) (by decide)]
            refine ⟨?_, (ho.2.2 i hi).2⟩
            by_cases q : b * B + 1 ≤ i ∧ i < eo M B b
            · rw [if_pos q, if_pos q]
              exact (hc4 (i - (b * B + 1)) (by omega)).1
            · rw [if_neg q, if_neg q]
              exact (ho.2.2 i hi).1
        have hBa : Ba s20 10 (uA 0) M B := by
          refine ⟨by rw [tq 10 (by decide) (by decide) (by decide) (by decide) (by decide) (by decide)]; exact ha.1, ?_, ?_, ?_, fun i hi => ?_⟩
          · rw [tq 12 (by decide) (by decide) (by decide) (by decide) (by decide) (by decide)]; exact ha.2.1
          · rw [tq 12 (by decide) (by decide) (by decide) (by decide) (by decide) (by decide), eS 3 (by decide)]; exact ha.2.2.1
          · rw [tq 12 (by decide) (by decide) (by decide) (by decide) (by decide) (by decide), eS 4 (by decide)]; exact ha.2.2.2.1
          · rw [tq 11 (by decide) (by decide) (by decide) (by decide) (by decide) (by decide), eS (7 + i) (by omega)]; exact ha.2.2.2.2 i hi
        obtain ⟨s22, d1, d2, d3, d4⟩ := x_dec (i0 := 1) m2 m3 m4 hCd hBa hCo (by rw [hs20, up2_self, pk_us])
        have d2' : ∀ q, q ≠ 84 → q ≠ 89 → q ≠ 90 → q ≠ 91 → s22 q = s20 q := fun q q1 q2 q3 q4 => d2 q (by unfold dR; omega) q2
        have e87 : s22 87 = s14 87 := by rw [d2' 87 (by decide) (by decide) (by decide) (by decide), tr 87 (by decide) (by decide) (by decide), b5 87 (by decide) (by decide) (by decide) (by decide)]
        have TA : Tbl uA := fun n hn => by rw [uAq 5 (by decide) (by decide), u17q 5 (by decide) (by decide) (by decide) (by decide)]; exact rT n hn
        obtain ⟨uB, y4, y5, y6, _, _⟩ := m_dec TA m2 m3 m4 (by rw [eS 0 (by decide)]; exact m5) (by rw [eS 2 (by decide)]; exact m6) hCd
        have hX : fX6_load (nI b) σ = some (.inl (cntN (md (uA 0) B) (md (μ 0) B) M 0 0), s22) := by
          rw [hXt, x1, bd_s, b1, bd_s, hpb, bd_s, nm_s, nm_s]
          simp only [Nat.mul_one, Nat.mul_zero, Nat.add_zero, Nat.reduceAdd]
          rw [← hs20, d1, bd_s, show s22 10 0 = nI M by rw [d2' 10 (by decide) (by decide) (by decide) (by decide)]; exact hBa.1]
          unfold fX2_othersThan
          rw [show fX2_othersThan_L5 1 0 (nI M) 80 0 0 s22 = fX2_othersThan_L5 1 0 (nI M) 80 0 (nI 0) s22 from by rw [← n0], x_otL m2 M 80 0 0 (by omega) (by omega), bd_s]
          refine congrArg some (congrArg (fun z => (Sum.inl z, s22)) (cntN_congr _ _ _ (fun i _ hi => ?_)))
          exact ⟨(d3 i (by omega)).1, by rw [e87]; exact (x3 i (by omega)).1⟩
        have hM : fX7_load (nI b) μ = some (cntN (md (uA 0) B) (md (μ 0) B) M 0 0, uB) := by
          rw [hME]
          unfold fX7_load_b52 fX7_decodesBefore
          rw [m_holds0, bd2_s, if_neg n10, b2, bd_s, v1, bd_s]
          rw [show fX7_decodesBefore_L6 80 0 u1 = fX7_decodesBefore_L6 80 (nI 0) u1 from by rw [← n0], y1, bd_s, o199, o231, o263]
          simp only [gi (show 199 + b < 295 by omega) (by decide), gi (show 231 + b < 295 by omega) (by decide), gi (show 263 + b < 295 by omega) (by decide), nm_s]
          rw [nI_clamp (show 199 + b < 2 ^ 31 by omega), nI_clamp (show 231 + b < 2 ^ 31 by omega), nI_clamp (show 263 + b < 2 ^ 31 by omega), k15, up2_ne (show 20 ≠ 0 by decide), k16, ← hu23]
          rw [show fX7_load_L109 (nI b) 80 0 u23 = fX7_load_L109 (nI b) 80 (nI 0) u23 from by rw [← n0], z1, nm_s, ← huA]
          unfold fX7_others
          rw [y4, bd_s]
          rw [show fX7_others_L8 80 0 0 uB = fX7_others_L8 80 0 (nI 0) uB from by rw [← n0], m_otL m2 (by rw [y5 0 (by decide) (by decide) (by decide), eS 0 (by decide)]; exact m5) M 80 0 0 (by omega) (by omega), bd2_s]
          refine congrArg some (congrArg (fun z => (z, uB)) (cntN_congr _ _ _ (fun i _ hi => ⟨y6 i (by omega), ?_⟩)))
          have hiM : i < M := by omega
          rw [y5 9 (by decide) (by decide) (by decide), uAq 9 (by decide) (by decide), y3 i, if_pos ⟨Nat.zero_le i, hiM⟩, v3 i hiM, f15]
        have uBq : ∀ q, q ≠ 0 → q ≠ 6 → q ≠ 7 → q ≠ 8 → q ≠ 9 → q ≠ 20 → uB q = μ15 q := fun q q0 q6 q7 q8 q9 q20 => by rw [y5 q q6 q7 q8, uAq q q0 q20, u17q q q6 q7 q8 q9]
        have uB0 : uB 0 = uA 0 := y5 0 (by decide) (by decide) (by decide)
        have uB20 : uB 20 = upd (μ15 20) 7 0 := by rw [y5 20 (by decide) (by decide) (by decide), huA, up2_self, z2 20 (by decide), u23q 20 (by decide), u17q 20 (by decide) (by decide) (by decide) (by decide)]
        have hS' := hS
        obtain ⟨_, _, _, _, h9, h10, _⟩ := hS'
        have hSR : SR s20 10 (uA 0) := by
          refine SR.co (M := M) (B := B) ⟨m1, m2, m3, m4, ?_, ?_, ?_, ?_, fun k hk => ?_⟩ ?_ hCd hBa ?_ ?_ hCo
          · rw [eS 0 (by decide)]; exact m5
          · rw [eS 2 (by decide)]; exact m6
          · rw [eS 3 (by decide)]; exact m7
          · rw [eS 4 (by decide)]; exact m8
          · rw [eS (7 + k) (by omega)]; exact m9 k hk
          · rw [eS 1 (by decide)]; exact h1
          · rw [tq 10 (by decide) (by decide) (by decide) (by decide) (by decide) (by decide), eS 5 (by decide)]; exact h9
          · rw [tq 10 (by decide) (by decide) (by decide) (by decide) (by decide) (by decide), eS 6 (by decide)]; exact h10
        refine ⟨_, s22, _, uB, hX, hM, ⟨?_, rfl⟩, b3'.re ?_ ?_ ⟨0, by decide, ?_, ?_, fun k hk => by omega⟩ (Or.inl ?_) (fun q hq => ?_) (uBq 1 (by decide) (by decide) (by decide) (by decide) (by decide) (by decide)) (uBq 2 (by decide) (by decide) (by decide) (by decide) (by decide) (by decide)) (uBq 3 (by decide) (by decide) (by decide) (by decide) (by decide) (by decide)) (uBq 5 (by decide) (by decide) (by decide) (by decide) (by decide) (by decide)) (by rw [uB20, pk_un (by decide)])⟩
        · rw [uB20, pk_un (by decide), b7 0 (by decide), up2_self, pk_us]
        · rw [uB0]
          exact hSR.eqs (EqS.of (fun i hi => d2' _ (by omega) (by omega) (by omega) (by omega)))
        · intro k hk
          show s22 15 k = 0 ∨ s22 15 k = 1
          rw [d2' 15 (by decide) (by decide) (by decide) (by decide), t15]
          by_cases q : k = b
          · rw [q, pk_us]; exact Or.inl rfl
          · rw [pk_un q, ← s16n 15 (by decide) (by decide)]
            exact r3 0 (by decide) k hk
        · rw [d2' 5 (by decide) (by decide) (by decide) (by decide), hs20, up2_ne (by decide), up2_self, pk_us]
          rfl
        · rw [uB20, pk_us]
          rfl
        · rw [d2' 86 (by decide) (by decide) (by decide) (by decide), tr 86 (by decide) (by decide) (by decide)]
          exact b4
        · rw [d2' q (by omega) (by omega) (by omega) (by omega), tr q (by omega) (by omega) (by omega)]
      · have hne : ¬ nI c = nI (eo M B b - b * B - 1) := fun z => hce ((nI_eq (by omega) (by omega)).mp z)
        rw [if_neg hne] at hXt
        exact refuse hXt (fun z => hne (by rw [← hc3]; exact z.2))
  · have hX : fX6_load a1 σ = some (.inr 1, σ) := by
      unfold fX6_load
      rw [x_blk.2 g1, bx_e]
    have g2' : fX7_isBlock a1 μ25 = some 0 := by
      have hS25 : SR σ 10 (μ25 0) := by rw [f25]; exact hS
      rcases blk hS25 a1 with ⟨_, _, _, _, _, _, _, _, _, _, w, _⟩ | ⟨_, w2⟩
      · rw [w] at g1
        cases g1
      · exact w2
    have hM : fX7_load a1 μ = some (0, up2 μ25 20 0 1) := by
      unfold fX7_load fX7_load_b52
      rw [e4, bd_s, g2', bd_s, if_pos rfl, m_holds (by decide), bd2_s, if_pos rfl]
    obtain ⟨t1, t2⟩ := hRm.thr (T := [1, 0]) (e := 1) (k := 1) (r := 0) (by decide) rfl
    exact ⟨_, σ, _, _, hX, hM, t1, t2⟩
