/-! PURE: meanSquare, loudness, digest; all calls together -/
theorem sq_n {x : Int32} (h1 : -4095 ≤ x.toInt) (h2 : x.toInt ≤ 4095) : ∃ n, n ≤ 16769025 ∧ x * x = nI n := by
  have hn : x.toInt.natAbs ≤ 4095 := by omega
  have hm : x.toInt.natAbs * x.toInt.natAbs ≤ 4095 * 4095 := Nat.mul_le_mul hn hn
  have he : ((x.toInt.natAbs * x.toInt.natAbs : Nat) : Int) = x.toInt * x.toInt := by
    rw [Int.natCast_mul]
    exact Int.natAbs_mul_self
  refine ⟨x.toInt.natAbs * x.toInt.natAbs, by omega, Int32.toInt_inj.mp ?_⟩
  rw [Int32.toInt_mul, nI_toInt (by omega), ← he]
  exact Int.bmod_eq_of_le (by omega) (by omega)
theorem sumSq_b {f : Nat → Int32} : ∀ n a k, (∀ i, k ≤ i → i < k + n → -4095 ≤ (f i).toInt ∧ (f i).toInt ≤ 4095) → ∃ e, e ≤ a + n * 16769025 ∧ sumSq f n (nI a) k = nI e := by
  intro n
  induction n with
  | zero => intro a k _; exact ⟨a, by omega, rfl⟩
  | succ n ih =>
    intro a k h
    obtain ⟨s, s1, s2⟩ := sq_n (h k (Nat.le_refl k) (by omega)).1 (h k (Nat.le_refl k) (by omega)).2
    obtain ⟨e, e1, e2⟩ := ih (a + s) (k + 1) (fun i h1 h2 => h i (by omega) (by omega))
    refine ⟨e, by omega, ?_⟩
    rw [sumSq, s2, nI_add]
    exact e2
/-- the whole error, both sides -/
theorem er_core {σ μ : Sg} {dg : Int64} {M B : Nat} (hR : Rl σ μ dg) (hm : MS (μ 0) M B) (h1 : μ 0 1 = 1) : ∃ e σ' μ', e < 2 ^ 31 ∧ fX6_wholeError σ = some (nI e, σ') ∧ fX7_errorOfAll μ = some (nI e, μ') ∧ Qt σ μ σ' μ' := by
  have hR' := hR
  obtain ⟨hS, _⟩ := hR'
  obtain ⟨M', B', hm2, ha, ho, hd⟩ := hS.cod h1
  obtain ⟨rfl, rfl⟩ := hm2.one hm
  have hm' := hm
  obtain ⟨m1, m2, m3, m4, m5, m6, m7, m8, m9, m10⟩ := hm'
  obtain ⟨σ', x1, x2, x3, x4, x5⟩ := x_decR hR hm h1
  obtain ⟨μ', y1, y2, y3, y4, y5, y6⟩ := m_decR (x5 dg) hm h1
  have f0 : μ' 0 = μ 0 := y2 0 (by decide) (by decide) (by decide)
  have ha' : Ba σ' 10 (μ 0) M B := ha.fr (fun q hq => x2 q (Or.inl hq))
  obtain ⟨e, e1, e2⟩ := sumSq_b (f := erD (μ 0) B) M 0 0 (fun i _ hi => by
    have v1 := m9 i (by omega)
    have v2 := md_r m3 hd (i + 1) i (by omega) (show i < M by omega)
    unfold inV at v1 v2
    unfold erD
    rw [i_sub (by omega) (by omega)]
    omega)
  refine ⟨e, σ', μ', by omega, ?_, ?_, fun q hq => x2 q (Or.inl hq), fun q hq => y2 q (by omega) (by omega) (by omega), y2 20 (by decide) (by decide) (by decide), y6⟩
  · unfold fX6_wholeError
    rw [x1, bd_s]
    simp only [Nat.mul_zero, Nat.add_zero]
    rw [show σ' 10 0 = nI M from ha'.1, n0, x_erA (s := μ 0) (B := B) (Nat.le_refl _) m2 (Nat.zero_le _) ha'.2.2.2.2 (fun i hi => (x3 i hi).1), bd_s, Nat.sub_zero, ← e2]
    rfl
  · unfold fX7_errorOfAll
    rw [y1, bd_s, f0, m5, n0, m_erA (s := μ 0) (B := B) (Nat.le_refl _) m2 (Nat.zero_le _) f0 y3, bd_s, Nat.sub_zero, ← e2]
    rfl
theorem mean_core {σ μ : Sg} {dg : Int64} (hR : Rl σ μ dg) : ∃ r σ' μ', fX6_meanSquare σ = some (r, σ') ∧ fX7_mean μ = some (r, μ') ∧ Qt σ μ σ' μ' ∧ Pm r := by
  have hR' := hR
  obtain ⟨hS, _⟩ := hR'
  have n10 : ¬ (1 : Int32) = 0 := by decide
  by_cases h1 : μ 0 1 = 1
  · obtain ⟨M, B, hm, ha, ho, hd⟩ := hS.cod h1
    obtain ⟨e, σ', μ', e1, e2, e3, e4⟩ := er_core hR hm h1
    have hm' := e4.ms hm
    obtain ⟨m1, m2, m3, m4, m5, _⟩ := hm'
    have es : σ' 10 0 = nI M := by rw [e4.1 10 (by decide)]; exact ha.1
    obtain ⟨p1', p2⟩ := mean_P e1 m1 m2
    have p1 : FP.ddiv (FP.i2d (nI e)) (FP.i2d (nI M)) &&& 0x7fffffffffffffff ≤ 0x7ff0000000000000 := p1'
    refine ⟨FP.ddiv (FP.i2d (nI e)) (FP.i2d (nI M)), σ', μ', ?_, ?_, e4, p2⟩
    · unfold fX6_meanSquare
      rw [x_isC hS, if_pos h1, bd_s, if_neg n10, e2, bd2_s]
      simp only [Nat.mul_zero, Nat.add_zero]
      rw [es]
      exact gd_of p1 _
    · unfold fX7_mean
      rw [m_isC, if_pos h1, bd_s, if_neg n10, e3, bd2_s, m5]
      exact gd_of p1 _
  · refine ⟨0, σ, μ, ?_, ?_, Qt.rf hR, Pm_0⟩
    · unfold fX6_meanSquare
      rw [x_isC hS, if_neg h1, bd_s, if_pos rfl]
      rfl
    · unfold fX7_mean
      rw [m_isC, if_neg h1, bd_s, if_pos rfl]
      rfl
theorem x_lqL {σ : Sg} {M : Nat} {x1 : Int32} (hM1 : M ≤ 64) (hM : σ 10 0 = nI M) : ∀ n f k acc, n < f → k + n = M → fX6_loudness_L29 f x1 acc (nI k) σ = gd ((FP.fdiv (FP.i2f (sumSq (σ 11) n acc k)) (FP.i2f x1)) &&& 0x7fffffff ≤ 0x7f800000) (some ((FP.fdiv (FP.i2f (sumSq (σ 11) n acc k)) (FP.i2f x1)), σ)) := by
  intro n
  induction n with
  | zero =>
    intro f k acc hf hk
    obtain ⟨f, rfl⟩ := fu1 hf
    rw [fX6_loudness_L29]
    simp only [Nat.mul_zero, Nat.add_zero]
    rw [hM, if_pos (nI_le (by omega) (by omega))]
    rfl
  | succ n ih =>
    intro f k acc hf hk
    obtain ⟨f, rfl⟩ := fu1 hf
    rw [fX6_loudness_L29]
    simp only [Nat.mul_zero, Nat.add_zero]
    rw [hM, if_neg (nI_ge (by omega) (by omega)), gi (show k < 64 by omega) (by decide), gi (show k < 64 by omega) (by decide), nI_clamp (show k < 2 ^ 31 by omega)]
    simp only [nm_s, nI_1, Nat.reduceAdd]
    exact ih f (k + 1) _ (by omega) (by omega)
theorem m_lqL {μ : Sg} {M : Nat} {x1 : Int32} (hM1 : M ≤ 64) (hM : μ 0 0 = nI M) : ∀ n f k acc, n < f → k + n = M → fX7_loud_L18 f x1 acc (nI k) μ = (if x1 = 0 then (some (3212836864, μ)) else gd ((FP.fdiv (FP.i2f (sumSq (fun k => μ 0 (7 + k)) n acc k)) (FP.i2f x1)) &&& 0x7fffffff ≤ 0x7f800000) (some ((FP.fdiv (FP.i2f (sumSq (fun k => μ 0 (7 + k)) n acc k)) (FP.i2f x1)), μ))) := by
  intro n
  induction n with
  | zero =>
    intro f k acc hf hk
    obtain ⟨f, rfl⟩ := fu1 hf
    rw [fX7_loud_L18, hM, if_pos (nI_le (by omega) (by omega))]
    rfl
  | succ n ih =>
    intro f k acc hf hk
    obtain ⟨f, rfl⟩ := fu1 hf
    rw [fX7_loud_L18, hM, if_neg (nI_ge (by omega) (by omega)), o7, gi (show 7 + k < 295 by omega) (by decide), nI_clamp (show 7 + k < 2 ^ 31 by omega)]
    simp only [fX7_square, bd_s, nm_s, nI_1]
    exact ih f (k + 1) _ (by omega) (by omega)
theorem loud_core {σ μ : Sg} {dg : Int64} (hR : Rl σ μ dg) : ∃ r σ' μ', fX6_loudness σ = some (r, σ') ∧ fX7_loud μ = some (r, μ') ∧ Qt σ μ σ' μ' ∧ Pl32 r := by
  have hR' := hR
  obtain ⟨hS, _⟩ := hR'
  have n10 : ¬ (1 : Int32) = 0 := by decide
  by_cases h1 : μ 0 1 = 1
  · obtain ⟨M, B, hm, ha, ho, hd⟩ := hS.cod h1
    obtain ⟨e, σ', μ', e1, e2, e3, e4⟩ := er_core hR hm h1
    have hm' := e4.ms hm
    obtain ⟨m1, m2, m3, m4, m5, m6, m7, m8, m9, _⟩ := hm'
    have es : σ' 10 0 = nI M := by rw [e4.1 10 (by decide)]; exact ha.1
    have f0 : μ' 0 = μ 0 := e4.2.1 0 (by decide)
    obtain ⟨s, s1, s2⟩ := sumSq_b (f := fun k => μ' 0 (7 + k)) M 0 0 (fun i _ hi => by
      have v1 := m9 i (by omega)
      unfold inV at v1
      show -4095 ≤ (μ' 0 (7 + i)).toInt ∧ (μ' 0 (7 + i)).toInt ≤ 4095
      omega)
    have hs6 : sumSq (σ' 11) M 0 0 = nI s := by
      rw [← s2]
      refine sumSq_congr _ _ _ (fun i _ hi => ?_)
      rw [e4.1 11 (by decide), f0]
      exact ha.2.2.2.2 i (by omega)
    have hs7 : sumSq (fun k => μ' 0 (7 + k)) M 0 0 = nI s := s2
    have hX : fX6_loudness σ = if nI e = 0 then some (3212836864, σ') else gd ((FP.fdiv (FP.i2f (nI s)) (FP.i2f (nI e))) &&& 0x7fffffff ≤ 0x7f800000) (some ((FP.fdiv (FP.i2f (nI s)) (FP.i2f (nI e))), σ')) := by
      unfold fX6_loudness
      rw [x_isC hS, if_pos h1, bd_s, if_neg n10, e2, bd2_s]
      rw [show fX6_loudness_L29 80 (nI e) 0 0 σ' = fX6_loudness_L29 80 (nI e) 0 (nI 0) σ' from by rw [← n0], x_lqL m2 es M 80 0 0 (by omega) (by omega), hs6]
    have hM : fX7_loud μ = if nI e = 0 then some (3212836864, μ') else gd ((FP.fdiv (FP.i2f (nI s)) (FP.i2f (nI e))) &&& 0x7fffffff ≤ 0x7f800000) (some ((FP.fdiv (FP.i2f (nI s)) (FP.i2f (nI e))), μ')) := by
      unfold fX7_loud
      rw [m_isC, if_pos h1, bd_s, if_neg n10, e3, bd2_s]
      rw [show fX7_loud_L18 80 (nI e) 0 0 μ' = fX7_loud_L18 80 (nI e) 0 (nI 0) μ' from by rw [← n0], m_lqL m2 m5 M 80 0 0 (by omega) (by omega), hs7]
    by_cases q : nI e = 0
    · rw [if_pos q] at hX hM
      exact ⟨_, σ', μ', hX, hM, e4, Pl_1⟩
    · rw [if_neg q] at hX hM
      have he0 : 0 < e := by
        rcases Nat.eq_zero_or_pos e with z | z
        · rw [z] at q
          exact absurd rfl q
        · exact z
      obtain ⟨p1', p2⟩ := loud_P (s := s) (e := e) (by omega) he0 e1
      have p1 : FP.fdiv (FP.i2f (nI s)) (FP.i2f (nI e)) &&& 0x7fffffff ≤ 0x7f800000 := p1'
      exact ⟨_, σ', μ', hX.trans (gd_of p1 _), hM.trans (gd_of p1 _), e4, p2⟩
  · refine ⟨0, σ, μ, ?_, ?_, Qt.rf hR, Pl_0⟩
    · unfold fX6_loudness
      rw [x_isC hS, if_neg h1, bd_s, if_pos rfl]
      rfl
    · unfold fX7_loud
      rw [m_isC, if_neg h1, bd_s, if_pos rfl]
      rfl
theorem op_meanSquare : Op_meanSquare Rl := by
  intro σ μ dg hR
  obtain ⟨r, σ', μ', e1, e2, e3, e4⟩ := mean_core (hR.th 0 dg)
  refine ⟨r, σ', μ', e1, ?_, e4.1, e3.2.2.2 dg⟩
  unfold fX7_meanSquare
  rw [nm_s, e2, bd2_s]
theorem op_loudness : Op_loudness Rl := by
  intro σ μ dg hR
  obtain ⟨r, σ', μ', e1, e2, e3, e4⟩ := loud_core (hR.th 0 dg)
  refine ⟨r, σ', μ', e1, ?_, e4.1.1, e4.1.2, e3.2.2.2 dg⟩
  unfold fX7_loudness
  rw [nm_s, e2, bd2_s]
theorem dg_T {M B : Nat} : ∀ n f g j x (σ μ : Sg) (dg : Int64), n < f → n < g → j + n = 3 → Rl σ μ dg → MS (μ 0) M B → ∃ r σ' μ', fX6_digest_L31 f x (nI j) σ = some (r, σ') ∧ fX7_digest_L38 g (nI j) μ x = some (r, μ', r) ∧ ∀ dg', Rl σ' μ' dg' := by
  intro n
  induction n with
  | zero =>
    intro f g j x σ μ dg hf hg hj hR hm
    obtain ⟨f, rfl⟩ := fu1 hf
    obtain ⟨g, rfl⟩ := fu1 hg
    obtain rfl : j = 3 := by omega
    obtain ⟨xa, xb, σa, σb, μb, a1, a2, a3, a4⟩ := dg_wave (x := x) hR hm
    obtain ⟨r, σc, μc, b1, b2, b3, _, v, b4, b5⟩ := mean_core (a4.2.2.2 dg)
    obtain ⟨r2, σd, μd, c1, c2, c3, _, w, c4, c5⟩ := loud_core (b3.2.2.2 dg)
    obtain ⟨x', d1, d2⟩ := dg_end (x := 31 * (31 * xb + v) + w.toInt64) (c3.2.2.2 dg)
    refine ⟨x', σd, μd, ?_, ?_, c3.2.2.2⟩
    · rw [fX6_digest_L31, if_pos (show (3 : Int32) ≤ nI 3 by decide), a1, bd2_s, a2, bd2_s, b1, bd2_s, b4, bd_s, x_mix, bd_s, c1, bd2_s, c4, bd_s, x_mix, bd_s]
      exact d1
    · rw [fX7_digest_L38, if_pos (show (3 : Int32) ≤ nI 3 by decide), a3, bd2_s, b2, bd2_s, b5, bd_s, m_dig, bd_s, c2, bd2_s, c5, bd_s, m_dig, bd_s]
      exact d2
  | succ n ih =>
    intro f g j x σ μ dg hf hg hj hR hm
    obtain ⟨f, rfl⟩ := fu1 hf
    obtain ⟨g, rfl⟩ := fu1 hg
    have hR' := hR
    obtain ⟨⟨M', B', hm2, ha, _⟩, _⟩ := hR'
    have hsj := set_eq ha hm2 j (by omega)
    obtain ⟨r, σ', μ', e1, e2, e3⟩ := ih f g (j + 1) (31 * x + (μ 0 (2 + j)).toInt64) σ μ dg (by omega) (by omega) (by omega) hR hm
    refine ⟨r, σ', μ', ?_, ?_, e3⟩
    · rw [fX6_digest_L31, if_neg (show ¬ (3 : Int32) ≤ nI j from nI_ge (b := 3) (by omega) (by decide)), gi (show j < 3 by omega) (by decide), nI_clamp (show j < 2 ^ 31 by omega)]
      simp only [Nat.mul_zero, Nat.add_zero, Nat.reduceAdd]
      rw [hsj, x_mix, bd_s, nm_s, nI_1]
      exact e1
    · rw [fX7_digest_L38, if_neg (show ¬ (3 : Int32) ≤ nI j from nI_ge (b := 3) (by omega) (by decide)), o2, gi (show 2 + j < 295 by omega) (by decide), nI_clamp (show 2 + j < 2 ^ 31 by omega), m_dig, bd_s, nm_s, nI_1]
      exact e2
theorem dg_C {M B : Nat} : ∀ n f g w x (σ μ : Sg) (dg : Int64), n < f → n < g → w + n = 12 → Rl σ μ dg → MS (μ 0) M B → ∃ r σ' μ', fX6_digest_L6 f x (nI w) σ = some (r, σ') ∧ fX7_digest_L14 g (nI w) μ x = some (r, μ', r) ∧ ∀ dg', Rl σ' μ' dg' := by
  intro n
  induction n with
  | zero =>
    intro f g w x σ μ dg hf hg hw hR hm
    obtain ⟨f, rfl⟩ := fu1 hf
    obtain ⟨g, rfl⟩ := fu1 hg
    obtain rfl : w = 12 := by omega
    rw [fX6_digest_L6, if_pos (show (12 : Int32) ≤ nI 12 by decide), fX7_digest_L14, if_pos (show (12 : Int32) ≤ nI 12 by decide), n0]
    exact dg_T 3 80 80 0 x σ μ dg (by decide) (by decide) (by decide) hR hm
  | succ n ih =>
    intro f g w x σ μ dg hf hg hw hR hm
    obtain ⟨f, rfl⟩ := fu1 hf
    obtain ⟨g, rfl⟩ := fu1 hg
    obtain ⟨r, σ1, μ1, e1, e2, e3⟩ := ct_core (w := w) hR hm (by omega)
    rw [fX6_digest_L6, if_neg (show ¬ (12 : Int32) ≤ nI w from nI_ge (b := 12) (by omega) (by decide)), e1, bo_s, x_mix, bd_s, nm_s, nI_1, fX7_digest_L14, if_neg (show ¬ (12 : Int32) ≤ nI w from nI_ge (b := 12) (by omega) (by decide)), e2, bd2_s, m_dig, bd_s, nm_s, nI_1]
    exact ih f g (w + 1) (31 * x + r.toInt64) σ1 μ1 dg (by omega) (by omega) (by omega) (e3.2.2.2 dg) (e3.ms hm)
theorem op_digest : Op_digest Rl := by
  intro σ μ dg hR
  have hR1 := hR.th 0 dg
  have hR1' := hR1
  obtain ⟨⟨M, B, hm, _⟩, _⟩ := hR1'
  obtain ⟨r, σ', μ', e1, e2, e3⟩ := dg_C (M := M) (B := B) 12 80 80 0 3329 σ (up2 μ 20 0 0) dg (by decide) (by decide) (by decide) hR1 hm
  refine ⟨r, σ', μ', r, ?_, ?_, e3 r⟩
  · unfold fX6_digest
    rw [n0]
    exact e1
  · unfold fX7_digest
    rw [nm_s, nm_s]
    rw [show fX7_digest_L14 80 0 (up2 μ 20 0 0) 3329 = fX7_digest_L14 80 (nI 0) (up2 μ 20 0 0) 3329 from by rw [← n0], e2]
theorem ops_ok : OpsOk Rl := ⟨op_wave, op_sample, op_add, op_take, op_set, op_code, op_lose, op_spoil, op_append, op_clearBuffer, op_firstError, op_load, op_write, op_keep, op_goBack, op_undo, op_step, op_sampleOf, op_blockOf, op_count, op_setting, op_ifCoded, op_ifBlock, op_bestStep, op_ifSpoiled, op_meanSquare, op_loudness, op_digest⟩
