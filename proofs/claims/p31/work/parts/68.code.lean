/-! PURE: coding a wave, both sides side by side -/
def Fa (σ μ : Sg) (M B : Nat) : Prop := 1 ≤ M ∧ M ≤ 64 ∧ 2 ≤ B ∧ B ≤ 16 ∧ σ 10 0 = nI M ∧ σ 12 0 = nI B ∧ μ 0 0 = nI M ∧ μ 0 2 = nI B ∧ σ 12 1 = μ 0 3 ∧ Tbl μ ∧ ∀ i, i < M → σ 11 i = μ 0 (7 + i) ∧ inV (μ 0 (7 + i))
theorem Fa.fr {σ μ σ' μ' : Sg} {M B : Nat} (h : Fa σ μ M B) (h10 : σ' 10 0 = σ 10 0) (h11 : σ' 11 = σ 11) (h12 : σ' 12 = σ 12) (hm : ∀ i, i < 71 → μ' 0 i = μ 0 i) (h5 : μ' 5 = μ 5) : Fa σ' μ' M B := by
  obtain ⟨a1, a2, a3, a4, a5, a6, a7, a8, a9, a10, a11⟩ := h
  refine ⟨a1, a2, a3, a4, h10.trans a5, by rw [h12]; exact a6, by rw [hm 0 (by decide)]; exact a7, by rw [hm 2 (by decide)]; exact a8, by rw [h12, hm 3 (by decide)]; exact a9, fun n hn => by rw [h5]; exact a10 n hn, fun i hi => ?_⟩
  rw [h11, hm (7 + i) (by omega)]
  exact a11 i hi
theorem xm_cbL {M B b : Nat} (hb : b * B < M) : ∀ n f k g j (σ μ : Sg), n < f → k + n = eo M B b → b * B < k → j < 49 → inV g → Fa σ μ M B → σ 82 0 = g → σ 82 1 = nI j → ∃ σ' μ' j', fX1_codeBlock_L71 0 (nI b) f (nI k) σ = some σ' ∧ fX7_codes_L84 (nI b) f g (nI j) (nI k) μ = some (nI j', μ') ∧ j' < 49 ∧ σ' 82 1 = nI j' ∧ (∀ q, q ≠ 82 → q ≠ 16 → q ≠ 17 → σ' q = σ q) ∧ (∀ q, q ≠ 0 → μ' q = μ q) ∧ (∀ i, (i < 71 + k ∨ (71 + eo M B b ≤ i ∧ i < 135 + k) ∨ 135 + eo M B b ≤ i) → μ' 0 i = μ 0 i) ∧ (∀ i, (i < k ∨ eo M B b ≤ i) → σ' 16 i = σ 16 i ∧ σ' 17 i = σ 17 i) ∧ (∀ i, k ≤ i → i < eo M B b → σ' 16 i = μ' 0 (71 + i) ∧ σ' 17 i = μ' 0 (135 + i) ∧ c16 (μ' 0 (71 + i))) := by
  intro n
  induction n with
  | zero =>
    intro f k g j σ μ hf hk hbk hj hg F w0 w1
    obtain ⟨f, rfl⟩ := fu1 hf
    obtain ⟨a1, a2, a3, a4, a5, a6, a7, a8, a9, a10, a11⟩ := F
    have he1 : eo M B b ≤ M := Nat.min_le_left _ _
    rw [fX1_codeBlock_L71, x_eo a2 a4 a5 a6 hb, bd_s, if_pos (nI_le (show eo M B b ≤ k by omega) (by omega)), fX7_codes_L84, m_eo a2 a4 a7 a8 hb, bd_s, if_pos (nI_le (show eo M B b ≤ k by omega) (by omega))]
    exact ⟨σ, μ, j, rfl, rfl, hj, w1, fun _ _ _ _ => rfl, fun _ _ => rfl, fun _ _ => rfl, fun _ _ => ⟨rfl, rfl⟩, fun i h1 h2 => by omega⟩
  | succ n ih =>
    intro f k g j σ μ hf hk hbk hj hg F w0 w1
    obtain ⟨f, rfl⟩ := fu1 hf
    have F' := F
    obtain ⟨a1, a2, a3, a4, a5, a6, a7, a8, a9, a10, a11⟩ := F'
    have he1 : eo M B b ≤ M := Nat.min_le_left _ _
    have hk64 : k < 64 := by omega
    obtain ⟨v1, v2⟩ := a11 k (by omega)
    obtain ⟨c, hc⟩ : ∃ c, c = cdf g j (μ 0 (7 + k)) := ⟨_, rfl⟩
    have hcr : c16 c := by rw [hc]; exact cdf_r _ _ _
    have hX : fX1_codeBlock_L71 0 (nI b) (f + 1) (nI k) σ = fX1_codeBlock_L71 0 (nI b) f (nI (k + 1)) (up2 (up2 (wk σ 0 (nxg g j c) (nxn j c)) 16 k c) 17 k (nxg g j c)) := by
      rw [fX1_codeBlock_L71, x_eo a2 a4 a5 a6 hb, bd_s, if_neg (nI_ge (show k < eo M B b by omega) (by omega)), gi hk64 (by decide), nI_clamp (show k < 2 ^ 31 by omega)]
      simp only [Nat.mul_zero, Nat.add_zero, Nat.reduceAdd]
      rw [x_code 0 j _ σ hj w1, bd_s, v1]
      simp only [Nat.add_zero]
      rw [w0, ← hc, x_follow 0 j _ σ hj w1, bd_s]
      simp only [Nat.add_zero]
      rw [w0, gj hk64 (by decide), nm_s, gj hk64 (by decide), nm_s, nm_s, nI_1, up2_ne (show 82 ≠ 16 by decide), show wk σ 0 (nxg g j c) (nxn j c) 82 0 = nxg g j c from wk_0 σ 0 _ _]
    have hM : fX7_codes_L84 (nI b) (f + 1) g (nI j) (nI k) μ = fX7_codes_L84 (nI b) f (nxg g j c) (nI (nxn j c)) (nI (k + 1)) (up2 (up2 μ 0 (71 + k) c) 0 (135 + k) (nxg g j c)) := by
      rw [fX7_codes_L84, m_eo a2 a4 a7 a8 hb, bd_s, if_neg (nI_ge (show k < eo M B b by omega) (by omega)), o7, o71, o135, gi (show 7 + k < 295 by omega) (by decide), nI_clamp (show 7 + k < 2 ^ 31 by omega), m_code a10 hj hg v2, bd_s, ← hc, m_guess a10 hj, bd_s, m_num hj, bd_s, gi (show 71 + k < 295 by omega) (by decide), nI_clamp (show 71 + k < 2 ^ 31 by omega), nm_s, gi (show 135 + k < 295 by omega) (by decide), nI_clamp (show 135 + k < 2 ^ 31 by omega), nm_s, nm_s, nI_1]
    obtain ⟨σ2, hσ2⟩ : ∃ σ2, σ2 = up2 (up2 (wk σ 0 (nxg g j c) (nxn j c)) 16 k c) 17 k (nxg g j c) := ⟨_, rfl⟩
    obtain ⟨μ2, hμ2⟩ : ∃ μ2, μ2 = up2 (up2 μ 0 (71 + k) c) 0 (135 + k) (nxg g j c) := ⟨_, rfl⟩
    rw [← hσ2] at hX
    rw [← hμ2] at hM
    have s1 : ∀ q, q ≠ 82 → q ≠ 16 → q ≠ 17 → σ2 q = σ q := fun q h1 h2 h3 => by rw [hσ2, up2_ne h3, up2_ne h2, wk_ne (by omega)]
    have s82 : σ2 82 = wk σ 0 (nxg g j c) (nxn j c) 82 := by rw [hσ2, up2_ne (by decide), up2_ne (by decide)]
    have s16 : σ2 16 = upd (σ 16) k c := by rw [hσ2, up2_ne (by decide), up2_self, wk_ne (by decide)]
    have s17 : σ2 17 = upd (σ 17) k (nxg g j c) := by rw [hσ2, up2_self, up2_ne (by decide), wk_ne (by decide)]
    have u1 : ∀ q, q ≠ 0 → μ2 q = μ q := fun q h => by rw [hμ2, up2_ne h, up2_ne h]
    have u0 : μ2 0 = upd (upd (μ 0) (71 + k) c) (135 + k) (nxg g j c) := by rw [hμ2, up2_self, up2_self]
    obtain ⟨σ', μ', j', d1, d2, d3, d4, d5, d6, d7, d8, d9⟩ := ih f (k + 1) (nxg g j c) (nxn j c) σ2 μ2 (by omega) (by omega) (by omega) (nxn_lt _ hj) (nxg_r _ _ _) (F.fr (by rw [s1 10 (by decide) (by decide) (by decide)]) (s1 11 (by decide) (by decide) (by decide)) (s1 12 (by decide) (by decide) (by decide)) (fun i hi => by rw [u0, pk_un (by omega), pk_un (by omega)]) (u1 5 (by decide))) (by rw [s82]; exact wk_0 σ 0 _ _) (by rw [s82]; exact wk_1 σ 0 _ _)
    refine ⟨σ', μ', j', hX.trans d1, hM.trans d2, d3, d4, fun q h1 h2 h3 => by rw [d5 q h1 h2 h3, s1 q h1 h2 h3], fun q h => by rw [d6 q h, u1 q h], fun i hi => ?_, fun i hi => ?_, fun i h1 h2 => ?_⟩
    · rw [d7 i (by omega), u0, pk_un (by omega), pk_un (by omega)]
    · obtain ⟨e1, e2⟩ := d8 i (by omega)
      rw [e1, e2, s16, s17, pk_un (by omega), pk_un (by omega)]
      exact ⟨rfl, rfl⟩
    · by_cases h : i = k
      · subst h
        obtain ⟨e1, e2⟩ := d8 i (by omega)
        rw [e1, e2, d7 (71 + i) (by omega), d7 (135 + i) (by omega), s16, s17, u0, pk_us, pk_us, pk_us, pk_un (by omega), pk_us]
        exact ⟨rfl, rfl, hcr⟩
      · exact d9 i (by omega) h2
theorem xm_cb {M B b j : Nat} {σ μ : Sg} (hb : b * B < M) (hj : j < 49) (F : Fa σ μ M B) : ∃ σ' μ' j', fX1_codeBlock 0 (nI b) (nI j) σ = some σ' ∧ fX7_codes (nI b) (nI j) μ = some (nI j', μ') ∧ j' < 49 ∧ σ' 82 1 = nI j' ∧ (∀ q, q ≠ 82 → (q < 13 ∨ 18 ≤ q) → σ' q = σ q) ∧ (∀ q, q ≠ 0 → μ' q = μ q) ∧ (∀ i, i < 71 → μ' 0 i = μ 0 i) ∧ (∀ i, i < 32 → i ≠ b → σ' 13 i = σ 13 i ∧ σ' 14 i = σ 14 i ∧ σ' 15 i = σ 15 i ∧ μ' 0 (199 + i) = μ 0 (199 + i) ∧ μ' 0 (231 + i) = μ 0 (231 + i) ∧ μ' 0 (263 + i) = μ 0 (263 + i)) ∧ (σ' 13 b = μ' 0 (199 + b) ∧ inV (μ' 0 (199 + b)) ∧ σ' 14 b = nI j ∧ μ' 0 (231 + b) = nI j ∧ σ' 15 b = 0 ∧ μ' 0 (263 + b) = 0) ∧ (∀ i, i < b * B → σ' 16 i = σ 16 i ∧ σ' 17 i = σ 17 i ∧ μ' 0 (71 + i) = μ 0 (71 + i) ∧ μ' 0 (135 + i) = μ 0 (135 + i)) ∧ (∀ i, b * B ≤ i → i < eo M B b → σ' 16 i = μ' 0 (71 + i) ∧ σ' 17 i = μ' 0 (135 + i) ∧ (i % B = 0 → μ' 0 (71 + i) = -1) ∧ (i % B ≠ 0 → c16 (μ' 0 (71 + i)))) := by
  have F' := F
  obtain ⟨a1, a2, a3, a4, a5, a6, a7, a8, a9, a10, a11⟩ := F'
  have hb32 := b32 a2 a3 hb
  have he1 : eo M B b ≤ M := Nat.min_le_left _ _
  have he2 : b * B < eo M B b := by unfold eo; omega
  have he3 : eo M B b ≤ b * B + B := Nat.min_le_right _ _
  obtain ⟨v1, v2⟩ := a11 (b * B) hb
  obtain ⟨v, hv⟩ : ∃ v, v = μ 0 (7 + b * B) := ⟨_, rfl⟩
  rw [← hv] at v1 v2
  obtain ⟨σ2, hσ2⟩ : ∃ σ2, σ2 = wk (up2 (up2 (up2 (up2 (up2 σ 13 b v) 14 b (nI j)) 15 b 0) 16 (b * B) (-1)) 17 (b * B) v) 0 v j := ⟨_, rfl⟩
  obtain ⟨μ2, hμ2⟩ : ∃ μ2, μ2 = up2 (up2 (up2 (up2 (up2 μ 0 (199 + b) v) 0 (231 + b) (nI j)) 0 (263 + b) 0) 0 (71 + b * B) (-1)) 0 (135 + b * B) v := ⟨_, rfl⟩
  have hX : fX1_codeBlock 0 (nI b) (nI j) σ = fX1_codeBlock_L71 0 (nI b) 80 (nI (b * B + 1)) σ2 := by
    unfold fX1_codeBlock
    rw [x_so a6, bd_s]
    simp only [gi (show b * B < 64 by omega) (by decide), gi hb32 (by decide), nm_s, Nat.mul_zero, Nat.add_zero, Nat.reduceAdd]
    rw [nI_clamp (show b * B < 2 ^ 31 by omega), nI_clamp (show b < 2 ^ 31 by omega), v1, x_begin, bd_s, nI_1, hσ2]
  have hM : fX7_codes (nI b) (nI j) μ = fX7_codes_L84 (nI b) 80 v (nI j) (nI (b * B + 1)) μ2 := by
    unfold fX7_codes
    rw [a8, pk_mul, nm_s, o7, o199, o231, o263, o71, o135, gi (show 7 + b * B < 295 by omega) (by decide), nI_clamp (show 7 + b * B < 2 ^ 31 by omega), ← hv, nm_s, gi (show 199 + b < 295 by omega) (by decide), nm_s, gi (show 231 + b < 295 by omega) (by decide), nm_s, gi (show 263 + b < 295 by omega) (by decide), nm_s, gi (show 71 + b * B < 295 by omega) (by decide), nm_s, gi (show 135 + b * B < 295 by omega) (by decide), nm_s, nm_s, nI_clamp (show 199 + b < 2 ^ 31 by omega), nI_clamp (show 231 + b < 2 ^ 31 by omega), nI_clamp (show 263 + b < 2 ^ 31 by omega), nI_clamp (show 71 + b * B < 2 ^ 31 by omega), nI_clamp (show 135 + b * B < 2 ^ 31 by omega), nI_1, hμ2]
  have s1 : ∀ q, q ≠ 82 → (q < 13 ∨ 18 ≤ q) → σ2 q = σ q := fun q h1 h2 => by rw [hσ2, wk_ne (by omega), up2_ne (by omega), up2_ne (by omega), up2_ne (by omega), up2_ne (by omega), up2_ne (by omega)]
  have s13 : σ2 13 = upd (σ 13) b v := by rw [hσ2, wk_ne (by decide), up2_ne (by decide), up2_ne (by decide), up2_ne (by decide), up2_ne (by decide), up2_self]
  have s14 : σ2 14 = upd (σ 14) b (nI j) := by rw [hσ2, wk_ne (by decide), up2_ne (by decide), up2_ne (by decide), up2_ne (by decide), up2_self, up2_ne (by decide)]
  have s15 : σ2 15 = upd (σ 15) b 0 := by rw [hσ2, wk_ne (by decide), up2_ne (by decide), up2_ne (by decide), up2_self, up2_ne (by decide), up2_ne (by decide)]
  have s16 : σ2 16 = upd (σ 16) (b * B) (-1) := by rw [hσ2, wk_ne (by decide), up2_ne (by decide), up2_self, up2_ne (by decide), up2_ne (by decide), up2_ne (by decide)]
  have s17 : σ2 17 = upd (σ 17) (b * B) v := by rw [hσ2, wk_ne (by decide), up2_self, up2_ne (by decide), up2_ne (by decide), up2_ne (by decide), up2_ne (by decide)]
  have u1 : ∀ q, q ≠ 0 → μ2 q = μ q := fun q h => by rw [hμ2, up2_ne h, up2_ne h, up2_ne h, up2_ne h, up2_ne h]
  have u0 : μ2 0 = upd (upd (upd (upd (upd (μ 0) (199 + b) v) (231 + b) (nI j)) (263 + b) 0) (71 + b * B) (-1)) (135 + b * B) v := by rw [hμ2, up2_self, up2_self, up2_self, up2_self, up2_self]
  obtain ⟨σ', μ', j', d1, d2, d3, d4, d5, d6, d7, d8, d9⟩ := xm_cbL (M := M) (B := B) (b := b) hb (eo M B b - (b * B + 1)) 80 (b * B + 1) v j σ2 μ2 (by omega) (by omega) (by omega) hj v2 (F.fr (by rw [s1 10 (by decide) (by decide)]) (s1 11 (by decide) (by decide)) (s1 12 (by decide) (by decide)) (fun i hi => by rw [u0, pk_un (by omega), pk_un (by omega), pk_un (by omega), pk_un (by omega), pk_un (by omega)]) (u1 5 (by decide))) (by rw [hσ2]; exact wk_0 _ 0 _ _) (by rw [hσ2]; exact wk_1 _ 0 _ _)
  refine ⟨σ', μ', j', hX.trans d1, hM.trans d2, d3, d4, fun q h1 h2 => by rw [d5 q h1 (by omega) (by omega), s1 q h1 h2], fun q h => by rw [d6 q h, u1 q h], fun i hi => ?_, fun i hi hne => ?_, ?_, fun i hi => ?_, fun i h1 h2 => ?_⟩
  · rw [d7 i (by omega), u0, pk_un (by omega), pk_un (by omega), pk_un (by omega), pk_un (by omega), pk_un (by omega)]
  · rw [d5 13 (by decide) (by decide) (by decide), d5 14 (by decide) (by decide) (by decide), d5 15 (by decide) (by decide) (by decide), s13, s14, s15, pk_un hne, pk_un hne, pk_un hne, d7 (199 + i) (by omega), d7 (231 + i) (by omega), d7 (263 + i) (by omega), u0]
    refine ⟨rfl, rfl, rfl, ?_, ?_, ?_⟩
    · rw [pk_un (by omega), pk_un (by omega), pk_un (by omega), pk_un (by omega), pk_un (by omega)]
    · rw [pk_un (by omega), pk_un (by omega), pk_un (by omega), pk_un (by omega), pk_un (by omega)]
    · rw [pk_un (by omega), pk_un (by omega), pk_un (by omega), pk_un (by omega), pk_un (by omega)]
  · rw [d5 13 (by decide) (by decide) (by decide), d5 14 (by decide) (by decide) (by decide), d5 15 (by decide) (by decide) (by decide), s13, s14, s15, pk_us, pk_us, pk_us, d7 (199 + b) (by omega), d7 (231 + b) (by omega), d7 (263 + b) (by omega), u0]
    have e1 : upd (upd (upd (upd (upd (μ 0) (199 + b) v) (231 + b) (nI j)) (263 + b) 0) (71 + b * B) (-1)) (135 + b * B) v (199 + b) = v := by rw [pk_un (by omega), pk_un (by omega), pk_un (by omega), pk_un (by omega), pk_us]
    have e2 : upd (upd (upd (upd (upd (μ 0) (199 + b) v) (231 + b) (nI j)) (263 + b) 0) (71 + b * B) (-1)) (135 + b * B) v (231 + b) = nI j := by rw [pk_un (by omega), pk_un (by omega), pk_un (by omega), pk_us]
    have e3 : upd (upd (upd (upd (upd (μ 0) (199 + b) v) (231 + b) (nI j)) (263 + b) 0) (71 + b * B) (-1)) (135 + b * B) v (263 + b) = 0 := by rw [pk_un (by omega), pk_un (by omega), pk_us]
    rw [e1, e2, e3]
    exact ⟨rfl, v2, rfl, rfl, rfl, rfl⟩
  · obtain ⟨e1, e2⟩ := d8 i (by omega)
    rw [e1, e2, s16, s17, pk_un (by omega), pk_un (by omega), d7 (71 + i) (by omega), d7 (135 + i) (by omega), u0]
    refine ⟨rfl, rfl, ?_, ?_⟩
    · rw [pk_un (by omega), pk_un (by omega), pk_un (by omega), pk_un (by omega), pk_un (by omega)]
    · rw [pk_un (by omega), pk_un (by omega), pk_un (by omega), pk_un (by omega), pk_un (by omega)]
  · have hq := kq (B := B) (b := b) h1 (show i < b * B + B by omega)
    by_cases h : i = b * B
    · obtain ⟨e1, e2⟩ := d8 i (by omega)
      rw [e1, e2, s16, s17, h, pk_us, pk_us, d7 (71 + b * B) (by omega), d7 (135 + b * B) (by omega), u0]
      have e3 : upd (upd (upd (upd (upd (μ 0) (199 + b) v) (231 + b) (nI j)) (263 + b) 0) (71 + b * B) (-1)) (135 + b * B) v (71 + b * B) = -1 := by rw [pk_un (by omega), pk_us]
      rw [e3, pk_us]
      refine ⟨rfl, rfl, fun _ => rfl, fun hne => ?_⟩
      rw [h] at hq
      omega
    · obtain ⟨e1, e2, e3⟩ := d9 i (by omega) h2
      exact ⟨e1, e2, fun h0 => by omega, fun _ => e3⟩
/-- the first b blocks are coded -/
def PC (σ μ : Sg) (M B b : Nat) : Prop := (∀ i, i < b → σ 13 i = μ 0 (199 + i) ∧ inV (μ 0 (199 + i)) ∧ σ 14 i = μ 0 (231 + i) ∧ (∃ j, j < 49 ∧ μ 0 (231 + i) = nI j) ∧ σ 15 i = 0 ∧ μ 0 (263 + i) = 0) ∧ ∀ i, i < b * B → i < M → σ 16 i = μ 0 (71 + i) ∧ σ 17 i = μ 0 (135 + i) ∧ (i % B = 0 → μ 0 (71 + i) = -1) ∧ (i % B ≠ 0 → c16 (μ 0 (71 + i)))
theorem xm_cwL {M B : Nat} : ∀ n f b j (σ μ : Sg), n < f → b + n = NB M B → j < 49 → Fa σ μ M B → μ 0 1 = 1 → Bo σ 10 → PC σ μ M B b → ∃ σ' μ', fX1_codeWave_L4 0 f (nI j) (nI b) σ = some σ' ∧ fX7_code_L30 f (nI j) (nI b) μ = some (nI (NB M B), μ') ∧ (∀ q, q ≠ 82 → q ≠ 10 → (q < 13 ∨ 18 ≤ q) → σ' q = σ q) ∧ σ' 10 3 = nI (NB M B) ∧ σ' 10 9 = σ 10 9 + 1 ∧ (∀ k, k ≠ 3 → k ≠ 9 → σ' 10 k = σ 10 k) ∧ (∀ q, q ≠ 0 → μ' q = μ q) ∧ (∀ i, i < 71 → μ' 0 i = μ 0 i) ∧ Bo σ' 10 ∧ PC σ' μ' M B (NB M B) := by
  intro n
  induction n with
  | zero =>
    intro f b j σ μ hf hb hj F h1 hB P
    obtain ⟨f, rfl⟩ := fu1 hf
    obtain ⟨a1, a2, a3, a4, a5, a6, a7, a8, a9, a10, a11⟩ := F
    have hle := nb_le a3 a2
    have hq : ¬ b * B < M := fun q => by
      have := (nb_lt (M := M) (B := B) (b := b) (by omega)).mpr q
      omega
    obtain rfl : b = NB M B := by omega
    have h69 : fX1_codeWave_b69 0 (nI (NB M B)) σ = some (up2 (up2 σ 10 3 (nI (NB M B))) 10 9 (σ 10 9 + 1)) := by
      unfold fX1_codeWave_b69
      simp only [nm_s, Nat.mul_zero, Nat.add_zero]
      rw [up2_self, pk_un (show (9 : Nat) ≠ 3 by decide)]
    refine ⟨up2 (up2 σ 10 3 (nI (NB M B))) 10 9 (σ 10 9 + 1), μ, ?_, ?_, fun q _ h2 _ => by rw [up2_ne h2, up2_ne h2], by rw [up2_self, up2_self, pk_un (by decide), pk_us], by rw [up2_self, pk_us], fun k h3 h9 => by rw [up2_self, up2_self, pk_un h9, pk_un h3], fun _ _ => rfl, fun _ _ => rfl, fun k hk => by rw [up2_ne (by decide), up2_ne (by decide)]; exact hB k hk, ?_⟩
    · rw [fX1_codeWave_L4, x_so a6, bd_s]
      simp only [Nat.mul_zero, Nat.add_zero, Nat.reduceAdd]
      rw [a5, h69]
      by_cases h32 : (32 : Int32) ≤ nI (NB M B)
      · rw [if_pos h32]
      · rw [if_neg h32, if_pos (nI_le (show M ≤ NB M B * B by omega) (by
          have := Nat.mul_le_mul_right B hle
          omega))]
    · rw [fX7_code_L30, m_blk1 h1 a2 a3 a4 a7 a8, bd_s, if_pos (nI_le (Nat.le_refl _) (by omega)), bd_s]
    · unfold PC at P ⊢
      rw [up2_ne (show 13 ≠ 10 by decide), up2_ne (show 13 ≠ 10 by decide), up2_ne (show 14 ≠ 10 by decide), up2_ne (show 14 ≠ 10 by decide), up2_ne (show 15 ≠ 10 by decide), up2_ne (show 15 ≠ 10 by decide), up2_ne (show 16 ≠ 10 by decide), up2_ne (show 16 ≠ 10 by decide), up2_ne (show 17 ≠ 10 by decide), up2_ne (show 17 ≠ 10 by decide)]
      exact P
  | succ n ih =>
    intro f b j σ μ hf hb hj F h1 hB P
    obtain ⟨f, rfl⟩ := fu1 hf
    have F' := F
    obtain ⟨a1, a2, a3, a4, a5, a6, a7, a8, a9, a10, a11⟩ := F'
    have hle := nb_le a3 a2
    have hbM := (nb_lt (M := M) (B := B) (b := b) (by omega)).mp (by omega)
    have hb32 := b32 a2 a3 hbM
    have he1 : eo M B b ≤ M := Nat.min_le_left _ _
    have he2 : b * B < eo M B b := by unfold eo; omega
    have key : ∀ (σ0 : Sg) (j0 : Nat), j0 < 49 → (∀ q, q ≠ 82 → σ0 q = σ q) → ∃ σ' μ', fX1_codeWave_b48 0 (fun x2 x3 σ => fX1_codeWave_L4 0 f x2 x3 σ) (nI j0) (nI b) σ0 = some σ' ∧ (bd2 (fX7_codes (nI b) (nI j0) μ) fun r17 u18 => nm (nI b + 1) fun x2_19 => (fun x1 x2 μ => fX7_code_L30 f x1 x2 μ) r17 x2_19 u18) = some (nI (NB M B), μ') ∧ (∀ q, q ≠ 82 → q ≠ 10 → (q < 13 ∨ 18 ≤ q) → σ' q = σ q) ∧ σ' 10 3 = nI (NB M B) ∧ σ' 10 9 = σ 10 9 + 1 ∧ (∀ k, k ≠ 3 → k ≠ 9 → σ' 10 k = σ 10 k) ∧ (∀ q, q ≠ 0 → μ' q = μ q) ∧ (∀ i, i < 71 → μ' 0 i = μ 0 i) ∧ Bo σ' 10 ∧ PC σ' μ' M B (NB M B) := by
      intro σ0 j0 hj0 h0
      obtain ⟨σ1, μ1, j1, c1, c2, c3, c4, c5, c6, c7, c8, c9, c10, c11⟩ := xm_cb (σ := σ0) hbM hj0 (F.fr (by rw [h0 10 (by decide)]) (h0 11 (by decide)) (h0 12 (by decide)) (fun _ _ => rfl) rfl)
      have e1 : ∀ q, q ≠ 82 → (q < 13 ∨ 18 ≤ q) → σ1 q = σ q := fun q x y => by rw [c5 q x y, h0 q x]
      have P1 : PC σ1 μ1 M B (b + 1) := by
        obtain ⟨p1, p2⟩ := P
        refine ⟨fun i hi => ?_, fun i hi hM => ?_⟩
        · by_cases h : i = b
          · subst h
            obtain ⟨g1, g2, g3, g4, g5, g6⟩ := c9
            exact ⟨g1, g2, g3.trans g4.symm, ⟨j0, hj0, g4⟩, g5, g6⟩
          · obtain ⟨g1, g2, g3, g4, g5, g6⟩ := c8 i (by omega) h
            rw [g1, g2, g3, g4, g5, g6, h0 13 (by decide), h0 14 (by decide), h0 15 (by decide)]
            exact p1 i (by omega)
        · rw [Nat.succ_mul] at hi
          rcases Nat.lt_or_ge i (b * B) with q | q
          · obtain ⟨g1, g2, g3, g4⟩ := c10 i q
            rw [g1, g2, g3, g4, h0 16 (by decide), h0 17 (by decide)]
            exact p2 i q hM
          · exact c11 i q (by unfold eo; omega)
      have hB1 : Bo σ1 10 := by
        intro k hk
        by_cases h : k = b
        · subst h
          exact Or.inl c9.2.2.2.2.1
        · have g := (c8 k hk h).2.2.1
          have hb' := hB k hk
          rw [show σ1 (10 + 5) k = σ0 15 k from g, h0 15 (by decide)]
          exact hb'
      obtain ⟨σ', μ', d1, d2, d3, d4, d5, d6, d7, d8, d9, d10⟩ := ih f (b + 1) j1 σ1 μ1 (by omega) (by omega) c3 (F.fr (by rw [e1 10 (by decide) (by decide)]) (e1 11 (by decide) (by decide)) (e1 12 (by decide) (by decide)) c7 (c6 5 (by decide))) (by rw [c7 1 (by decide)]; exact h1) hB1 P1
      refine ⟨σ', μ', ?_, ?_, fun q x y z => by rw [d3 q x y z, e1 q x z], d4, by rw [d5, e1 10 (by decide) (by decide)], fun k x y => by rw [d6 k x y, e1 10 (by decide) (by decide)], fun q x => by rw [d7 q x, c6 q x], fun i hi => by rw [d8 i hi, c7 i hi], d9, d10⟩
      · unfold fX1_codeWave_b48
        rw [c1, bd_s]
        simp only [nm_s, Nat.add_zero]
        rw [c4, nI_1]
        exact d1
      · rw [c2, bd2_s, nm_s, nI_1]
        exact d2
    rw [fX1_codeWave_L4, if_neg (show ¬ (32 : Int32) ≤ nI b from nI_ge (a := b) (b := 32) hb32 (by decide)), x_so a6, bd_s]
    simp only [Nat.mul_zero, Nat.add_zero, Nat.reduceAdd]
    rw [a5, if_neg (nI_ge (show b * B < M by omega) (by omega)), a9, fX7_code_L30, m_blk1 h1 a2 a3 a4 a7 a8, bd_s, bd_s, if_neg (nI_ge (show b < NB M B by omega) (by omega)), a8, pk_mul, nm_s]
    by_cases h3 : μ 0 3 = 1
    · rw [if_pos h3, if_pos h3, x_eo a2 a4 a5 a6 hbM, bd_s, m_eo a2 a4 a7 a8 hbM, bd_s, pk_sub (show b * B ≤ eo M B b by omega)]
      obtain ⟨r, σ0, g1, g2, g3, g4⟩ := xm_best (σ := σ) a10 (a := b * B) (m := eo M B b - b * B) (by omega) (by omega) (fun i hi => (a11 i (by omega)).1) (fun i hi => (a11 i (by omega)).2)
      rw [show b * B + (eo M B b - b * B) = eo M B b by omega] at g1
      rw [g1, bd2_s, g2, bd_s]
      exact key σ0 r g3 g4
    · rw [if_neg h3, if_neg h3]
      exact key σ j hj (fun _ _ => rfl)
