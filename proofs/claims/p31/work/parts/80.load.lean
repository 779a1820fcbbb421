/-! PURE: load -/
theorem x_pbL {M B b : Nat} (hM1 : M ≤ 64) (hB2 : B ≤ 16) (hb : b * B < M) : ∀ n f k (σ : Sg), n < f → k + n + (b * B + 1) = eo M B b → σ 10 0 = nI M → σ 12 0 = nI B → ∃ σ', fX4_putBlock_L36 0 (nI b) f (nI (b * B)) (nI k) σ = some σ' ∧ (∀ q, q ≠ 16 → σ' q = σ q) ∧ ∀ i, σ' 16 i = if b * B + 1 + k ≤ i ∧ i < eo M B b then σ 7 (i - (b * B + 1)) else σ 16 i := by
  intro n
  induction n with
  | zero =>
    intro f k σ hf hk h10 h12
    obtain ⟨f, rfl⟩ := fu1 hf
    have he1 : eo M B b ≤ M := Nat.min_le_left _ _
    have hcf : fX4_codesOf 0 (nI b) σ = some (nI k) := by
      unfold fX4_codesOf
      rw [x_eo hM1 hB2 h10 h12 hb, bd_s, x_so h12, bd_s, pk_sub (by omega), show nI (eo M B b - b * B) - 1 = nI (eo M B b - b * B - 1) from pk_sub (b := 1) (by omega), show eo M B b - b * B - 1 = k by omega]
    rw [fX4_putBlock_L36, hcf, bd_s, if_pos (nI_le (Nat.le_refl k) (by omega))]
    exact ⟨σ, rfl, fun _ _ => rfl, fun i => by rw [if_neg (by omega)]⟩
  | succ n ih =>
    intro f k σ hf hk h10 h12
    obtain ⟨f, rfl⟩ := fu1 hf
    have he1 : eo M B b ≤ M := Nat.min_le_left _ _
    have he3 : eo M B b ≤ b * B + B := Nat.min_le_right _ _
    have hcf : fX4_codesOf 0 (nI b) σ = some (nI (k + (n + 1))) := by
      unfold fX4_codesOf
      rw [x_eo hM1 hB2 h10 h12 hb, bd_s, x_so h12, bd_s, pk_sub (by omega), show nI (eo M B b - b * B) - 1 = nI (eo M B b - b * B - 1) from pk_sub (b := 1) (by omega), show eo M B b - b * B - 1 = k + (n + 1) by omega]
    rw [fX4_putBlock_L36, hcf, bd_s, if_neg (nI_ge (by omega) (by omega)), if_neg (show ¬ (15 : Int32) ≤ nI k from nI_ge (b := 15) (by omega) (by decide)), gi (show k < 15 by omega) (by decide), nI_clamp (show k < 2 ^ 31 by omega), nI_1, nI_add, gi (show b * B + 1 + k < 64 by omega) (by decide), nI_clamp (show b * B + 1 + k < 2 ^ 31 by omega)]
    simp only [nm_s, nI_1, Nat.mul_zero, Nat.add_zero, Nat.reduceAdd]
    obtain ⟨σ', e1, e2, e3⟩ := ih f (k + 1) (up2 σ 16 (b * B + 1 + k) (σ 7 k)) (by omega) (by omega) (by rw [up2_ne (by decide)]; exact h10) (by rw [up2_ne (by decide)]; exact h12)
    refine ⟨σ', e1, fun q hq => by rw [e2 q hq, up2_ne hq], fun i => ?_⟩
    rw [e3 i, up2_self, up2_ne (show 7 ≠ 16 by decide)]
    by_cases h1 : b * B + 1 + (k + 1) ≤ i ∧ i < eo M B b
    · rw [if_pos h1, if_pos (by omega)]
    · rw [if_neg h1]
      by_cases h2 : i = b * B + 1 + k
      · rw [h2, pk_us, if_pos (by omega), show b * B + 1 + k - (b * B + 1) = k by omega]
      · rw [pk_un h2, if_neg (by omega)]
theorem m_ldL {B b c : Nat} (hc : c ≤ 15) (hbB : b * B + 1 + c ≤ 64) : ∀ n f k (u : Sg), n < f → k + n = c → u 20 18 = nI c → u 0 2 = nI B → 2 ≤ B → ∃ u', fX7_load_L109 (nI b) f (nI k) u = (nm (up2 u' 20 7 0) fun u2 => bd2 (fX7_others u2) fun r4 u5 => some (r4, u5)) ∧ (∀ q, q ≠ 0 → u' q = u q) ∧ ∀ i, u' 0 i = if 71 + (b * B + 1) + k ≤ i ∧ i < 71 + (b * B + 1) + c then u 10 (i - (71 + (b * B + 1))) else u 0 i := by
  intro n
  induction n with
  | zero =>
    intro f k u hf hk h18 h2 hB
    obtain ⟨f, rfl⟩ := fu1 hf
    rw [fX7_load_L109, h18, if_pos (nI_le (by omega) (by omega))]
    exact ⟨u, rfl, fun _ _ => rfl, fun i => by rw [if_neg (by omega)]⟩
  | succ n ih =>
    intro f k u hf hk h18 h2 hB
    obtain ⟨f, rfl⟩ := fu1 hf
    rw [fX7_load_L109, h18, if_neg (nI_ge (by omega) (by omega)), gi (show k < 15 by omega) (by decide), nI_clamp (show k < 2 ^ 31 by omega), h2, pk_mul, o71, nI_1, nI_add, show 71 + b * B + 1 + k = 71 + (b * B + 1) + k by omega, gi (show 71 + (b * B + 1) + k < 295 by omega) (by decide), nI_clamp (show 71 + (b * B + 1) + k < 2 ^ 31 by omega)]
    simp only [nm_s, nI_1]
    obtain ⟨u', e1, e2, e3⟩ := ih f (k + 1) (up2 u 0 (71 + (b * B + 1) + k) (u 10 k)) (by omega) (by omega) (by rw [up2_ne (by decide)]; exact h18) (by rw [up2_self, pk_un (by omega)]; exact h2) hB
    refine ⟨u', e1, fun q hq => by rw [e2 q hq, up2_ne hq], fun i => ?_⟩
    rw [e3 i, up2_self, up2_ne (show 10 ≠ 0 by decide)]
    by_cases h1 : 71 + (b * B + 1) + (k + 1) ≤ i ∧ i < 71 + (b * B + 1) + c
    · rw [if_pos h1, if_pos (by omega)]
    · rw [if_neg h1]
      by_cases h2 : i = 71 + (b * B + 1) + k
      · rw [h2, pk_us, if_pos (by omega), show 71 + (b * B + 1) + k - (71 + (b * B + 1)) = k by omega]
      · rw [pk_un h2, if_neg (by omega)]
