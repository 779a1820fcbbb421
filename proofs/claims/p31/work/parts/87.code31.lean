/-! P31: a wave is coded: what the codes, the guesses and the starts are -/
def fw (s : Nat → Int32) (j a : Nat) : Nat → Int32 × Nat
  | 0 => (s (7 + a), j)
  | n + 1 => (nxg (fw s j a n).1 (fw s j a n).2 (cdf (fw s j a n).1 (fw s j a n).2 (s (7 + (a + n + 1)))), nxn (fw s j a n).2 (cdf (fw s j a n).1 (fw s j a n).2 (s (7 + (a + n + 1)))))
/-- the code of the sample a + n + 1 -/
def cwc (s : Nat → Int32) (j a n : Nat) : Int32 := cdf (fw s j a n).1 (fw s j a n).2 (s (7 + (a + n + 1)))
theorem fw_s (s : Nat → Int32) (j a n : Nat) : fw s j a (n + 1) = (nxg (fw s j a n).1 (fw s j a n).2 (cwc s j a n), nxn (fw s j a n).2 (cwc s j a n)) := rfl
theorem fw_1 (s : Nat → Int32) (j a n : Nat) : (fw s j a (n + 1)).1 = nxg (fw s j a n).1 (fw s j a n).2 (cwc s j a n) := by simp only [fw_s]
theorem fw_2 (s : Nat → Int32) (j a n : Nat) : (fw s j a (n + 1)).2 = nxn (fw s j a n).2 (cwc s j a n) := by simp only [fw_s]
theorem fw_lt {s : Nat → Int32} {j a : Nat} (hj : j < 49) : ∀ n, (fw s j a n).2 < 49 := by
  intro n
  induction n with
  | zero => exact hj
  | succ n ih =>
    rw [fw_2]
    exact nxn_lt _ ih
/-- what the class's rows hold for the coder -/
def Bs (σ : Sg) (s : Nat → Int32) (M B : Nat) : Prop := σ 10 0 = nI M ∧ σ 12 0 = nI B ∧ σ 12 1 = s 3 ∧ ∀ i, i < M → σ 11 i = s (7 + i)
theorem Bs.fr {σ σ' : Sg} {s : Nat → Int32} {M B : Nat} (h : Bs σ s M B) (h10 : σ' 10 0 = σ 10 0) (h11 : σ' 11 = σ 11) (h12 : σ' 12 = σ 12) : Bs σ' s M B := by
  obtain ⟨a1, a2, a3, a4⟩ := h
  exact ⟨h10.trans a1, by rw [h12]; exact a2, by rw [h12]; exact a3, fun i hi => by rw [h11]; exact a4 i hi⟩
theorem x_cbF {s : Nat → Int32} {M B b j : Nat} (hM : M ≤ 64) (hB2 : B ≤ 16) (hb : b * B < M) (hj : j < 49) : ∀ n f t (σ : Sg), n < f → b * B + t + 1 + n = eo M B b → Bs σ s M B → σ 82 0 = (fw s j (b * B) t).1 → σ 82 1 = nI (fw s j (b * B) t).2 → ∃ σ', fX1_codeBlock_L71 0 (nI b) f (nI (b * B + t + 1)) σ = some σ' ∧ (∀ q, q ≠ 82 → q ≠ 16 → q ≠ 17 → σ' q = σ q) ∧ (∀ i, i < b * B + t + 1 ∨ eo M B b ≤ i → σ' 16 i = σ 16 i ∧ σ' 17 i = σ 17 i) ∧ (∀ u, t ≤ u → b * B + u + 1 < eo M B b → σ' 16 (b * B + u + 1) = cwc s j (b * B) u ∧ σ' 17 (b * B + u + 1) = (fw s j (b * B) (u + 1)).1) ∧ σ' 82 1 = nI (fw s j (b * B) (eo M B b - 1 - b * B)).2 := by
  intro n
  induction n with
  | zero =>
    intro f t σ hf hk F w0 w1
    obtain ⟨f, rfl⟩ := fu1 hf
    obtain ⟨a1, a2, a3, a4⟩ := F
    have he1 : eo M B b ≤ M := Nat.min_le_left _ _
    rw [fX1_codeBlock_L71, x_eo hM hB2 a1 a2 hb, bd_s, if_pos (nI_le (show eo M B b ≤ b * B + t + 1 by omega) (by omega))]
    exact ⟨σ, rfl, fun _ _ _ _ => rfl, fun _ _ => ⟨rfl, rfl⟩, fun u h1 h2 => by omega, by rw [w1, show eo M B b - 1 - b * B = t by omega]⟩
  | succ n ih =>
    intro f t σ hf hk F w0 w1
    obtain ⟨f, rfl⟩ := fu1 hf
    have F' := F
    obtain ⟨a1, a2, a3, a4⟩ := F'
    have he1 : eo M B b ≤ M := Nat.min_le_left _ _
    have hk64 : b * B + t + 1 < 64 := by omega
    have hl := fw_lt (s := s) (a := b * B) hj t
    obtain ⟨c, hc⟩ : ∃ c, c = cwc s j (b * B) t := ⟨_, rfl⟩
    obtain ⟨k, hkk⟩ : ∃ k, k = b * B + t + 1 := ⟨_, rfl⟩
    obtain ⟨g, hg⟩ : ∃ g, g = (fw s j (b * B) t).1 := ⟨_, rfl⟩
    obtain ⟨m, hm⟩ : ∃ m, m = (fw s j (b * B) t).2 := ⟨_, rfl⟩
    have hX : fX1_codeBlock_L71 0 (nI b) (f + 1) (nI k) σ = fX1_codeBlock_L71 0 (nI b) f (nI (k + 1)) (up2 (up2 (wk σ 0 (nxg g m c) (nxn m c)) 16 k c) 17 k (nxg g m c)) := by
      rw [fX1_codeBlock_L71, x_eo hM hB2 a1 a2 hb, bd_s, if_neg (nI_ge (show k < eo M B b by omega) (by omega)), gi (show k < 64 by omega) (by decide), nI_clamp (show k < 2 ^ 31 by omega)]
      simp only [Nat.mul_zero, Nat.add_zero, Nat.reduceAdd]
      have w1' : σ (82 + 0) 1 = nI m := by rw [hm]; exact w1
      have w0' : σ (82 + 0) 0 = g := by rw [hg]; exact w0
      have e0 : σ 11 k = s (7 + k) := a4 k (by omega)
      have ec : cdf g m (s (7 + k)) = c := by rw [hc, hg, hm, hkk]; rfl
      rw [x_code 0 m _ σ (by rw [hm]; exact hl) w1', bd_s, e0, w0', ec, x_follow 0 m _ σ (by rw [hm]; exact hl) w1', bd_s, w0']
      rw [gj (show k < 64 by omega) (by decide), nm_s, gj (show k < 64 by omega) (by decide), nm_s, nm_s, nI_1, up2_ne (show 82 ≠ 16 by decide), show wk σ 0 (nxg g m c) (nxn m c) 82 0 = nxg g m c from wk_0 σ 0 _ _]
    obtain ⟨σ2, hσ2⟩ : ∃ σ2, σ2 = up2 (up2 (wk σ 0 (nxg g m c) (nxn m c)) 16 k c) 17 k (nxg g m c) := ⟨_, rfl⟩
    rw [← hσ2] at hX
    have s1 : ∀ q, q ≠ 82 → q ≠ 16 → q ≠ 17 → σ2 q = σ q := fun q h1 h2 h3 => by rw [hσ2, up2_ne h3, up2_ne h2, wk_ne (by omega)]
    have s82 : σ2 82 = wk σ 0 (nxg g m c) (nxn m c) 82 := by rw [hσ2, up2_ne (by decide), up2_ne (by decide)]
    have s16 : σ2 16 = upd (σ 16) k c := by rw [hσ2, up2_ne (by decide), up2_self, wk_ne (by decide)]
    have s17 : σ2 17 = upd (σ 17) k (nxg g m c) := by rw [hσ2, up2_self, up2_ne (by decide), wk_ne (by decide)]
    have eg : nxg g m c = (fw s j (b * B) (t + 1)).1 := by rw [fw_1, ← hc, ← hg, ← hm]
    have em : nxn m c = (fw s j (b * B) (t + 1)).2 := by rw [fw_2, ← hc, ← hm]
    obtain ⟨σ', d1, d2, d3, d4, d5⟩ := ih f (t + 1) σ2 (by omega) (by omega) (F.fr (by rw [s1 10 (by decide) (by decide) (by decide)]) (s1 11 (by decide) (by decide) (by decide)) (s1 12 (by decide) (by decide) (by decide))) (by rw [s82, ← eg]; exact wk_0 σ 0 _ _) (by rw [s82, ← em]; exact wk_1 σ 0 _ _)
    refine ⟨σ', ?_, fun q h1 h2 h3 => by rw [d2 q h1 h2 h3, s1 q h1 h2 h3], fun i hi => ?_, fun u h1 h2 => ?_, d5⟩
    · rw [← hkk, hX, hkk]
      exact d1
    · obtain ⟨e1, e2⟩ := d3 i (by omega)
      rw [e1, e2, s16, s17, pk_un (by omega), pk_un (by omega)]
      exact ⟨rfl, rfl⟩
    · by_cases h : u = t
      · subst h
        obtain ⟨e1, e2⟩ := d3 (b * B + u + 1) (by omega)
        rw [e1, e2, s16, s17, ← hkk, pk_us, pk_us]
        exact ⟨hc, eg⟩
      · exact d4 u (by omega) h2
theorem x_cbW {s : Nat → Int32} {M B b j : Nat} {σ : Sg} (hM : M ≤ 64) (hB : 2 ≤ B) (hB2 : B ≤ 16) (hb : b * B < M) (hj : j < 49) (F : Bs σ s M B) : ∃ σ', fX1_codeBlock 0 (nI b) (nI j) σ = some σ' ∧ (∀ q, q ≠ 82 → (q < 13 ∨ 18 ≤ q) → σ' q = σ q) ∧ (∀ i, i ≠ b → σ' 13 i = σ 13 i ∧ σ' 14 i = σ 14 i ∧ σ' 15 i = σ 15 i) ∧ (σ' 13 b = s (7 + b * B) ∧ σ' 14 b = nI j ∧ σ' 15 b = 0) ∧ (∀ i, i < b * B ∨ eo M B b ≤ i → σ' 16 i = σ 16 i ∧ σ' 17 i = σ 17 i) ∧ (σ' 16 (b * B) = -1 ∧ σ' 17 (b * B) = s (7 + b * B)) ∧ (∀ u, b * B + u + 1 < eo M B b → σ' 16 (b * B + u + 1) = cwc s j (b * B) u ∧ σ' 17 (b * B + u + 1) = (fw s j (b * B) (u + 1)).1) ∧ σ' 82 1 = nI (fw s j (b * B) (eo M B b - 1 - b * B)).2 := by
  have F' := F
  obtain ⟨a1, a2, a3, a4⟩ := F'
  have hb32 := b32 hM hB hb
  have he1 : eo M B b ≤ M := Nat.min_le_left _ _
  have he2 : b * B < eo M B b := by unfold eo; omega
  obtain ⟨v, hv⟩ : ∃ v, v = s (7 + b * B) := ⟨_, rfl⟩
  obtain ⟨a, haa⟩ : ∃ a, a = b * B := ⟨_, rfl⟩
  have v1 : σ 11 a = v := by rw [hv, haa]; exact a4 _ hb
  obtain ⟨σ2, hσ2⟩ : ∃ σ2, σ2 = wk (up2 (up2 (up2 (up2 (up2 σ 13 b v) 14 b (nI j)) 15 b 0) 16 a (-1)) 17 a v) 0 v j := ⟨_, rfl⟩
  have hX : fX1_codeBlock 0 (nI b) (nI j) σ = fX1_codeBlock_L71 0 (nI b) 80 (nI (a + 1)) σ2 := by
    unfold fX1_codeBlock
    rw [x_so a2, bd_s, ← haa]
    simp only [gi (show a < 64 by omega) (by decide), gi hb32 (by decide), nm_s, Nat.mul_zero, Nat.add_zero, Nat.reduceAdd]
    rw [nI_clamp (show a < 2 ^ 31 by omega), nI_clamp (show b < 2 ^ 31 by omega), v1, x_begin, bd_s, nI_1, hσ2]
  have s1 : ∀ q, q ≠ 82 → (q < 13 ∨ 18 ≤ q) → σ2 q = σ q := fun q h1 h2 => by rw [hσ2, wk_ne (by omega), up2_ne (by omega), up2_ne (by omega), up2_ne (by omega), up2_ne (by omega), up2_ne (by omega)]
  have s13 : σ2 13 = upd (σ 13) b v := by rw [hσ2, wk_ne (by decide), up2_ne (by decide), up2_ne (by decide), up2_ne (by decide), up2_ne (by decide), up2_self]
  have s14 : σ2 14 = upd (σ 14) b (nI j) := by rw [hσ2, wk_ne (by decide), up2_ne (by decide), up2_ne (by decide), up2_ne (by decide), up2_self, up2_ne (by decide)]
  have s15 : σ2 15 = upd (σ 15) b 0 := by rw [hσ2, wk_ne (by decide), up2_ne (by decide), up2_ne (by decide), up2_self, up2_ne (by decide), up2_ne (by decide)]
  have s16 : σ2 16 = upd (σ 16) a (-1) := by rw [hσ2, wk_ne (by decide), up2_ne (by decide), up2_self, up2_ne (by decide), up2_ne (by decide), up2_ne (by decide)]
  have s17 : σ2 17 = upd (σ 17) a v := by rw [hσ2, wk_ne (by decide), up2_self, up2_ne (by decide), up2_ne (by decide), up2_ne (by decide), up2_ne (by decide)]
  obtain ⟨σ', d1, d2, d3, d4, d5⟩ := x_cbF (s := s) (j := j) hM hB2 hb hj (eo M B b - (b * B + 1)) 80 0 σ2 (by omega) (by omega) (F.fr (by rw [s1 10 (by decide) (by decide)]) (s1 11 (by decide) (by decide)) (s1 12 (by decide) (by decide))) (by rw [hσ2, show fw s j (b * B) 0 = (s (7 + b * B), j) from rfl, ← hv]; exact wk_0 _ 0 _ _) (by rw [hσ2]; exact wk_1 _ 0 _ _)
  refine ⟨σ', ?_, fun q h1 h2 => by rw [d2 q h1 (by omega) (by omega), s1 q h1 h2], fun i hi => ?_, ?_, fun i hi => ?_, ?_, fun u h2 => d4 u (Nat.zero_le u) h2, d5⟩
  · rw [hX, haa]
    exact d1
  · rw [d2 13 (by decide) (by decide) (by decide), d2 14 (by decide) (by decide) (by decide), d2 15 (by decide) (by decide) (by decide), s13, s14, s15, pk_un hi, pk_un hi, pk_un hi]
    exact ⟨rfl, rfl, rfl⟩
  · rw [d2 13 (by decide) (by decide) (by decide), d2 14 (by decide) (by decide) (by decide), d2 15 (by decide) (by decide) (by decide), s13, s14, s15, pk_us, pk_us, pk_us]
    exact ⟨hv, rfl, rfl⟩
  · obtain ⟨e1, e2⟩ := d3 i (by omega)
    rw [e1, e2, s16, s17, pk_un (by omega), pk_un (by omega)]
    exact ⟨rfl, rfl⟩
  · obtain ⟨e1, e2⟩ := d3 (b * B) (by omega)
    rw [e1, e2, s16, s17, ← haa, pk_us, pk_us]
    exact ⟨rfl, by rw [hv, haa]⟩
/-- the block i is coded, its start is j -/
def PBi (σ : Sg) (s : Nat → Int32) (M B i j : Nat) : Prop := j < 49 ∧ σ 13 i = s (7 + i * B) ∧ σ 14 i = nI j ∧ σ 15 i = 0 ∧ σ 16 (i * B) = -1 ∧ σ 17 (i * B) = s (7 + i * B) ∧ (∀ u, i * B + u + 1 < eo M B i → σ 16 (i * B + u + 1) = cwc s j (i * B) u ∧ σ 17 (i * B + u + 1) = (fw s j (i * B) (u + 1)).1) ∧ (s 3 = 1 → IsB (errs s (i * B) (eo M B i - i * B)) j)
/-- where the start j of the block b comes from -/
def Chn (σ : Sg) (s : Nat → Int32) (M B b j : Nat) : Prop := (b = 0 → j = 0) ∧ ∀ i, b = i + 1 → ∀ j', j' < 49 → σ 14 i = nI j' → j = (fw s j' (i * B) (eo M B i - 1 - i * B)).2
def PB (σ : Sg) (s : Nat → Int32) (M B b : Nat) : Prop := ∀ i, i < b → ∃ j, PBi σ s M B i j ∧ (s 3 ≠ 1 → Chn σ s M B i j)
theorem x_cwF {s : Nat → Int32} {M B : Nat} (hM1 : M ≤ 64) (hB : 2 ≤ B) (hB2 : B ≤ 16) : ∀ n f b j (σ : Sg), n < f → b + n = NB M B → j < 49 → Bs σ s M B → Bo σ 10 → PB σ s M B b → Chn σ s M B b j → ∃ σ', fX1_codeWave_L4 0 f (nI j) (nI b) σ = some σ' ∧ (∀ q, q ≠ 82 → q ≠ 10 → (q < 13 ∨ 18 ≤ q) → σ' q = σ q) ∧ σ' 10 3 = nI (NB M B) ∧ σ' 10 9 = σ 10 9 + 1 ∧ (∀ k, k ≠ 3 → k ≠ 9 → σ' 10 k = σ 10 k) ∧ Bo σ' 10 ∧ PB σ' s M B (NB M B) := by
  intro n
  induction n with
  | zero =>
    intro f b j σ hf hb hj F hBo P C
    obtain ⟨f, rfl⟩ := fu1 hf
    obtain ⟨a1, a2, a3, a4⟩ := F
    have hle := nb_le hB hM1
    have hq : ¬ b * B < M := fun q => by
      have := (nb_lt (M := M) (B := B) (b := b) (by omega)).mpr q
      omega
    obtain rfl : b = NB M B := by omega
    have h69 : fX1_codeWave_b69 0 (nI (NB M B)) σ = some (up2 (up2 σ 10 3 (nI (NB M B))) 10 9 (σ 10 9 + 1)) := by
      unfold fX1_codeWave_b69
      simp only [nm_s, Nat.mul_zero, Nat.add_zero]
      rw [up2_self, pk_un (show (9 : Nat) ≠ 3 by decide)]
    refine ⟨up2 (up2 σ 10 3 (nI (NB M B))) 10 9 (σ 10 9 + 1), ?_, fun q _ h2 _ => by rw [up2_ne h2, up2_ne h2], by rw [up2_self, up2_self, pk_un (by decide), pk_us], by rw [up2_self, pk_us], fun k h3 h9 => by rw [up2_self, up2_self, pk_un h9, pk_un h3], fun k hk => by rw [up2_ne (by decide), up2_ne (by decide)]; exact hBo k hk, ?_⟩
    · rw [fX1_codeWave_L4, x_so a2, bd_s]
      simp only [Nat.mul_zero, Nat.add_zero, Nat.reduceAdd]
      rw [a1, h69]
      by_cases h32 : (32 : Int32) ≤ nI (NB M B)
      · rw [if_pos h32]
      · rw [if_neg h32, if_pos (nI_le (show M ≤ NB M B * B by omega) (by
          have := Nat.mul_le_mul_right B hle
          omega))]
    · unfold PB PBi Chn at P ⊢
      rw [up2_ne (show 13 ≠ 10 by decide), up2_ne (show 13 ≠ 10 by decide), up2_ne (show 14 ≠ 10 by decide), up2_ne (show 14 ≠ 10 by decide), up2_ne (show 15 ≠ 10 by decide), up2_ne (show 15 ≠ 10 by decide), up2_ne (show 16 ≠ 10 by decide), up2_ne (show 16 ≠ 10 by decide), up2_ne (show 17 ≠ 10 by decide), up2_ne (show 17 ≠ 10 by decide)]
      exact P
  | succ n ih =>
    intro f b j σ hf hb hj F hBo P C
    obtain ⟨f, rfl⟩ := fu1 hf
    have F' := F
    obtain ⟨a1, a2, a3, a4⟩ := F'
    have hle := nb_le hB hM1
    have hbM := (nb_lt (M := M) (B := B) (b := b) (by omega)).mp (by omega)
    have hb32 := b32 hM1 hB hbM
    have he1 : eo M B b ≤ M := Nat.min_le_left _ _
    have he2 : b * B < eo M B b := by unfold eo; omega
    have key : ∀ (σ0 : Sg) (j0 : Nat), j0 < 49 → (∀ q, q ≠ 82 → σ0 q = σ q) → (s 3 = 1 → IsB (errs s (b * B) (eo M B b - b * B)) j0) → (s 3 ≠ 1 → Chn σ s M B b j0) → ∃ σ', fX1_codeWave_b48 0 (fun x2 x3 σ => fX1_codeWave_L4 0 f x2 x3 σ) (nI j0) (nI b) σ0 = some σ' ∧ (∀ q, q ≠ 82 → q ≠ 10 → (q < 13 ∨ 18 ≤ q) → σ' q = σ q) ∧ σ' 10 3 = nI (NB M B) ∧ σ' 10 9 = σ 10 9 + 1 ∧ (∀ k, k ≠ 3 → k ≠ 9 → σ' 10 k = σ 10 k) ∧ Bo σ' 10 ∧ PB σ' s M B (NB M B) := by
      intro σ0 j0 hj0 h0 hI hC
      obtain ⟨σ1, c1, c5, c8, c9, c10, c11, c12, c13⟩ := x_cbW (σ := σ0) hM1 hB hB2 hbM hj0 (F.fr (by rw [h0 10 (by decide)]) (h0 11 (by decide)) (h0 12 (by decide)))
      have e1 : ∀ q, q ≠ 82 → (q < 13 ∨ 18 ≤ q) → σ1 q = σ q := fun q x y => by rw [c5 q x y, h0 q x]
      have e14 : ∀ i, i ≠ b → σ1 14 i = σ 14 i := fun i hi => by rw [(c8 i hi).2.1, h0 14 (by decide)]
      have P1 : PB σ1 s M B (b + 1) := by
        intro i hi
        by_cases h : i = b
        · subst h
          refine ⟨j0, ⟨hj0, c9.1, c9.2.1, c9.2.2, c11.1, c11.2, c12, hI⟩, fun h3 => ⟨(hC h3).1, fun i' hi' j' hj' e => (hC h3).2 i' hi' j' hj' ?_⟩⟩
          rw [← e14 i' (by omega)]
          exact e
        · obtain ⟨j1, ⟨p1, p2, p3, p4, p5, p6, p7, p8⟩, p9⟩ := P i (by omega)
          have hmul := mulS B (show i < b by omega)
          have hei : eo M B i ≤ i * B + B := Nat.min_le_right _ _
          obtain ⟨g1, g2, g3⟩ := c8 i h
          obtain ⟨k1, k2⟩ := c10 (i * B) (by omega)
          refine ⟨j1, ⟨p1, by rw [g1, h0 13 (by decide)]; exact p2, by rw [e14 i h]; exact p3, by rw [g3, h0 15 (by decide)]; exact p4, by rw [k1, h0 16 (by decide)]; exact p5, by rw [k2, h0 17 (by decide)]; exact p6, fun u hu => ?_, p8⟩, fun h3 => ⟨(p9 h3).1, fun i' hi' j' hj' e => (p9 h3).2 i' hi' j' hj' ?_⟩⟩
          · obtain ⟨l1, l2⟩ := c10 (i * B + u + 1) (by omega)
            rw [l1, l2, h0 16 (by decide), h0 17 (by decide)]
            exact p7 u hu
          · rw [← e14 i' (by omega)]
            exact e
      have hBo1 : Bo σ1 10 := by
        intro k hk
        by_cases h : k = b
        · subst h
          exact Or.inl c9.2.2
        · show σ1 15 k = 0 ∨ σ1 15 k = 1
          rw [(c8 k h).2.2, h0 15 (by decide)]
          exact hBo k hk
      have C1 : Chn σ1 s M B (b + 1) (fw s j0 (b * B) (eo M B b - 1 - b * B)).2 := by
        refine ⟨fun h => by omega, fun i hi j' hj' e => ?_⟩
        obtain rfl : i = b := by omega
        rw [c9.2.1] at e
        rw [(nI_eq (by omega) (by omega)).mp e]
      obtain ⟨σ', d1, d2, d3, d4, d5, d6, d7⟩ := ih f (b + 1) _ σ1 (by omega) (by omega) (fw_lt hj0 _) (F.fr (by rw [e1 10 (by decide) (by decide)]) (e1 11 (by decide) (by decide)) (e1 12 (by decide) (by decide))) hBo1 P1 C1
      refine ⟨σ', ?_, fun q h1 h2 h3 => by rw [d2 q h1 h2 h3, e1 q h1 h3], d3, by rw [d4, e1 10 (by decide) (by decide)], fun k h3 h9 => by rw [d5 k h3 h9, e1 10 (by decide) (by decide)], d6, d7⟩
      unfold fX1_codeWave_b48
      rw [c1, bd_s, nm_s, nm_s, nI_1]
      simp only [Nat.add_zero]
      rw [c13]
      exact d1
    have hX : fX1_codeWave_L4 0 (f + 1) (nI j) (nI b) σ = if σ 12 1 = 1 then (bd2 (fX1_bestStart 0 (nI (b * B)) (nI (eo M B b)) σ) fun r17 s18 => fX1_codeWave_b48 0 (fun x2 x3 σ => fX1_codeWave_L4 0 f x2 x3 σ) r17 (nI b) s18) else fX1_codeWave_b48 0 (fun x2 x3 σ => fX1_codeWave_L4 0 f x2 x3 σ) (nI j) (nI b) σ := by
      rw [fX1_codeWave_L4, if_neg (show ¬ (32 : Int32) ≤ nI b from nI_ge (a := b) (b := 32) hb32 (by decide)), x_so a2, bd_s]
      simp only [Nat.mul_zero, Nat.add_zero, Nat.reduceAdd]
      rw [a1, if_neg (nI_ge hbM (by omega)), bd_s, x_eo hM1 hB2 a1 a2 hbM, bd_s]
    rw [hX, a3]
    by_cases h3 : s 3 = 1
    · rw [if_pos h3]
      obtain ⟨r, σ0, r1, r2, r3⟩ := x_best (s := s) (σ := σ) (a := b * B) (m := eo M B b - b * B) (by omega) (by omega) (fun i hi => a4 i (by omega))
      rw [show b * B + (eo M B b - b * B) = eo M B b by omega] at r1
      rw [r1, bd2_s]
      exact key σ0 r r2.1 r3 (fun _ => r2) (fun z => absurd h3 z)
    · rw [if_neg h3]
      exact key σ j hj (fun _ _ => rfl) (fun z => absurd z h3) (fun _ => C)
