/-! PURE: copies of states, the saved states -/
theorem x_cfL {i0 i1 : Nat} (hne : i0 ≠ i1) : ∀ n f k (τ : Sg), n < f → k + n = 32 → Bo τ (10 + 8 * i1) → (∀ i, i < k → τ (10 + 8 * i0 + 5) i = τ (10 + 8 * i1 + 5) i) → ∃ σ', fX4_copyFrom_L100 i0 i1 f (nI k) τ = some σ' ∧ (∀ q, q ≠ 10 + 8 * i0 + 5 → σ' q = τ q) ∧ ∀ i, i < 32 → σ' (10 + 8 * i0 + 5) i = τ (10 + 8 * i1 + 5) i := by
  intro n
  induction n with
  | zero =>
    intro f k τ hf hk hB hi
    obtain ⟨f, rfl⟩ := fu1 hf
    obtain rfl : k = 32 := by omega
    rw [fX4_copyFrom_L100, if_pos (show (32 : Int32) ≤ nI 32 by decide)]
    exact ⟨τ, rfl, fun _ _ => rfl, fun i h => hi i h⟩
  | succ n ih =>
    intro f k τ hf hk hB hi
    obtain ⟨f, rfl⟩ := fu1 hf
    have hk2 : k < 32 := by omega
    rw [fX4_copyFrom_L100, if_neg (show ¬ (32 : Int32) ≤ nI k from nI_ge (a := k) (b := 32) hk2 (by decide)), gi hk2 (by decide), gi hk2 (by decide), nI_clamp (show k < 2 ^ 31 by omega), gd_of (hB k hk2)]
    simp only [nm_s, nI_1]
    obtain ⟨σ', e1, e2, e3⟩ := ih f (k + 1) (up2 τ (10 + 8 * i0 + 5) k (τ (10 + 8 * i1 + 5) k)) (by omega) (by omega) (by
      intro j hj
      rw [up2_ne (by omega)]
      exact hB j hj) (by
      intro i h
      rw [up2_self, up2_ne (show 10 + 8 * i1 + 5 ≠ 10 + 8 * i0 + 5 by omega)]
      by_cases q : i = k
      · rw [q, pk_us]
      · rw [pk_un q]
        exact hi i (by omega))
    refine ⟨σ', e1, fun q hq => by rw [e2 q hq, up2_ne hq], fun i h => ?_⟩
    rw [e3 i h, up2_ne (show 10 + 8 * i1 + 5 ≠ 10 + 8 * i0 + 5 by omega)]
theorem x_cf {σ : Sg} {i0 i1 : Nat} (hne : i0 ≠ i1) (hB : Bo σ (10 + 8 * i1)) : ∃ σ', fX4_copyFrom i0 i1 σ = some σ' ∧ (∀ q, q < 10 + 8 * i0 ∨ 10 + 8 * i0 + 8 ≤ q → σ' q = σ q) ∧ EqS σ' (10 + 8 * i0) σ (10 + 8 * i1) ∧ Bo σ' (10 + 8 * i0) := by
  have hn : ∀ j j' : Nat, j < 8 → j' < 8 → 10 + 8 * i1 + j ≠ 10 + 8 * i0 + j' := by omega
  obtain ⟨τ, hτ⟩ : ∃ τ : Sg, τ = upR (upR (upR (upR (upR (upR (up2 (up2 (up2 (up2 σ (10 + 8 * i0) 0 (σ (10 + 8 * i1) 0)) (10 + 8 * i0) 3 (σ (10 + 8 * i1) 3)) (10 + 8 * i0) 9 (σ (10 + 8 * i1) 9)) (10 + 8 * i0) 10 (σ (10 + 8 * i1) 10)) (10 + 8 * i0 + 1) (va_cpy (σ (10 + 8 * i1 + 1)) (σ (10 + 8 * i0 + 1)) 0 0 64)) (10 + 8 * i0 + 2) (va_cpy (σ (10 + 8 * i1 + 2)) (σ (10 + 8 * i0 + 2)) 0 0 3)) (10 + 8 * i0 + 3) (va_cpy (σ (10 + 8 * i1 + 3)) (σ (10 + 8 * i0 + 3)) 0 0 32)) (10 + 8 * i0 + 4) (va_cpy (σ (10 + 8 * i1 + 4)) (σ (10 + 8 * i0 + 4)) 0 0 32)) (10 + 8 * i0 + 6) (va_cpy (σ (10 + 8 * i1 + 6)) (σ (10 + 8 * i0 + 6)) 0 0 64)) (10 + 8 * i0 + 7) (va_cpy (σ (10 + 8 * i1 + 7)) (σ (10 + 8 * i0 + 7)) 0 0 64) := ⟨_, rfl⟩
  have hτ1 : ∀ j, j < 8 → τ (10 + 8 * i1 + j) = σ (10 + 8 * i1 + j) := by
    intro j hj
    rw [hτ, upR_ne (hn j 7 hj (by decide)), upR_ne (hn j 6 hj (by decide)), upR_ne (hn j 4 hj (by decide)), upR_ne (hn j 3 hj (by decide)), upR_ne (hn j 2 hj (by decide)), upR_ne (hn j 1 hj (by decide))]
    have hz : 10 + 8 * i1 + j ≠ 10 + 8 * i0 := hn j 0 hj (by decide)
    rw [up2_ne hz, up2_ne hz, up2_ne hz, up2_ne hz]
  have hbody : fX4_copyFrom i0 i1 σ = fX4_copyFrom_L100 i0 i1 80 0 τ := by
    rw [hτ]
    unfold fX4_copyFrom
    simp only [nm_s]
    have a0 : 10 + 8 * i1 ≠ 10 + 8 * i0 := hn 0 0 (by decide) (by decide)
    have a1 : 10 + 8 * i1 + 1 ≠ 10 + 8 * i0 := hn 1 0 (by decide) (by decide)
    have a2 : 10 + 8 * i1 + 2 ≠ 10 + 8 * i0 := hn 2 0 (by decide) (by decide)
    have a3 : 10 + 8 * i1 + 3 ≠ 10 + 8 * i0 := hn 3 0 (by decide) (by decide)
    have a4 : 10 + 8 * i1 + 4 ≠ 10 + 8 * i0 := hn 4 0 (by decide) (by decide)
    have a6 : 10 + 8 * i1 + 6 ≠ 10 + 8 * i0 := hn 6 0 (by decide) (by decide)
    have a7 : 10 + 8 * i1 + 7 ≠ 10 + 8 * i0 := hn 7 0 (by decide) (by decide)
    have d : ∀ j j' : Nat, j ≠ j' → 10 + 8 * i0 + j ≠ 10 + 8 * i0 + j' := by omega
    have z : ∀ j : Nat, 0 < j → 10 + 8 * i0 + j ≠ 10 + 8 * i0 := by omega
    have b : ∀ j j' : Nat, j < 8 → j' < 8 → 10 + 8 * i1 + j ≠ 10 + 8 * i0 + j' := hn
    simp only [up2_ne a0, up2_ne a1, up2_ne a2, up2_ne a3, up2_ne a4, up2_ne a6, up2_ne a7, upR_ne (b 2 1 (by decide) (by decide)), upR_ne (b 3 1 (by decide) (by decide)), upR_ne (b 4 1 (by decide) (by decide)), upR_ne (b 6 1 (by decide) (by decide)), upR_ne (b 7 1 (by decide) (by decide)), upR_ne (b 3 2 (by decide) (by decide)), upR_ne (b 4 2 (by decide) (by decide)), upR_ne (b 6 2 (by decide) (by decide)), upR_ne (b 7 2 (by decide) (by decide)), upR_ne (b 4 3 (by decide) (by decide)), upR_ne (b 6 3 (by decide) (by decide)), upR_ne (b 7 3 (by decide) (by decide)), upR_ne (b 6 4 (by decide) (by decide)), upR_ne (b 7 4 (by decide) (by decide)), upR_ne (b 7 6 (by decide) (by decide)),
      up2_ne (z 1 (by decide)), up2_ne (z 2 (by decide)), up2_ne (z 3 (by decide)), up2_ne (z 4 (by decide)), up2_ne (z 6 (by decide)), up2_ne (z 7 (by decide)),
      upR_ne (d 2 1 (by decide)), upR_ne (d 3 1 (by decide)), upR_ne (d 4 1 (by decide)), upR_ne (d 6 1 (by decide)), upR_ne (d 7 1 (by decide)), upR_ne (d 3 2 (by decide)), upR_ne (d 4 2 (by decide)), upR_ne (d 6 2 (by decide)), upR_ne (d 7 2 (by decide)), upR_ne (d 4 3 (by decide)), upR_ne (d 6 3 (by decide)), upR_ne (d 7 3 (by decide)), upR_ne (d 6 4 (by decide)), upR_ne (d 7 4 (by decide)), upR_ne (d 7 6 (by decide))]
  obtain ⟨σ', e1, e2, e3⟩ := x_cfL hne 32 80 0 τ (by decide) (by decide) (by
    intro k hk
    rw [hτ1 5 (by decide)]
    exact hB k hk) (fun i h => by omega)
  refine ⟨σ', by rw [hbody, n0]; exact e1, fun q hq => ?_, ?_, ?_⟩
  · rw [e2 q (by omega), hτ, upR_ne (by omega), upR_ne (by omega), upR_ne (by omega), upR_ne (by omega), upR_ne (by omega), upR_ne (by omega), up2_ne (by omega), up2_ne (by omega), up2_ne (by omega), up2_ne (by omega)]
  · have c0 : σ' (10 + 8 * i0) = upd (upd (upd (upd (σ (10 + 8 * i0)) 0 (σ (10 + 8 * i1) 0)) 3 (σ (10 + 8 * i1) 3)) 9 (σ (10 + 8 * i1) 9)) 10 (σ (10 + 8 * i1) 10) := by
      rw [e2 _ (by omega), hτ, upR_ne (by omega), upR_ne (by omega), upR_ne (by omega), upR_ne (by omega), upR_ne (by omega), upR_ne (by omega), up2_self, up2_self, up2_self, up2_self]
    have c1 : σ' (10 + 8 * i0 + 1) = va_cpy (σ (10 + 8 * i1 + 1)) (σ (10 + 8 * i0 + 1)) 0 0 64 := by
      rw [e2 _ (by omega), hτ, upR_ne (by omega), upR_ne (by omega), upR_ne (by omega), upR_ne (by omega), upR_ne (by omega), upR_self]
    have c2 : σ' (10 + 8 * i0 + 2) = va_cpy (σ (10 + 8 * i1 + 2)) (σ (10 + 8 * i0 + 2)) 0 0 3 := by
      rw [e2 _ (by omega), hτ, upR_ne (by omega), upR_ne (by omega), upR_ne (by omega), upR_ne (by omega), upR_self]
    have c3 : σ' (10 + 8 * i0 + 3) = va_cpy (σ (10 + 8 * i1 + 3)) (σ (10 + 8 * i0 + 3)) 0 0 32 := by
      rw [e2 _ (by omega), hτ, upR_ne (by omega), upR_ne (by omega), upR_ne (by omega), upR_self]
    have c4 : σ' (10 + 8 * i0 + 4) = va_cpy (σ (10 + 8 * i1 + 4)) (σ (10 + 8 * i0 + 4)) 0 0 32 := by
      rw [e2 _ (by omega), hτ, upR_ne (by omega), upR_ne (by omega), upR_self]
    have c6 : σ' (10 + 8 * i0 + 6) = va_cpy (σ (10 + 8 * i1 + 6)) (σ (10 + 8 * i0 + 6)) 0 0 64 := by
      rw [e2 _ (by omega), hτ, upR_ne (by omega), upR_self]
    have c7 : σ' (10 + 8 * i0 + 7) = va_cpy (σ (10 + 8 * i1 + 7)) (σ (10 + 8 * i0 + 7)) 0 0 64 := by
      rw [e2 _ (by omega), hτ, upR_self]
    have cp : ∀ (f g : Nat → Int32) (n k : Nat), k < n → va_cpy f g 0 0 n k = f k := fun f g n k hk => by
      rw [pk_cpy_in (Nat.zero_le k) (by omega), Nat.zero_add, Nat.sub_zero]
    refine ⟨?_, fun k hk => by rw [c1, cp _ _ _ _ hk], fun k hk => by rw [c2, cp _ _ _ _ hk], fun k hk => ?_, fun k hk => by rw [c6, c7, cp _ _ _ _ hk, cp _ _ _ _ hk]; exact ⟨rfl, rfl⟩⟩
    · rw [c0]
      refine ⟨rfl, rfl, rfl, rfl⟩
    · rw [c3, c4, cp _ _ _ _ hk, cp _ _ _ _ hk, e3 k hk, hτ1 5 (by decide)]
      exact ⟨rfl, rfl, rfl⟩
  · intro k hk
    rw [e3 k hk, hτ1 5 (by decide)]
    exact hB k hk
theorem x_dropL {π : Nat → Nat} {j : Nat} : ∀ n f x (τ : Sg), n < f → 1 ≤ x → x + n = 6 → (∀ t, x ≤ t → t < 6 → τ 2 t = nI (π t) ∧ π t < 9) → ∃ τ', fX3_dropOldest_L9 f j (nI x) τ = some τ' ∧ (∀ q, q ≠ 2 → q ≠ 1 → τ' q = τ q) ∧ (∀ t, t < x - 1 → τ' 2 t = τ 2 t) ∧ (∀ t, x - 1 ≤ t → t < 5 → τ' 2 t = nI (π (t + 1))) ∧ τ' 2 5 = nI j ∧ τ' 1 1 = τ 1 1 - 1 := by
  intro n
  induction n with
  | zero =>
    intro f x τ hf hx hk hp
    obtain ⟨f, rfl⟩ := fu1 hf
    obtain rfl : x = 6 := by omega
    rw [fX3_dropOldest_L9, if_pos (show (6 : Int32) ≤ nI 6 by decide), show (5 : Int32).toNatClampNeg = 5 by decide]
    simp only [nm_s]
    refine ⟨_, rfl, fun q h2 h1 => by rw [up2_ne h1, up2_ne h2], fun t ht => ?_, fun t h1 h2 => by omega, ?_, ?_⟩
    · rw [up2_ne (by decide), up2_self, pk_un (by omega)]
    · rw [up2_ne (by decide), up2_self, pk_us]
    · rw [up2_self, pk_us, up2_ne (by decide)]
  | succ n ih =>
    intro f x τ hf hx hk hp
    obtain ⟨f, rfl⟩ := fu1 hf
    obtain ⟨p1, p2⟩ := hp x (Nat.le_refl x) (by omega)
    have e5 : nI x - 1 = nI (x - 1) := pk_sub (b := 1) hx
    rw [fX3_dropOldest_L9, if_neg (show ¬ (6 : Int32) ≤ nI x from nI_ge (a := x) (b := 6) (by omega) (by decide)), gi (show x < 6 by omega) (by decide), e5]
    simp only [nm_s, nI_1]
    rw [nI_clamp (show x < 2 ^ 31 by omega), p1, nI_clamp (show π x < 2 ^ 31 by omega), gd_of p2, gi (show x - 1 < 6 by omega) (by decide), nI_clamp (show x - 1 < 2 ^ 31 by omega)]
    obtain ⟨τ', a1, a2, a3, a4, a5, a6⟩ := ih f (x + 1) (up2 τ 2 (x - 1) (nI (π x))) (by omega) (by omega) (by omega) (fun t h1 h2 => by
      rw [up2_self, pk_un (by omega)]
      exact hp t (by omega) h2)
    refine ⟨τ', a1, fun q h2 h1 => by rw [a2 q h2 h1, up2_ne h2], fun t ht => ?_, fun t h1 h2 => ?_, a5, ?_⟩
    · rw [a3 t (by omega), up2_self, pk_un (by omega)]
    · by_cases q : t = x - 1
      · rw [a3 t (by omega), up2_self, q, pk_us, show x - 1 + 1 = x by omega]
      · exact a4 t (by omega) h2
    · rw [a6, up2_ne (by decide)]
theorem m_sL11 : ∀ n f x (u : Sg), n < f → x + n = 1475 → ∃ u', fX7_save_L11 f (nI x) u = fX7_save_L52 1600 (nI 0) (up2 u' 20 3 (u 20 3 - 1)) ∧ (∀ q, q ≠ 1 → u' q = u q) ∧ ∀ i, u' 1 i = if x ≤ i ∧ i < 1475 then u 1 (295 + i) else u 1 i := by
  intro n
  induction n with
  | zero =>
    intro f x u hf hk
    obtain ⟨f, rfl⟩ := fu1 hf
    obtain rfl : x = 1475 := by omega
    rw [fX7_save_L11, if_pos (show (1475 : Int32) ≤ nI 1475 by decide), n0, nm_s]
    exact ⟨u, rfl, fun _ _ => rfl, fun i => by rw [if_neg (by omega)]⟩
  | succ n ih =>
    intro f x u hf hk
    obtain ⟨f, rfl⟩ := fu1 hf
    rw [fX7_save_L11, if_neg (show ¬ (1475 : Int32) ≤ nI x from nI_ge (a := x) (b := 1475) (by omega) (by decide)), o295, gi (show 295 + x < 1770 by omega) (by decide), gi (show x < 1770 by omega) (by decide), nI_clamp (show x < 2 ^ 31 by omega), nI_clamp (show 295 + x < 2 ^ 31 by omega)]
    simp only [nm_s, nI_1]
    obtain ⟨u', a1, a2, a3⟩ := ih f (x + 1) (up2 u 1 x (u 1 (295 + x))) (by omega) (by omega)
    refine ⟨u', ?_, fun q hq => by rw [a2 q hq, up2_ne hq], fun i => ?_⟩
    · rw [a1, up2_ne (show 20 ≠ 1 by decide)]
    · rw [a3 i, up2_self]
      by_cases h1 : x + 1 ≤ i ∧ i < 1475
      · rw [if_pos h1, if_pos (by omega), pk_un (by omega)]
      · rw [if_neg h1]
        by_cases h2 : i = x
        · rw [h2, pk_us, if_pos (by omega)]
        · rw [pk_un h2, if_neg (by omega)]
theorem m_sL52 {h : Nat} (hh : h < 6) : ∀ n f x (u : Sg), n < f → x + n = 295 → u 20 3 = nI h → ∃ u', fX7_save_L52 f (nI x) u = some u' ∧ (∀ q, q ≠ 1 → q ≠ 20 → u' q = u q) ∧ (∀ k, k ≠ 3 → u' 20 k = u 20 k) ∧ u' 20 3 = nI (h + 1) ∧ ∀ i, u' 1 i = if 295 * h + x ≤ i ∧ i < 295 * h + 295 then u 0 (i - 295 * h) else u 1 i := by
  intro n
  induction n with
  | zero =>
    intro f x u hf hk h3
    obtain ⟨f, rfl⟩ := fu1 hf
    obtain rfl : x = 295 := by omega
    rw [fX7_save_L52, if_pos (show (295 : Int32) ≤ nI 295 by decide), nm_s, h3, nI_1]
    refine ⟨_, rfl, fun q h1 h2 => up2_ne h2, fun k hk => by rw [up2_self, pk_un hk], by rw [up2_self, pk_us], fun i => by rw [up2_ne (by decide), if_neg (by omega)]⟩
  | succ n ih =>
    intro f x u hf hk h3
    obtain ⟨f, rfl⟩ := fu1 hf
    rw [fX7_save_L52, if_neg (show ¬ (295 : Int32) ≤ nI x from nI_ge (a := x) (b := 295) (by omega) (by decide)), h3, m295, nI_add, gi (show x < 295 by omega) (by decide), gi (show 295 * h + x < 1770 by omega) (by decide), nI_clamp (show x < 2 ^ 31 by omega), nI_clamp (show 295 * h + x < 2 ^ 31 by omega)]
    simp only [nm_s, nI_1]
    obtain ⟨u', a1, a2, a3, a4, a5⟩ := ih f (x + 1) (up2 u 1 (295 * h + x) (u 0 x)) (by omega) (by omega) (by rw [up2_ne (by decide)]; exact h3)
    refine ⟨u', a1, fun q h1 h2 => by rw [a2 q h1 h2, up2_ne h1], fun k hk => by rw [a3 k hk, up2_ne (by decide)], a4, fun i => ?_⟩
    rw [a5 i, up2_self, up2_ne (show 0 ≠ 1 by decide)]
    by_cases h1 : 295 * h + (x + 1) ≤ i ∧ i < 295 * h + 295
    · rw [if_pos h1, if_pos (by omega)]
    · rw [if_neg h1]
      by_cases h2 : i = 295 * h + x
      · rw [h2, pk_us, if_pos (by omega), show 295 * h + x - 295 * h = x by omega]
      · rw [pk_un h2, if_neg (by omega)]
