/-! PURE: firstError, write -/
theorem Rl.rd {σ μ σ' μ' : Sg} {dg : Int64} (hR : Rl σ μ dg) (hx : Fx σ σ') (hm : Fm μ μ') (dg' : Int64) : Rl σ' μ' dg' := by
  have hR' := hR
  obtain ⟨a, _, c, _, e, _, g⟩ := hR'
  refine hR.re ?_ ?_ (e.fr hx.2 (hx.1 6 (by decide) (by decide)) (hm.2 7 (by decide) (by decide) (by decide) (by decide) (by decide)) (hm.1 4 (by decide) (by decide))) (g.fr (by rw [hx.1 86 (by decide) (by decide)]) (hx.1 87 (by decide) (by decide)) (hx.1 88 (by decide) (by decide)) (hm.1 0 (by decide) (by decide))) (fun q hq => hx.1 q (by omega) (by omega)) (hm.1 1 (by decide) (by decide)) (hm.1 2 (by decide) (by decide)) (hm.1 3 (by decide) (by decide)) (hm.1 5 (by decide) (by decide)) (hm.2 3 (by decide) (by decide) (by decide) (by decide) (by decide))
  · rw [hm.1 0 (by decide) (by decide)]
    exact a.eqs (EqS.of (fun j hj => hx.1 _ (by omega) (by omega)))
  · intro k hk
    rw [hx.1 _ (by decide) (by decide)]
    exact c 0 (by decide) k hk
/-- the two buffers while a text is written -/
def Wb (σ μ : Sg) (L : Nat) : Prop := σ 5 1 = nI L ∧ μ 20 7 = nI L ∧ ∀ k, k < L → σ 6 k = μ 4 k
def Gx (σ0 σ : Sg) : Prop := (∀ q, q ≠ 5 → q ≠ 6 → σ q = σ0 q) ∧ ∀ k, k ≠ 1 → σ 5 k = σ0 5 k
def Gm (μ0 μ : Sg) : Prop := (∀ q, q ≠ 4 → q ≠ 20 → μ q = μ0 q) ∧ ∀ k, k ≠ 7 → μ 20 k = μ0 20 k
theorem Gx.rf (σ : Sg) : Gx σ σ := ⟨fun _ _ _ => rfl, fun _ _ => rfl⟩
theorem Gm.rf (σ : Sg) : Gm σ σ := ⟨fun _ _ _ => rfl, fun _ _ => rfl⟩
theorem Gx.tr {a b c : Sg} (h : Gx a b) (h' : Gx b c) : Gx a c := ⟨fun q h1 h2 => by rw [h'.1 q h1 h2, h.1 q h1 h2], fun k h1 => by rw [h'.2 k h1, h.2 k h1]⟩
theorem Gm.tr {a b c : Sg} (h : Gm a b) (h' : Gm b c) : Gm a c := ⟨fun q h1 h2 => by rw [h'.1 q h1 h2, h.1 q h1 h2], fun k h1 => by rw [h'.2 k h1, h.2 k h1]⟩
theorem xm_put {σ μ : Sg} {L : Nat} (h : Wb σ μ L) (hL : L < 40) (c : Int32) : ∃ σ' μ', fX0_put c σ = some σ' ∧ fX7_writes c μ = some μ' ∧ Wb σ' μ' (L + 1) ∧ Gx σ σ' ∧ Gm μ μ' := by
  obtain ⟨a1, a2, a3⟩ := h
  refine ⟨up2 (up2 σ 6 L c) 5 1 (nI (L + 1)), up2 (up2 μ 4 L c) 20 7 (nI (L + 1)), ?_, ?_, ⟨by rw [up2_self, pk_us], by rw [up2_self, pk_us], fun k hk => ?_⟩, ⟨fun q h5 h6 => by rw [up2_ne h5, up2_ne h6], fun k hk => by rw [up2_self, pk_un hk, up2_ne (by decide)]⟩, ⟨fun q h4 h20 => by rw [up2_ne h20, up2_ne h4], fun k hk => by rw [up2_self, pk_un hk, up2_ne (by decide)]⟩⟩
  · unfold fX0_put fX0_isFull
    rw [a1, if_pos (show nI L < 40 from nI_lt (b := 40) hL (by decide)), bd_s, if_pos rfl, gi hL (by decide), nI_clamp (show L < 2 ^ 31 by omega), nm_s, up2_ne (show 5 ≠ 6 by decide), a1, nI_1, nm_s]
  · unfold fX7_writes
    rw [a2, gi hL (by decide), nI_clamp (show L < 2 ^ 31 by omega), nm_s, up2_ne (show 20 ≠ 4 by decide), a2, nI_1, nm_s]
  · rw [up2_ne (show 6 ≠ 5 by decide), up2_self, up2_ne (show 4 ≠ 20 by decide), up2_self]
    by_cases q : k = L
    · rw [q, pk_us, pk_us]
    · rw [pk_un q, pk_un q]
      exact a3 k (by omega)
theorem nu_0 (f g : Nat) (x a : Int32) (σ μ : Sg) : fX0_putNumber_L19 (f + 1) x 0 σ = some σ ∧ fX7_writesNumber_L37 a (g + 1) 0 μ = some μ := by
  rw [fX0_putNumber_L19, if_pos (by decide), fX7_writesNumber_L37, if_pos (by decide)]
  exact ⟨rfl, rfl⟩
theorem nu_s {s u f g L : Nat} {σ μ : Sg} (h : Wb σ μ L) (hL : L < 40) (hu : 0 < u) (hu2 : u ≤ 1000) (hs : s ≤ 2048) (hw : u ≤ s ∨ u = 1) : ∃ σ' μ', fX0_putNumber_L19 (f + 1) (nI s) (nI u) σ = fX0_putNumber_L19 f (nI s) (nI u / 10) σ' ∧ fX7_writesNumber_L37 (nI s) (g + 1) (nI u) μ = fX7_writesNumber_L37 (nI s) g (nI u / 10) μ' ∧ Wb σ' μ' (L + 1) ∧ Gx σ σ' ∧ Gm μ μ' := by
  obtain ⟨σ', μ', e1, e2, e3, e4, e5⟩ := xm_put h hL (48 + ((nI s / nI u) - (nI s / nI u) / 10 * 10))
  have hu0 : ¬ nI u = 0 := nI_ne0 hu (by omega)
  have hb : fX0_putNumber_b33 (fun x2 x3 σ => fX0_putNumber_L19 f x2 x3 σ) (nI s) (nI u) σ = fX0_putNumber_L19 f (nI s) (nI u / 10) σ' := by
    unfold fX0_putNumber_b33
    rw [gd_of hu0, e1, bd_s, nm_s]
  refine ⟨σ', μ', ?_, ?_, e3, e4, e5⟩
  · rw [fX0_putNumber_L19, if_neg (nI_nle hu (by omega))]
    by_cases q : nI u ≤ nI s
    · rw [if_pos q, hb]
    · rw [if_neg q, if_pos (by
        rcases hw with z | z
        · exact absurd (nI_le z (by omega)) q
        · rw [z]; rfl), hb]
  · rw [fX7_writesNumber_L37, if_neg (nI_nle hu (by omega)), gd_of hu0, e2, bd_s, nm_s]
theorem nu_k {s u f : Nat} {σ : Sg} (hu : 1 < u) (hu2 : u ≤ 1000) (hs : s < u) : fX0_putNumber_L19 (f + 1) (nI s) (nI u) σ = fX0_putNumber_L19 f (nI s) (nI u / 10) σ := by
  rw [fX0_putNumber_L19, if_neg (nI_nle (by omega) (by omega)), if_neg (nI_ge hs (by omega)), if_neg (show ¬ nI u = 1 from fun q => by
    have := (nI_eq (b := 1) (by omega) (by decide)).mp q
    omega), nm_s]
theorem nu_1 {s f g L : Nat} {σ μ : Sg} (h : Wb σ μ L) (hL : L + 1 ≤ 40) (hs : s ≤ 2048) : ∃ σ' μ', fX0_putNumber_L19 (f + 1 + 1) (nI s) (nI 1) σ = some σ' ∧ fX7_writesNumber_L37 (nI s) (g + 1 + 1) (nI 1) μ = some μ' ∧ Wb σ' μ' (L + 1) ∧ Gx σ σ' ∧ Gm μ μ' := by
  obtain ⟨σ1, μ1, e1, e2, e3, e4, e5⟩ := nu_s (u := 1) (f := f + 1) (g := g + 1) h (by omega) (by decide) (by decide) hs (Or.inr rfl)
  obtain ⟨z1, z2⟩ := nu_0 f g (nI s) (nI s) σ1 μ1
  exact ⟨σ1, μ1, e1.trans z1, e2.trans z2, e3, e4, e5⟩
theorem nu_10 {s f g L : Nat} {σ μ : Sg} (h : Wb σ μ L) (hL : L + 2 ≤ 40) (hs : s ≤ 2048) (h10 : 10 ≤ s) : ∃ σ' μ', fX0_putNumber_L19 (f + 1 + 1 + 1) (nI s) (nI 10) σ = some σ' ∧ fX7_writesNumber_L37 (nI s) (g + 1 + 1 + 1) (nI 10) μ = some μ' ∧ Wb σ' μ' (L + 2) ∧ Gx σ σ' ∧ Gm μ μ' := by
  obtain ⟨σ1, μ1, e1, e2, e3, e4, e5⟩ := nu_s (u := 10) (f := f + 1 + 1) (g := g + 1 + 1) h (by omega) (by decide) (by decide) hs (Or.inl h10)
  obtain ⟨σ2, μ2, z1, z2, z3, z4, z5⟩ := nu_1 (f := f) (g := g) e3 (by omega) hs
  rw [show nI 10 / 10 = nI 1 by decide] at e1 e2
  exact ⟨σ2, μ2, e1.trans z1, e2.trans z2, z3, e4.tr z4, e5.tr z5⟩
theorem nu_100 {s f g L : Nat} {σ μ : Sg} (h : Wb σ μ L) (hL : L + 3 ≤ 40) (hs : s ≤ 2048) (h10 : 100 ≤ s) : ∃ σ' μ', fX0_putNumber_L19 (f + 1 + 1 + 1 + 1) (nI s) (nI 100) σ = some σ' ∧ fX7_writesNumber_L37 (nI s) (g + 1 + 1 + 1 + 1) (nI 100) μ = some μ' ∧ Wb σ' μ' (L + 3) ∧ Gx σ σ' ∧ Gm μ μ' := by
  obtain ⟨σ1, μ1, e1, e2, e3, e4, e5⟩ := nu_s (u := 100) (f := f + 1 + 1 + 1) (g := g + 1 + 1 + 1) h (by omega) (by decide) (by decide) hs (Or.inl h10)
  obtain ⟨σ2, μ2, z1, z2, z3, z4, z5⟩ := nu_10 (f := f) (g := g) e3 (by omega) hs (by omega)
  rw [show nI 100 / 10 = nI 10 by decide] at e1 e2
  exact ⟨σ2, μ2, e1.trans z1, e2.trans z2, z3, e4.tr z4, e5.tr z5⟩
theorem xm_num {s L : Nat} {σ μ : Sg} (h : Wb σ μ L) (hL : L + 4 ≤ 40) (hs : s ≤ 2048) : ∃ σ' μ' L', fX0_putNumber_L19 80 (nI s) 1000 σ = some σ' ∧ fX7_writesNumber (nI s) μ = some μ' ∧ Wb σ' μ' L' ∧ L' ≤ L + 4 ∧ Gx σ σ' ∧ Gm μ μ' := by
  obtain ⟨F, hF⟩ : ∃ F, F + 1 + 1 + 1 + 1 + 1 = 80 := ⟨75, rfl⟩
  have k1 : nI 1000 / 10 = nI 100 := by decide
  have k2 : nI 100 / 10 = nI 10 := by decide
  have k3 : nI 10 / 10 = nI 1 := by decide
  unfold fX7_writesNumber
  rw [← hF, show (1000 : Int32) = nI 1000 from rfl, show (999 : Int32) = nI 999 from rfl, show (99 : Int32) = nI 99 from rfl, show (9 : Int32) = nI 9 from rfl, show (100 : Int32) = nI 100 from rfl, show (1 : Int32) = nI 1 from rfl]
  by_cases q1 : s ≤ 999
  · rw [if_pos (nI_le q1 (by omega)), nu_k (by decide) (by decide) (by omega), k1]
    by_cases q2 : s ≤ 99
    · rw [if_pos (nI_le q2 (by omega)), nu_k (by decide) (by decide) (by omega), k2]
      by_cases q3 : s ≤ 9
      · rw [if_pos (nI_le q3 (by omega)), nu_k (by decide) (by decide) (by omega), k3]
        obtain ⟨σ', μ', e1, e2, e3, e4, e5⟩ := nu_1 (f := F) (g := F + 1 + 1 + 1) h (by omega) hs
        exact ⟨σ', μ', L + 1, e1, e2, e3, by omega, e4, e5⟩
      · rw [if_neg (nI_ge (show 9 < s by omega) (by omega)), show (10 : Int32) = nI 10 from rfl]
        obtain ⟨σ', μ', e1, e2, e3, e4, e5⟩ := nu_10 (f := F) (g := F + 1 + 1) h (by omega) hs (by omega)
        exact ⟨σ', μ', L + 2, e1, e2, e3, by omega, e4, e5⟩
    · rw [if_neg (nI_ge (show 99 < s by omega) (by omega))]
      obtain ⟨σ', μ', e1, e2, e3, e4, e5⟩ := nu_100 (f := F) (g := F + 1) h (by omega) hs (by omega)
      exact ⟨σ', μ', L + 3, e1, e2, e3, by omega, e4, e5⟩
  · rw [if_neg (nI_ge (show 999 < s by omega) (by omega))]
    obtain ⟨σ1, μ1, e1, e2, e3, e4, e5⟩ := nu_s (u := 1000) (f := F + 1 + 1 + 1 + 1) (g := F + 1 + 1 + 1 + 1) h (by omega) (by decide) (by decide) hs (Or.inl (by omega))
    obtain ⟨σ2, μ2, z1, z2, z3, z4, z5⟩ := nu_100 (f := F) (g := F) e3 (by omega) hs (by omega)
    rw [k1] at e1 e2
    exact ⟨σ2, μ2, L + 1 + 3, e1.trans z1, e2.trans z2, z3, by omega, e4.tr z4, e5.tr z5⟩
theorem xm_tlL {M B b : Nat} (hM1 : M ≤ 64) (hB2 : B ≤ 16) (hb : b * B < M) : ∀ n f k L (σ μ : Sg), n < f → k + n = eo M B b → L + n ≤ 40 → Wb σ μ L → σ 10 0 = nI M → σ 12 0 = nI B → μ 0 0 = nI M → μ 0 2 = nI B → (∀ i, i < M → σ 16 i = μ 0 (71 + i)) → ∃ σ' μ' L', fX0_tell_L45 0 (nI b) f (nI k) σ = some σ' ∧ fX7_write_L99 (nI b) f (nI k) μ = some (nI L', μ') ∧ L' ≤ 40 ∧ Wb σ' μ' L' ∧ Gx σ σ' ∧ Gm μ μ' := by
  intro n
  induction n with
  | zero =>
    intro f k L σ μ hf hk hL hW h10 h12 h0 h2 h16
    obtain ⟨f, rfl⟩ := fu1 hf
    have he : eo M B b ≤ M := Nat.min_le_left _ _
    refine ⟨σ, μ, L, ?_, ?_, by omega, hW, Gx.rf σ, Gm.rf μ⟩
    · rw [fX0_tell_L45, x_eo hM1 hB2 h10 h12 hb, bd_s, if_pos (nI_le (by omega) (by omega))]
    · rw [fX7_write_L99, m_eo hM1 hB2 h0 h2 hb, bd_s, if_pos (nI_le (by omega) (by omega)), hW.2.1]
  | succ n ih =>
    intro f k L σ μ hf hk hL hW h10 h12 h0 h2 h16
    obtain ⟨f, rfl⟩ := fu1 hf
    have he : eo M B b ≤ M := Nat.min_le_left _ _
    have go : ∀ c : Int32, ∃ σ1 μ1, fX0_put c σ = some σ1 ∧ fX7_writes c μ = some μ1 ∧ ∃ σ' μ' L', fX0_tell_L45 0 (nI b) f (nI (k + 1)) σ1 = some σ' ∧ fX7_write_L99 (nI b) f (nI (k + 1)) μ1 = some (nI L', μ') ∧ L' ≤ 40 ∧ Wb σ' μ' L' ∧ Gx σ σ' ∧ Gm μ μ' := by
      intro c
      obtain ⟨σ1, μ1, e1, e2, e3, e4, e5⟩ := xm_put hW (by omega) c
      obtain ⟨σ', μ', L', d1, d2, d3, d4, d5, d6⟩ := ih f (k + 1) (L + 1) σ1 μ1 (by omega) (by omega) (by omega) e3 (by rw [e4.1 10 (by decide) (by decide)]; exact h10) (by rw [e4.1 12 (by decide) (by decide)]; exact h12) (by rw [e5.1 0 (by decide) (by decide)]; exact h0) (by rw [e5.1 0 (by decide) (by decide)]; exact h2) (fun i hi => by rw [e4.1 16 (by decide) (by decide), e5.1 0 (by decide) (by decide)]; exact h16 i hi)
      exact ⟨σ1, μ1, e1, e2, σ', μ', L', d1, d2, d3, d4, e4.tr d5, e5.tr d6⟩
    rw [fX0_tell_L45, x_eo hM1 hB2 h10 h12 hb, bd_s, if_neg (nI_ge (by omega) (by omega)), gi (show k < 64 by omega) (by decide), nI_clamp (show k < 2 ^ 31 by omega), fX7_write_L99, m_eo hM1 hB2 h0 h2 hb, bd_s, if_neg (nI_ge (by omega) (by omega)), o71]
    simp only [gi (show 71 + k < 295 by omega) (by decide), nm_s, Nat.mul_zero, Nat.add_zero, Nat.reduceAdd]
    rw [nI_clamp (show 71 + k < 2 ^ 31 by omega), h16 k (by omega), nI_1]
    by_cases q : (10 : Int32) ≤ μ 0 (71 + k)
    · rw [if_pos q, if_pos q]
      obtain ⟨σ1, μ1, e1, e2, r⟩ := go (97 + μ 0 (71 + k) - 10)
      rw [e1, bd_s, e2, bd_s]
      exact r
    · rw [if_neg q, if_neg q]
      obtain ⟨σ1, μ1, e1, e2, r⟩ := go (48 + μ 0 (71 + k))
      rw [e1, bd_s, e2, bd_s]
      exact r
theorem absN {v : Int32} (h : inV v) : (0 ≤ v ∧ ∃ s, s ≤ 2047 ∧ v = nI s ∧ abI v = nI s) ∨ (¬ 0 ≤ v ∧ ∃ s, s ≤ 2048 ∧ -v = nI s ∧ abI v = nI s ∧ ¬ 0 ≤ v) := by
  unfold inV at h
  by_cases q : (0 : Int32) ≤ v
  · refine Or.inl ⟨q, ?_⟩
    obtain ⟨s, s1, s2, rfl⟩ := rng 0 2047 Int32.toInt_zero (by decide) (show (0 : Int32) ≤ v ∧ v ≤ 2047 from ⟨q, by rw [Int32.le_iff_toInt_le, show (2047 : Int32).toInt = 2047 by decide]; omega⟩)
    refine ⟨s, s2, rfl, ?_⟩
    unfold abI
    rw [if_pos q]
  · refine Or.inr ⟨q, ?_⟩
    have q' := q
    rw [Int32.le_iff_toInt_le, Int32.toInt_zero] at q'
    have en : (-v).toInt = -v.toInt := by
      rw [Int32.toInt_neg]
      exact Int.bmod_eq_of_le (by omega) (by omega)
    have ez : (0 - v).toInt = (0 : Int32).toInt - v.toInt := i_sub (by rw [Int32.toInt_zero]; omega) (by rw [Int32.toInt_zero]; omega)
    rw [Int32.toInt_zero] at ez
    have e1 : -v = nI (-v.toInt).toNat := Int32.toInt_inj.mp (by rw [en, nI_toInt (by omega)]; omega)
    have e2 : 0 - v = nI (-v.toInt).toNat := Int32.toInt_inj.mp (by rw [ez, nI_toInt (by omega)]; omega)
    refine ⟨(-v.toInt).toNat, by omega, e1, ?_, q⟩
    unfold abI
    rw [if_neg q, e2]
