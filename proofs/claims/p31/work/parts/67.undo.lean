/-! PURE: saving, undo, snapshots, both sides -/
theorem sv_step {σ μ : Sg} {h : Nat} (hh : h < 6) (H : Hi σ μ h) (hS : SR σ 10 (μ 0)) (hB : ∀ i, i < 9 → Bo σ (10 + 8 * i)) : ∃ σ' μ', fX3_save_b13 0 σ = some σ' ∧ fX7_save_L52 1600 (nI 0) μ = some μ' ∧ Hi σ' μ' (h + 1) ∧ (∀ q, q ≠ 1 → (q < 34 ∨ 82 ≤ q) → σ' q = σ q) ∧ (∀ q, q ≠ 1 → q ≠ 20 → μ' q = μ q) ∧ (∀ k, k ≠ 3 → μ' 20 k = μ 20 k) ∧ ∀ i, i < 9 → Bo σ' (10 + 8 * i) := by
  obtain ⟨a1, a2, a3, π, p1, p2, p3⟩ := H
  obtain ⟨q1, q2, q3⟩ := p1 h hh
  obtain ⟨τ, e1, e2, e3, e4⟩ := x_cf (σ := σ) (i0 := π h) (i1 := 0) (by omega) (hB 0 (by decide))
  obtain ⟨u', b1, b2, b3, b4, b5⟩ := m_sL52 hh 295 1600 0 μ (by decide) (by decide) a3
  have et1 : τ 1 = σ 1 := e2 1 (by omega)
  have hx : fX3_save_b13 0 σ = some (up2 τ 1 1 (nI (h + 1))) := by
    unfold fX3_save_b13
    rw [a2, gi (show h < 6 by omega) (by decide), nI_clamp (show h < 2 ^ 31 by omega), q3, nI_clamp (show π h < 2 ^ 31 by omega), nm_s, gd_of q2, e1, bd_s, nm_s, et1, a2, nI_1]
  refine ⟨_, u', hx, b1, ⟨by omega, by rw [up2_self, pk_us], b4, π, fun t ht => ?_, p2, fun t ht => ?_⟩, fun q h1 h2 => by rw [up2_ne h1, e2 q (by omega)], b2, b3, fun i hi => ?_⟩
  · rw [up2_ne (by decide), e2 2 (by omega)]
    exact p1 t ht
  · by_cases hth : t = h
    · subst hth
      refine SR.cong (s := μ 0) (SR.eqs (σ := σ) (q := 10) hS ?_) (fun k hk => ?_)
      · have hE : EqS (up2 τ 1 1 (nI (t + 1))) (10 + 8 * π t) τ (10 + 8 * π t) := EqS.of (fun j hj => up2_ne (by omega))
        obtain ⟨x1, x2, x3, x4, x5⟩ := e3
        obtain ⟨y1, y2, y3, y4, y5⟩ := hE
        exact ⟨⟨y1.1.trans x1.1, y1.2.1.trans x1.2.1, y1.2.2.1.trans x1.2.2.1, y1.2.2.2.trans x1.2.2.2⟩, fun k hk => (y2 k hk).trans (x2 k hk), fun k hk => (y3 k hk).trans (x3 k hk), fun k hk => ⟨(y4 k hk).1.trans (x4 k hk).1, (y4 k hk).2.1.trans (x4 k hk).2.1, (y4 k hk).2.2.trans (x4 k hk).2.2⟩, fun k hk => ⟨(y5 k hk).1.trans (x5 k hk).1, (y5 k hk).2.trans (x5 k hk).2⟩⟩
      · rw [b5, if_pos (by omega), show 295 * t + k - 295 * t = k by omega]
    · have hpt := p1 t (by omega)
      have hne : π t ≠ π h := fun e => hth (p2 t h (by omega) hh e)
      refine SR.cong (SR.eqs (p3 t (by omega)) (EqS.of (fun j hj => by rw [up2_ne (by omega), e2 _ (by omega)]))) (fun k hk => ?_)
      rw [b5, if_neg (by omega)]
  · by_cases hi2 : i = π h
    · subst hi2
      intro k hk
      rw [up2_ne (by omega)]
      exact e4 k hk
    · intro k hk
      rw [up2_ne (by omega), e2 _ (by omega)]
      exact hB i hi k hk
theorem sv_drop {σ μ : Sg} (H : Hi σ μ 6) : ∃ σ1 μ1, fX3_dropOldest σ = some σ1 ∧ fX7_save_L11 1600 (nI 0) μ = fX7_save_L52 1600 (nI 0) μ1 ∧ Hi σ1 μ1 5 ∧ (∀ q, q ≠ 1 → q ≠ 2 → σ1 q = σ q) ∧ (∀ q, q ≠ 1 → q ≠ 20 → μ1 q = μ q) ∧ ∀ k, k ≠ 3 → μ1 20 k = μ 20 k := by
  obtain ⟨a1, a2, a3, π, p1, p2, p3⟩ := H
  obtain ⟨q1, q2, q3⟩ := p1 0 (by decide)
  obtain ⟨τ, e1, e2, e3, e4, e5, e6⟩ := x_dropL (π := π) (j := π 0) 5 80 1 σ (by decide) (by decide) (by decide) (fun t h1 h2 => ⟨(p1 t h2).2.2, (p1 t h2).2.1⟩)
  obtain ⟨u', b1, b2, b3⟩ := m_sL11 1475 1600 0 μ (by decide) (by decide)
  have hx : fX3_dropOldest σ = some τ := by
    unfold fX3_dropOldest
    rw [nm_s, q3, nI_clamp (show π 0 < 2 ^ 31 by omega), gd_of q2, n1]
    exact e1
  have hs : nI 6 - 1 = nI 5 := by decide
  refine ⟨τ, up2 u' 20 3 (μ 20 3 - 1), hx, b1, ⟨by decide, by rw [e6, a2, hs], by rw [up2_self, pk_us, a3, hs], fun t => if t < 5 then π (t + 1) else π 0, fun t ht => ?_, fun t u ht hu e => ?_, fun t ht => ?_⟩, fun q h1 h2 => e2 q h2 h1, fun q h1 h2 => by rw [up2_ne h2, b2 q h1], fun k hk => by rw [up2_self, pk_un hk, b2 20 (by decide)]⟩
  · by_cases h : t < 5
    · have := p1 (t + 1) (by omega)
      simp only [if_pos h]
      exact ⟨this.1, this.2.1, e4 t (by omega) h⟩
    · simp only [if_neg h]
      obtain rfl : t = 5 := by omega
      exact ⟨q1, q2, e5⟩
  · by_cases h1 : t < 5 <;> by_cases h2 : u < 5
    · simp only [if_pos h1, if_pos h2] at e
      have := p2 _ _ (by omega) (by omega) e
      omega
    · simp only [if_pos h1, if_neg h2] at e
      have := p2 _ _ (by omega) (by omega) e
      omega
    · simp only [if_neg h1, if_pos h2] at e
      have := p2 _ _ (by omega) (by omega) e
      omega
    · omega
  · simp only [if_pos ht]
    have := p1 (t + 1) (by omega)
    refine SR.cong (SR.eqs (p3 (t + 1) (by omega)) (EqS.of (fun j hj => e2 _ (by omega) (by omega)))) (fun k hk => ?_)
    rw [up2_ne (by decide), b3, if_pos (by omega), show 295 + (295 * t + k) = 295 * (t + 1) + k by omega]
theorem xm_save {σ μ : Sg} {h : Nat} (H : Hi σ μ h) (hS : SR σ 10 (μ 0)) (hB : ∀ i, i < 9 → Bo σ (10 + 8 * i)) : ∃ σ' μ' h', fX3_save 0 σ = some σ' ∧ fX7_save μ = some μ' ∧ Hi σ' μ' h' ∧ (∀ q, q ≠ 1 → q ≠ 2 → (q < 34 ∨ 82 ≤ q) → σ' q = σ q) ∧ (∀ q, q ≠ 1 → q ≠ 20 → μ' q = μ q) ∧ (∀ k, k ≠ 3 → μ' 20 k = μ 20 k) ∧ ∀ i, i < 9 → Bo σ' (10 + 8 * i) := by
  have H' := H
  obtain ⟨a1, a2, a3, _⟩ := H'
  by_cases h6 : h < 6
  · obtain ⟨σ', μ', e1, e2, e3, e4, e5, e6, e7⟩ := sv_step h6 H hS hB
    have hn : ¬ nI h = 6 := fun q => by
      have := (nI_eq (b := 6) (show h < 2 ^ 31 by omega) (by decide)).mp q
      omega
    refine ⟨σ', μ', h + 1, ?_, ?_, e3, fun q h1 _ h3 => e4 q h1 h3, e5, e6, e7⟩
    · unfold fX3_save
      rw [a2, if_neg hn]
      exact e1
    · unfold fX7_save
      rw [a3, if_neg hn, n0]
      exact e2
  · obtain rfl : h = 6 := by omega
    obtain ⟨σ1, μ1, c1, c2, c3, c4, c5, c6⟩ := sv_drop H
    have hr : ∀ q, 10 ≤ q → σ1 q = σ q := fun q hq => c4 q (by omega) (by omega)
    obtain ⟨σ', μ', e1, e2, e3, e4, e5, e6, e7⟩ := sv_step (by decide) c3 (by rw [c5 0 (by decide) (by decide)]; exact SR.eqs hS (EqS.of (fun j hj => hr _ (by omega)))) (fun i hi k hk => by rw [hr _ (by omega)]; exact hB i hi k hk)
    refine ⟨σ', μ', 5 + 1, ?_, ?_, e3, fun q h1 h2 h3 => by rw [e4 q h1 h3, c4 q h1 h2], fun q h1 h2 => by rw [e5 q h1 h2, c5 q h1 h2], fun k hk => by rw [e6 k hk, c6 k hk], e7⟩
    · unfold fX3_save
      rw [a2, if_pos (show nI 6 = 6 from rfl), c1, bd_s]
      exact e1
    · unfold fX7_save
      rw [a3, if_pos (show nI 6 = 6 from rfl), n0, c2]
      exact e2
theorem Rl.th {σ μ : Sg} {dg : Int64} (H : Rl σ μ dg) (k : Int32) (dg' : Int64) : Rl σ (up2 μ 20 0 k) dg' := by
  have H' := H
  obtain ⟨_, _, _, _, _, _, g⟩ := H'
  exact H.sm (fun _ _ _ => rfl) rfl (g.fr rfl rfl rfl (up2_ne (by decide))) (fun q hq => up2_ne (by omega)) (by rw [up2_self, pk_un (by decide)]) (by rw [up2_self, pk_un (by decide)])
/-- what a change begins with -/
theorem xm_begin {σ μ : Sg} {dg : Int64} (H : Rl σ μ dg) : ∃ σ' μ', fX6_beginChange σ = some σ' ∧ fX7_save μ = some μ' ∧ (∀ dg', Rl σ' μ' dg') ∧ σ' 86 3 = 0 ∧ (∀ q, q ≠ 1 → q ≠ 2 → (q < 34 ∨ 82 ≤ q) → q ≠ 86 → σ' q = σ q) ∧ (∀ q, q ≠ 1 → q ≠ 20 → μ' q = μ q) ∧ ∀ k, k ≠ 3 → μ' 20 k = μ 20 k := by
  obtain ⟨a, ⟨h, b⟩, c, d, e, f, g⟩ := H
  obtain ⟨σ', μ', h', e1, e2, e3, e4, e5, e6, e7⟩ := xm_save b a c
  have hx : fX6_beginChange σ = some (up2 σ' 86 3 0) := by
    unfold fX6_beginChange
    rw [e1, bd_s, nm_s]
  have hr : ∀ q, q ≠ 1 → q ≠ 2 → (q < 34 ∨ 82 ≤ q) → q ≠ 86 → up2 σ' 86 3 0 q = σ q := fun q h1 h2 h3 h4 => by rw [up2_ne h4, e4 q h1 h2 h3]
  refine ⟨_, μ', hx, e2, fun dg' => ⟨?_, ⟨h', e3.fr (fun q hq => up2_ne (by omega)) rfl rfl⟩, fun i hi k hk => ?_, ?_, ?_, fun n hn => ?_, Or.inl (by rw [up2_self, pk_us])⟩, by rw [up2_self, pk_us], hr, e5, e6⟩
  · rw [e5 0 (by decide) (by decide)]
    exact a.eqs (EqS.of (fun j hj => hr _ (by omega) (by omega) (by omega) (by omega)))
  · rw [up2_ne (by omega)]
    exact e7 i hi k hk
  · exact d.fr (fun q hq => hr q (by omega) (by omega) (by omega) (by omega)) (e5 2 (by decide) (by decide)) (e5 3 (by decide) (by decide))
  · exact e.fr (by rw [hr 5 (by decide) (by decide) (by decide) (by decide)]) (hr 6 (by decide) (by decide) (by decide) (by decide)) (e6 7 (by decide)) (e5 4 (by decide) (by decide))
  · rw [e5 5 (by decide) (by decide)]
    exact f n hn
theorem m_unL {h : Nat} (hh : h < 6) : ∀ n f x (u : Sg), n < f → x + n = 295 → u 20 3 = nI h → ∃ u', fX7_undo_L33 f (nI x) u = some (nI h, u') ∧ (∀ q, q ≠ 0 → u' q = u q) ∧ ∀ i, i < 295 → u' 0 i = if x ≤ i then u 1 (295 * h + i) else u 0 i := by
  intro n
  induction n with
  | zero =>
    intro f x u hf hk h3
    obtain ⟨f, rfl⟩ := fu1 hf
    obtain rfl : x = 295 := by omega
    rw [fX7_undo_L33, if_pos (show (295 : Int32) ≤ nI 295 by decide), h3]
    exact ⟨u, rfl, fun _ _ => rfl, fun i hi => by rw [if_neg (by omega)]⟩
  | succ n ih =>
    intro f x u hf hk h3
    obtain ⟨f, rfl⟩ := fu1 hf
    rw [fX7_undo_L33, if_neg (show ¬ (295 : Int32) ≤ nI x from nI_ge (a := x) (b := 295) (by omega) (by decide)), h3, m295, nI_add, gi (show 295 * h + x < 1770 by omega) (by decide), gi (show x < 295 by omega) (by decide), nI_clamp (show x < 2 ^ 31 by omega), nI_clamp (show 295 * h + x < 2 ^ 31 by omega)]
    simp only [nm_s, nI_1]
    obtain ⟨u', a1, a2, a3⟩ := ih f (x + 1) (up2 u 0 x (u 1 (295 * h + x))) (by omega) (by omega) (by rw [up2_ne (by decide)]; exact h3)
    refine ⟨u', a1, fun q hq => by rw [a2 q hq, up2_ne hq], fun i hi => ?_⟩
    rw [a3 i hi, up2_self, up2_ne (show 1 ≠ 0 by decide)]
    by_cases h1 : x + 1 ≤ i
    · rw [if_pos h1, if_pos (by omega)]
    · rw [if_neg h1]
      by_cases h2 : i = x
      · rw [h2, pk_us, if_pos (by omega)]
      · rw [pk_un h2, if_neg (by omega)]
theorem m_gbL {a : Nat} (ha : a < 2) : ∀ n f x (u : Sg), n < f → x + n = 295 → ∃ u', fX7_goBack_L42 (nI a) f (nI x) u = some (u' 0 0, u') ∧ (∀ q, q ≠ 0 → u' q = u q) ∧ ∀ i, i < 295 → u' 0 i = if x ≤ i then u 2 (295 * a + i) else u 0 i := by
  intro n
  induction n with
  | zero =>
    intro f x u hf hk
    obtain ⟨f, rfl⟩ := fu1 hf
    obtain rfl : x = 295 := by omega
    rw [fX7_goBack_L42, if_pos (show (295 : Int32) ≤ nI 295 by decide)]
    exact ⟨u, rfl, fun _ _ => rfl, fun i hi => by rw [if_neg (by omega)]⟩
  | succ n ih =>
    intro f x u hf hk
    obtain ⟨f, rfl⟩ := fu1 hf
    rw [fX7_goBack_L42, if_neg (show ¬ (295 : Int32) ≤ nI x from nI_ge (a := x) (b := 295) (by omega) (by decide)), m295, nI_add, gi (show 295 * a + x < 590 by omega) (by decide), gi (show x < 295 by omega) (by decide), nI_clamp (show x < 2 ^ 31 by omega), nI_clamp (show 295 * a + x < 2 ^ 31 by omega)]
    simp only [nm_s, nI_1]
    obtain ⟨u', a1, a2, a3⟩ := ih f (x + 1) (up2 u 0 x (u 2 (295 * a + x))) (by omega) (by omega)
    refine ⟨u', a1, fun q hq => by rw [a2 q hq, up2_ne hq], fun i hi => ?_⟩
    rw [a3 i hi, up2_self, up2_ne (show 2 ≠ 0 by decide)]
    by_cases h1 : x + 1 ≤ i
    · rw [if_pos h1, if_pos (by omega)]
    · rw [if_neg h1]
      by_cases h2 : i = x
      · rw [h2, pk_us, if_pos (by omega)]
      · rw [pk_un h2, if_neg (by omega)]
theorem m_kpL {a : Nat} (ha : a < 2) : ∀ n f x (u : Sg), n < f → x + n = 295 → ∃ u', fX7_keep_L25 (nI a) f (nI x) u = some (u 0 0, up2 u' 3 a 1) ∧ (∀ q, q ≠ 2 → u' q = u q) ∧ ∀ i, u' 2 i = if 295 * a + x ≤ i ∧ i < 295 * a + 295 then u 0 (i - 295 * a) else u 2 i := by
  intro n
  induction n with
  | zero =>
    intro f x u hf hk
    obtain ⟨f, rfl⟩ := fu1 hf
    obtain rfl : x = 295 := by omega
    rw [fX7_keep_L25, if_pos (show (295 : Int32) ≤ nI 295 by decide), gi ha (by decide), nI_clamp (show a < 2 ^ 31 by omega), nm_s, up2_ne (show 0 ≠ 3 by decide)]
    exact ⟨u, rfl, fun _ _ => rfl, fun i => by rw [if_neg (by omega)]⟩
  | succ n ih =>
    intro f x u hf hk
    obtain ⟨f, rfl⟩ := fu1 hf
    rw [fX7_keep_L25, if_neg (show ¬ (295 : Int32) ≤ nI x from nI_ge (a := x) (b := 295) (by omega) (by decide)), m295, nI_add, gi (show x < 295 by omega) (by decide), gi (show 295 * a + x < 590 by omega) (by decide), nI_clamp (show x < 2 ^ 31 by omega), nI_clamp (show 295 * a + x < 2 ^ 31 by omega)]
    simp only [nm_s, nI_1]
    obtain ⟨u', a1, a2, a3⟩ := ih f (x + 1) (up2 u 2 (295 * a + x) (u 0 x)) (by omega) (by omega)
    refine ⟨u', ?_, fun q hq => by rw [a2 q hq, up2_ne hq], fun i => ?_⟩
    · rw [a1, up2_ne (show 0 ≠ 2 by decide)]
    · rw [a3 i, up2_self, up2_ne (show 0 ≠ 2 by decide)]
      by_cases h1 : 295 * a + (x + 1) ≤ i ∧ i < 295 * a + 295
      · rw [if_pos h1, if_pos (by omega)]
      · rw [if_neg h1]
        by_cases h2 : i = 295 * a + x
        · rw [h2, pk_us, if_pos (by omega), show 295 * a + x - 295 * a = x by omega]
        · rw [pk_un h2, if_neg (by omega)]
