/-! P31: the changes -/
theorem m_sv {μ : Sg} {h : Nat} (hh : h ≤ 6) (h3 : μ 20 3 = nI h) : ∃ μ' h', fX7_save μ = some μ' ∧ 1 ≤ h' ∧ h' ≤ 6 ∧ μ' 20 3 = nI h' ∧ (∀ k, k < 295 → μ' 1 (295 * (h' - 1) + k) = μ 0 k) ∧ (1 ≤ h → 2 ≤ h' ∧ ∀ k, k < 295 → μ' 1 (295 * (h' - 2) + k) = μ 1 (295 * (h - 1) + k)) := by
  by_cases h6 : h < 6
  · obtain ⟨u', b1, b2, b3, b4, b5⟩ := m_sL52 h6 295 1600 0 μ (by decide) (by decide) h3
    have hn : ¬ nI h = 6 := fun q => by
      have := (nI_eq (b := 6) (show h < 2 ^ 31 by omega) (by decide)).mp q
      omega
    refine ⟨u', h + 1, ?_, by omega, by omega, b4, fun k hk => ?_, fun h1 => ⟨by omega, fun k hk => ?_⟩⟩
    · unfold fX7_save
      rw [h3, if_neg hn, n0]
      exact b1
    · rw [b5, if_pos (by omega), show 295 * (h + 1 - 1) + k - 295 * h = k by omega]
    · rw [b5, if_neg (by omega), show h + 1 - 2 = h - 1 by omega]
  · obtain rfl : h = 6 := by omega
    obtain ⟨u', b1, b2, b3⟩ := m_sL11 1475 1600 0 μ (by decide) (by decide)
    obtain ⟨u2, c1, c2, c3, c4, c5⟩ := m_sL52 (h := 5) (by decide) 295 1600 0 (up2 u' 20 3 (μ 20 3 - 1)) (by decide) (by decide) (by rw [up2_self, pk_us, h3]; decide)
    refine ⟨u2, 6, ?_, by decide, by decide, c4, fun k hk => ?_, fun _ => ⟨by decide, fun k hk => ?_⟩⟩
    · unfold fX7_save
      rw [h3, if_pos (show nI 6 = 6 from rfl), n0, b1]
      exact c1
    · rw [c5, if_pos (by omega), up2_ne (by decide), b2 0 (by decide), show 295 * (6 - 1) + k - 295 * 5 = k by omega]
    · rw [c5, if_neg (by omega), up2_ne (by decide), b3, if_pos (by omega), show 295 + (295 * (6 - 2) + k) = 295 * (6 - 1) + k by omega]
/-- what a change saves -/
def Hs (μ μ' : Sg) : Prop := ∀ h, h ≤ 6 → μ 20 3 = nI h → ∃ h', 1 ≤ h' ∧ h' ≤ 6 ∧ μ' 20 3 = nI h' ∧ (∀ k, k < 295 → μ' 1 (295 * (h' - 1) + k) = μ 0 k) ∧ (1 ≤ h → 2 ≤ h' ∧ ∀ k, k < 295 → μ' 1 (295 * (h' - 2) + k) = μ 1 (295 * (h - 1) + k))
theorem Hs.up {μ μ1 : Sg} (h : Hs μ μ1) (s' : Nat → Int32) : Hs μ (upR μ1 0 s') := by
  unfold Hs at h ⊢
  rw [upR_ne (show (20 : Nat) ≠ 0 by decide), upR_ne (show (1 : Nat) ≠ 0 by decide)]
  exact h
theorem bg {σ μ : Sg} (H : Rl σ μ 0) : ∃ σ' μ', fX6_beginChange σ = some σ' ∧ Rl σ' μ' 0 ∧ σ' 86 3 = 0 ∧ (∀ q, q ≠ 1 → q ≠ 2 → (q < 34 ∨ 82 ≤ q) → q ≠ 86 → σ' q = σ q) ∧ μ' 0 = μ 0 ∧ (∀ q, 2 ≤ q → q < 6 → μ' q = μ q) ∧ Hs μ μ' := by
  obtain ⟨σ', μ', b1, b2, b3, b4, b5, b6, b7⟩ := xm_begin H
  refine ⟨σ', μ', b1, b3 0, b4, b5, b6 0 (by decide) (by decide), fun q h1 h2 => b6 q (by omega) (by omega), fun h hh h3 => ?_⟩
  obtain ⟨μ2, h', c1, c2⟩ := m_sv hh h3
  rw [b2] at c1
  cases c1
  exact ⟨h', c2⟩
theorem Rl.gh {σ1 μ1 σ' : Sg} {s' : Nat → Int32} (hR : Rl σ1 μ1 0) (hS : SR σ' 10 s') (hB : Bo σ' 10) (hσ : ∀ q, (q < 10 ∨ (18 ≤ q ∧ q < 82)) → σ' q = σ1 q) (h86 : σ' 86 3 = 0) : Rl σ' (upR μ1 0 s') 0 :=
  hR.op (by rw [upR_self]; exact hS) hB hσ h86 (fun q h1 _ => upR_ne (by omega)) (upR_ne (by decide))
/-- what a change leaves: the state is s', the slots are as they were -/
def Ch (μ μ' : Sg) (s' : Nat → Int32) : Prop := μ' 0 = s' ∧ μ' 2 = μ 2 ∧ μ' 3 = μ 3 ∧ Hs μ μ'
theorem Ch.up {μ μ1 : Sg} (h2 : ∀ q, 2 ≤ q → q < 6 → μ1 q = μ q) (h : Hs μ μ1) (s' : Nat → Int32) : Ch μ (upR μ1 0 s') s' :=
  ⟨upR_self _ _ _, by rw [upR_ne (by decide), h2 2 (by decide) (by decide)], by rw [upR_ne (by decide), h2 3 (by decide) (by decide)], h.up s'⟩
def unS (s : Nat → Int32) (n b m : Int32) (v : Nat → Int32) : Nat → Int32 := fun i => if i = 0 then n else if i = 1 then 0 else if i = 2 then b else if i = 3 then m else if 7 ≤ i ∧ i < 71 then v (i - 7) else s i
theorem un_at (s : Nat → Int32) (n b m : Int32) (v : Nat → Int32) : (unS s n b m v 0 = n ∧ unS s n b m v 1 = 0 ∧ unS s n b m v 2 = b ∧ unS s n b m v 3 = m ∧ unS s n b m v 4 = s 4 ∧ unS s n b m v 5 = s 5 ∧ unS s n b m v 6 = s 6) ∧ ∀ k, k < 64 → unS s n b m v (7 + k) = v k := by
  refine ⟨⟨rfl, rfl, rfl, rfl, rfl, rfl, rfl⟩, fun k hk => ?_⟩
  unfold unS
  rw [if_neg (by omega), if_neg (by omega), if_neg (by omega), if_neg (by omega), if_pos (by omega), show 7 + k - 7 = k by omega]
theorem Rl.un {σ1 μ1 σ' : Sg} {M B : Nat} {m : Int32} {v : Nat → Int32} (hR : Rl σ1 μ1 0) (hM1 : 1 ≤ M) (hM2 : M ≤ 64) (hB1 : 2 ≤ B) (hB2 : B ≤ 16) (hm : m = 0 ∨ m = 1) (e0 : σ' 10 0 = nI M) (e3 : σ' 10 3 = 0) (e9 : σ' 10 9 = σ1 10 9) (e10 : σ' 10 10 = σ1 10 10) (f0 : σ' 12 0 = nI B) (f1 : σ' 12 1 = m) (f2 : σ' 12 2 = σ1 12 2) (g : ∀ k, k < M → σ' 11 k = v k ∧ inV (v k)) (h15 : σ' 15 = σ1 15) (hσ : ∀ q, (q < 10 ∨ (18 ≤ q ∧ q < 82)) → σ' q = σ1 q) (h86 : σ' 86 3 = 0) : Rl σ' (upR μ1 0 (unS (μ1 0) (nI M) (nI B) m v)) 0 := by
  have hR' := hR
  obtain ⟨⟨M0, B0, hm0, ha0, h9, h10, _⟩, _, r3, _⟩ := hR'
  obtain ⟨⟨u0, u1, u2, u3, u4, u5, u6⟩, u7⟩ := un_at (μ1 0) (nI M) (nI B) m v
  refine hR.gh (SR.unc M B hM1 hM2 hB1 hB2 e0 u0 f0 u2 (f1.trans u3.symm) (f2.trans (ha0.2.2.2.1.trans u4.symm)) (by rw [u3]; exact hm) (by rw [u4]; exact hm0.2.2.2.2.2.2.2.1) (fun k hk => ?_) (e9.trans (h9.trans u5.symm)) (e10.trans (h10.trans u6.symm)) u1 e3) ?_ hσ h86
  · rw [u7 k (by omega)]
    exact g k hk
  · intro k hk
    show σ' 15 k = 0 ∨ σ' 15 k = 1
    rw [h15]
    exact r3 0 (by decide) k hk
theorem ch_wave {σ μ : Sg} {j : Nat} (hR : Rl σ μ 0) (j1 : 1 ≤ j) (j2 : j ≤ 64) : ∃ σ' μ' s', fX6_wave (nI j) σ = some (.inl (μ 0 0), σ') ∧ Rl σ' μ' 0 ∧ Ch μ μ' s' ∧ s' 0 = nI j ∧ s' 1 = 0 := by
  obtain ⟨σ1, μ1, b1, b2, b3, b4, b5, b6, b7⟩ := bg hR
  have b2' := b2
  obtain ⟨⟨M, B, hm, ha, h9, h10, hc⟩, _⟩ := b2'
  obtain ⟨m1, m2, m3, m4, m5, m6, m7, m8, m9, m10⟩ := hm
  obtain ⟨τ, t1, t2, t3, t4⟩ := x_bsL 64 80 0 (up2 σ1 10 0 (nI j)) (by decide) (by decide)
  have s10 : τ 10 = upd (upd (σ1 10) 0 (nI j)) 3 0 := by rw [t3, up2_self]
  have s12 : τ 12 = σ1 12 := by rw [t2 12 (by decide) (by decide), up2_ne (by decide)]
  have hX : fX6_wave (nI j) σ = some (.inl (μ 0 0), τ) := by
    unfold fX6_wave
    rw [if_neg (show ¬ nI j < 1 from nI_nlt (b := 1) j1 (by omega)), if_pos (show nI j ≤ 64 from nI_le (b := 64) j2 (by decide)), b1, bd_s, nm_s]
    unfold fX4_becomeSilence
    simp only [nm_s, Nat.mul_zero, Nat.add_zero]
    rw [n0, t1, bd_s, show σ1 10 0 = nI M from ha.1, ← m5, b5]
  refine ⟨τ, _, _, hX, b2.un (M := j) (B := B) (m := μ1 0 3) (v := fun _ => 0) j1 j2 m3 m4 m7 (by rw [s10]; rfl) (by rw [s10]; rfl) (by rw [s10]; rfl) (by rw [s10]; rfl) (by rw [s12]; exact ha.2.1) (by rw [s12]; exact ha.2.2.1) (by rw [s12]) (fun k hk => ⟨by rw [t4 k, if_pos (by omega)], z_inV⟩) (by rw [t2 15 (by decide) (by decide), up2_ne (by decide)]) (fun q hq => by rw [t2 q (by omega) (by omega), up2_ne (by omega)]) (by rw [t2 86 (by decide) (by decide), up2_ne (by decide)]; exact b3), Ch.up b6 b7 _, (un_at _ _ _ _ _).1.1, (un_at _ _ _ _ _).1.2.1⟩
theorem ch_sample {σ μ : Sg} {M B k : Nat} {a : Int32} (hR : Rl σ μ 0) (hm : MS (μ 0) M B) (hk : k < M) (hv : inV a) : ∃ σ' μ' s', fX6_sample (nI k) a σ = some (.inl (μ 0 (7 + k) + 10000), σ') ∧ Rl σ' μ' 0 ∧ Ch μ μ' s' ∧ s' 1 = 0 := by
  have ha0 := hR.ba hm
  obtain ⟨σ1, μ1, b1, b2, b3, b4, b5, b6, b7⟩ := bg hR
  have hm1 : MS (μ1 0) M B := by rw [b5]; exact hm
  have ha := b2.ba hm1
  obtain ⟨m1, m2, m3, m4, m5, m6, m7, m8, m9, m10⟩ := hm1
  have s10 : up2 (up2 σ1 11 k a) 10 3 0 10 = upd (σ1 10) 3 0 := by rw [up2_self, up2_ne (by decide)]
  have sq : ∀ q, q ≠ 10 → q ≠ 11 → up2 (up2 σ1 11 k a) 10 3 0 q = σ1 q := fun q q1 q2 => by rw [up2_ne q1, up2_ne q2]
  have hX : fX6_sample (nI k) a σ = some (.inl (μ 0 (7 + k) + 10000), up2 (up2 σ1 11 k a) 10 3 0) := by
    unfold fX6_sample fX4_forgetBlocks
    rw [hs_1 ha0 m2 hk, bd_s, if_neg (show ¬ (1 : Int32) = 0 by decide), x_isV, if_pos ((inV_iff a).mpr hv), bd_s, if_neg (show ¬ (1 : Int32) = 0 by decide), b1, bd_s]
    simp only [gi (show k < 64 by omega) (by decide), nm_s, bd_s, Nat.mul_zero, Nat.add_zero, Nat.reduceAdd]
    rw [nI_clamp (show k < 2 ^ 31 by omega), show σ1 11 k = μ1 0 (7 + k) from ha.2.2.2.2 k hk, b5]
  refine ⟨_, _, _, hX, b2.un (M := M) (B := B) (m := μ1 0 3) (v := upd (fun i => μ1 0 (7 + i)) k a) m1 m2 m3 m4 m7 (by rw [s10]; exact ha.1) (by rw [s10]; rfl) (by rw [s10]; rfl) (by rw [s10]; rfl) (by rw [sq 12 (by decide) (by decide)]; exact ha.2.1) (by rw [sq 12 (by decide) (by decide)]; exact ha.2.2.1) (by rw [sq 12 (by decide) (by decide)]) (fun i hi => ?_) (sq 15 (by decide) (by decide)) (fun q hq => sq q (by omega) (by omega)) (by rw [sq 86 (by decide) (by decide)]; exact b3), Ch.up b6 b7 _, (un_at _ _ _ _ _).1.2.1⟩
  rw [up2_ne (by decide), up2_self]
  by_cases h : i = k
  · rw [h, pk_us, pk_us]
    exact ⟨rfl, hv⟩
  · rw [pk_un h, pk_un h]
    exact ⟨ha.2.2.2.2 i hi, m9 i hi⟩
theorem x_shp (kind h : Int32) {p f : Nat} (hp1 : 1 ≤ p) (hp2 : p ≤ 64) (hf : f < 64) : ∃ v, fX6_shape kind h (nI p) (nI f) = some v := by
  obtain ⟨v, e, _⟩ := xm_shape kind h hp1 hp2 hf
  exact ⟨v, e⟩
theorem x_adF {kind h : Int32} {p M : Nat} (hp1 : 1 ≤ p) (hp2 : p ≤ 64) (hM : M ≤ 64) : ∀ n f k acc (σ : Sg), n < f → k + n = M → acc ≤ k → σ 10 0 = nI M → (∀ i, i < M → inV (σ 11 i)) → ∃ r τ, fX6_add_L71 kind h (nI p) f (nI acc) (nI k) σ = some (.inl (nI r), up2 τ 10 3 0) ∧ r ≤ M ∧ (∀ q, q ≠ 11 → τ q = σ q) ∧ ∀ i, i < M → inV (τ 11 i) := by
  intro n
  induction n with
  | zero =>
    intro f k acc σ hf hk hac h10 hv
    obtain ⟨f, rfl⟩ := fu1 hf
    refine ⟨acc, σ, ?_, by omega, fun _ _ => rfl, hv⟩
    rw [fX6_add_L71]
    unfold fX4_forgetBlocks
    simp only [Nat.mul_zero, Nat.add_zero, nm_s, bd_s]
    rw [h10, if_pos (nI_le (by omega) (by omega))]
  | succ n ih =>
    intro f k acc σ hf hk hac h10 hv
    obtain ⟨f, rfl⟩ := fu1 hf
    have hk64 : k < 64 := by omega
    have hp0 : ¬ nI p = 0 := nI_ne0 (by omega) (by omega)
    have hrem : nI k - nI k / nI p * nI p = nI (k % p) := pk_rem (by omega) (by omega) (by omega)
    have hmod : k % p < 64 := Nat.lt_of_le_of_lt (Nat.mod_le k p) hk64
    obtain ⟨v, s1⟩ := x_shp kind h hp1 hp2 hmod
    obtain ⟨w, hw⟩ : ∃ w, w = σ 11 k + v := ⟨_, rfl⟩
    obtain ⟨d, hd2, hd0, hd1⟩ : ∃ d : Nat, d ≤ 1 ∧ (inV w → d = 0) ∧ (¬ inV w → d = 1) := by
      by_cases q : inV w
      · exact ⟨0, by decide, fun _ => rfl, fun z => absurd q z⟩
      · exact ⟨1, by decide, fun z => absurd z q, fun _ => rfl⟩
    have hX : fX6_add_L71 kind h (nI p) (f + 1) (nI acc) (nI k) σ = fX6_add_L71 kind h (nI p) f (nI (acc + d)) (nI (k + 1)) (up2 σ 11 k (clp w)) := by
      rw [fX6_add_L71]
      simp only [Nat.mul_zero, Nat.add_zero, Nat.reduceAdd]
      rw [h10, if_neg (nI_ge (show k < M by omega) (by omega)), gi hk64 (by decide), gd_of hp0, hrem, s1, bd_s, nI_clamp (show k < 2 ^ 31 by omega), nm_s, ← hw, x_clip, bd_s, gj hk64 (by decide), nm_s, x_isV, bd_s]
      simp only [nm_s, nI_1]
      by_cases q : inV w
      · rw [hd0 q, if_pos ((inV_iff w).mpr q), if_neg (show ¬ (1 : Int32) = 0 by decide), show acc + 0 = acc from rfl]
      · rw [hd1 q, if_neg (fun z => q ((inV_iff w).mp z)), if_pos rfl]
    obtain ⟨r, τ, c1, c2, c3, c4⟩ := ih f (k + 1) (acc + d) (up2 σ 11 k (clp w)) (by omega) (by omega) (by omega) (by rw [up2_ne (by decide)]; exact h10) (fun i hi => by
      rw [up2_self]
      by_cases q : i = k
      · rw [q, pk_us]
        exact clp_r w
      · rw [pk_un q]
        exact hv i hi)
    exact ⟨r, τ, hX.trans c1, c2, fun q hq => by rw [c3 q hq, up2_ne hq], c4⟩
theorem ch_add {σ μ : Sg} {M B p : Nat} {a1 a2 : Int32} (hR : Rl σ μ 0) (hm : MS (μ 0) M B) (i1 : (0 : Int32) ≤ a1 ∧ a1 ≤ 2) (i2 : (0 : Int32) ≤ a2 ∧ a2 ≤ 2047) (p1 : 1 ≤ p) (p2 : p ≤ 64) : ∃ r σ' μ' s', fX6_add a1 a2 (nI p) σ = some (.inl (nI r), σ') ∧ r ≤ M ∧ Rl σ' μ' 0 ∧ Ch μ μ' s' ∧ s' 1 = 0 ∧ s' 0 = μ 0 0 := by
  obtain ⟨σ1, μ1, b1, b2, b3, b4, b5, b6, b7⟩ := bg hR
  have hm1 : MS (μ1 0) M B := by rw [b5]; exact hm
  have ha := b2.ba hm1
  obtain ⟨m1, m2, m3, m4, m5, m6, m7, m8, m9, m10⟩ := hm1
  obtain ⟨r, τ, c1, c2, c3, c4⟩ := x_adF (kind := a1) (h := a2) p1 p2 m2 M 80 0 0 σ1 (by omega) (by omega) (by omega) ha.1 (fun i hi => by rw [show σ1 11 i = μ1 0 (7 + i) from ha.2.2.2.2 i hi]; exact m9 i hi)
  have s10 : up2 τ 10 3 0 10 = upd (σ1 10) 3 0 := by rw [up2_self, c3 10 (by decide)]
  have sq : ∀ q, q ≠ 10 → q ≠ 11 → up2 τ 10 3 0 q = σ1 q := fun q q1 q2 => by rw [up2_ne q1, c3 q q2]
  have hX : fX6_add a1 a2 (nI p) σ = some (.inl (nI r), up2 τ 10 3 0) := by
    unfold fX6_add
    rw [if_neg (nlt.mpr i1.1), if_pos i1.2, if_neg (nlt.mpr i2.1), if_pos i2.2, if_neg (show ¬ nI p < 1 from nI_nlt (b := 1) p1 (by omega)), if_pos (show nI p ≤ 64 from nI_le (b := 64) p2 (by decide)), b1, bd_s]
    rw [show fX6_add_L71 a1 a2 (nI p) 80 0 0 σ1 = fX6_add_L71 a1 a2 (nI p) 80 (nI 0) (nI 0) σ1 from by rw [← n0], c1]
  exact ⟨r, _, _, _, hX, c2, b2.un (M := M) (B := B) (m := μ1 0 3) (v := τ 11) m1 m2 m3 m4 m7 (by rw [s10]; exact ha.1) (by rw [s10]; rfl) (by rw [s10]; rfl) (by rw [s10]; rfl) (by rw [sq 12 (by decide) (by decide)]; exact ha.2.1) (by rw [sq 12 (by decide) (by decide)]; exact ha.2.2.1) (by rw [sq 12 (by decide) (by decide)]) (fun i hi => ⟨by rw [up2_ne (by decide)], c4 i hi⟩) (sq 15 (by decide) (by decide)) (fun q hq => sq q (by omega) (by omega)) (by rw [sq 86 (by decide) (by decide)]; exact b3), Ch.up b6 b7 _, (un_at _ _ _ _ _).1.2.1, by rw [(un_at _ _ _ _ _).1.1, ← b5, m5]⟩
theorem x_set {σ σ1 μ : Sg} {M B j : Nat} {a : Int32} (hm : MS (μ 0) M B) (ha : Ba σ1 10 (μ 0) M B) (hj : j < 3) (h1 : loS j ≤ a) (h2 : a ≤ hiS j) (b1 : fX6_beginChange σ = some σ1) : fX6_set (nI j) a σ = if nI j = 2 then some (.inl (μ 0 (2 + j)), up2 σ1 12 j a) else some (.inl (μ 0 (2 + j)), up2 (up2 σ1 12 j a) 10 3 0) := by
  obtain ⟨x1, x2⟩ := x_loS j hj
  unfold fX6_set fX4_forgetBlocks
  rw [x_isS, if_pos ⟨nI_pos' (by omega), nI_le (b := 2) (by omega) (by decide)⟩, bd_s, if_neg (show ¬ (1 : Int32) = 0 by decide), x1, bd_s, if_neg (nlt.mpr h1), x2, bd_s, if_pos h2, b1, bd_s]
  simp only [gi hj (by decide), nm_s, bd_s, Nat.mul_zero, Nat.add_zero, Nat.reduceAdd]
  rw [nI_clamp (show j < 2 ^ 31 by omega), set_eq ha hm j hj]
theorem ch_set0 {σ μ : Sg} {M B b : Nat} (hR : Rl σ μ 0) (hm : MS (μ 0) M B) (hb1 : 2 ≤ b) (hb2 : b ≤ 16) : ∃ σ' μ' s', fX6_set 0 (nI b) σ = some (.inl (nI B), σ') ∧ Rl σ' μ' 0 ∧ Ch μ μ' s' ∧ s' 1 = 0 := by
  obtain ⟨σ1, μ1, c1, c2, c3, c4, c5, c6, c7⟩ := bg hR
  have hm1 : MS (μ1 0) M B := by rw [c5]; exact hm
  have ha := c2.ba hm1
  have hX := x_set (σ := σ) hm1 ha (j := 0) (a := nI b) (by decide) (nI_le (a := 2) hb1 (by omega)) (nI_le (b := 16) hb2 (by decide)) c1
  obtain ⟨m1, m2, m3, m4, m5, m6, m7, m8, m9, m10⟩ := hm1
  rw [if_neg (show ¬ nI 0 = 2 by decide), show μ1 0 (2 + 0) = nI B from m6] at hX
  have s10 : up2 (up2 σ1 12 0 (nI b)) 10 3 0 10 = upd (σ1 10) 3 0 := by rw [up2_self, up2_ne (by decide)]
  have s12 : up2 (up2 σ1 12 0 (nI b)) 10 3 0 12 = upd (σ1 12) 0 (nI b) := by rw [up2_ne (by decide), up2_self]
  have sq : ∀ q, q ≠ 10 → q ≠ 12 → up2 (up2 σ1 12 0 (nI b)) 10 3 0 q = σ1 q := fun q q1 q2 => by rw [up2_ne q1, up2_ne q2]
  exact ⟨_, _, _, hX, c2.un (M := M) (B := b) (m := μ1 0 3) (v := fun i => μ1 0 (7 + i)) m1 m2 hb1 hb2 m7 (by rw [s10]; exact ha.1) (by rw [s10]; rfl) (by rw [s10]; rfl) (by rw [s10]; rfl) (by rw [s12]; rfl) (by rw [s12]; exact ha.2.2.1) (by rw [s12]; rfl) (fun i hi => ⟨by rw [sq 11 (by decide) (by decide)]; exact ha.2.2.2.2 i hi, m9 i hi⟩) (sq 15 (by decide) (by decide)) (fun q hq => sq q (by omega) (by omega)) (by rw [sq 86 (by decide) (by decide)]; exact c3), Ch.up c6 c7 _, (un_at _ _ _ _ _).1.2.1⟩
theorem ch_set1 {σ μ : Sg} {M B b : Nat} (hR : Rl σ μ 0) (hm : MS (μ 0) M B) (hb : b ≤ 1) : ∃ σ' μ' s', fX6_set 1 (nI b) σ = some (.inl (μ 0 3), σ') ∧ Rl σ' μ' 0 ∧ Ch μ μ' s' := by
  obtain ⟨σ1, μ1, c1, c2, c3, c4, c5, c6, c7⟩ := bg hR
  have hm1 : MS (μ1 0) M B := by rw [c5]; exact hm
  have ha := c2.ba hm1
  have hX := x_set (σ := σ) hm1 ha (j := 1) (a := nI b) (by decide) (nI_pos' (by omega)) (nI_le (b := 1) hb (by decide)) c1
  obtain ⟨m1, m2, m3, m4, m5, m6, m7, m8, m9, m10⟩ := hm1
  rw [if_neg (show ¬ nI 1 = 2 by decide), c5] at hX
  have s10 : up2 (up2 σ1 12 1 (nI b)) 10 3 0 10 = upd (σ1 10) 3 0 := by rw [up2_self, up2_ne (by decide)]
  have s12 : up2 (up2 σ1 12 1 (nI b)) 10 3 0 12 = upd (σ1 12) 1 (nI b) := by rw [up2_ne (by decide), up2_self]
  have sq : ∀ q, q ≠ 10 → q ≠ 12 → up2 (up2 σ1 12 1 (nI b)) 10 3 0 q = σ1 q := fun q q1 q2 => by rw [up2_ne q1, up2_ne q2]
  have hb01 : nI b = 0 ∨ nI b = 1 := by
    rcases (show b = 0 ∨ b = 1 by omega) with rfl | rfl
    · exact Or.inl rfl
    · exact Or.inr rfl
  exact ⟨_, _, _, hX, c2.un (M := M) (B := B) (m := nI b) (v := fun i => μ1 0 (7 + i)) m1 m2 m3 m4 hb01 (by rw [s10]; exact ha.1) (by rw [s10]; rfl) (by rw [s10]; rfl) (by rw [s10]; rfl) (by rw [s12]; exact ha.2.1) (by rw [s12]; rfl) (by rw [s12]; rfl) (fun i hi => ⟨by rw [sq 11 (by decide) (by decide)]; exact ha.2.2.2.2 i hi, m9 i hi⟩) (sq 15 (by decide) (by decide)) (fun q hq => sq q (by omega) (by omega)) (by rw [sq 86 (by decide) (by decide)]; exact c3), Ch.up c6 c7 _⟩
theorem ch_set2 {σ μ : Sg} {M B b : Nat} (hR : Rl σ μ 0) (hm : MS (μ 0) M B) (hb : b ≤ 2) : ∃ σ' μ' s', fX6_set 2 (nI b) σ = some (.inl (μ 0 4), σ') ∧ Rl σ' μ' 0 ∧ Ch μ μ' s' := by
  obtain ⟨σ1, μ1, c1, c2, c3, c4, c5, c6, c7⟩ := bg hR
  have hm1 : MS (μ1 0) M B := by rw [c5]; exact hm
  have ha := c2.ba hm1
  have hX := x_set (σ := σ) hm1 ha (j := 2) (a := nI b) (by decide) (nI_pos' (by omega)) (nI_le (b := 2) hb (by decide)) c1
  rw [if_pos (show nI 2 = 2 from rfl), c5] at hX
  have hv2 : nI b = 0 ∨ nI b = 1 ∨ nI b = 2 := by
    rcases (show b = 0 ∨ b = 1 ∨ b = 2 by omega) with rfl | rfl | rfl
    · exact Or.inl rfl
    · exact Or.inr (Or.inl rfl)
    · exact Or.inr (Or.inr rfl)
  have c2' := c2
  obtain ⟨r1, _, r3, _⟩ := c2'
  refine ⟨_, _, upd (μ1 0) 4 (nI b), hX, c2.gh (r1.set4 hv2 (fun q h1 h2 h3 => up2_ne h3) (up2_self _ _ _ _) rfl) (fun k hk => ?_) (fun q hq => up2_ne (by omega)) (by rw [up2_ne (by decide)]; exact c3), Ch.up c6 c7 _⟩
  rw [up2_ne (by decide)]
  exact r3 0 (by decide) k hk
theorem ch_lose {σ μ : Sg} {M B b : Nat} (hR : Rl σ μ 0) (hm : MS (μ 0) M B) (h1 : μ 0 1 = 1) (hb : b * B < M) : ∃ r τ μ' s', fX6_lose (nI b) σ = some (.inl r, τ) ∧ fX4_lostBlocks 0 τ = some r ∧ Rl τ μ' 0 ∧ Ch μ μ' s' := by
  have ha := hR.ba hm
  obtain ⟨ho, hd⟩ := hR.co hm h1
  have hm' := hm
  obtain ⟨m1, m2, m3, m4, m5, m6, m7, m8, m9, m10⟩ := hm'
  have hb32 := b32 m2 m3 hb
  obtain ⟨σ1, μ1, b1, b2, b4, b5, f0, b6, b7⟩ := bg hR
  have b3'' := b2
  obtain ⟨r1, _, r3, _, _, _, _⟩ := b3''
  have e10 : ∀ q, 10 ≤ q → q < 18 → σ1 q = σ q := fun q h1 h2 => b5 q (by omega) (by omega) (by omega) (by omega)
  have hS' := hR.1
  obtain ⟨_, _, _, _, h9, h10, _⟩ := hS'
  have hob := ho.2.1 b hb
  have hdb := hd.1 b hb
  have e15 : σ 15 b = μ 0 (263 + b) := hob.2.2
  obtain ⟨v, hv, hv2, hX1⟩ : ∃ v : Int32, v = 1 - μ 0 (263 + b) ∧ (v = 0 ∨ v = 1) ∧ fX6_lose (nI b) σ = bd (fX4_lostBlocks 0 (up2 σ1 15 b v)) fun r => some (.inl r, up2 σ1 15 b v) := by
    refine ⟨1 - μ 0 (263 + b), rfl, ?_, ?_⟩
    · rcases hdb.2.2 with q | q
      · rw [q]; exact Or.inr (by decide)
      · rw [q]; exact Or.inl (by decide)
    · unfold fX6_lose
      rw [hb_1 hm ho hb, bx_s, b1, bd_s]
      simp only [gi hb32 (by decide), nm_s, Nat.mul_zero, Nat.add_zero, Nat.reduceAdd]
      rw [nI_clamp (show b < 2 ^ 31 by omega), e10 15 (by decide) (by decide), e15]
      rcases hdb.2.2 with q | q
      · rw [q, if_pos rfl, show (1 : Int32) - 0 = 1 by decide]
      · rw [q, if_neg (by decide), show (1 : Int32) - 1 = 0 by decide]
  obtain ⟨τ, hτ⟩ : ∃ τ, τ = up2 σ1 15 b v := ⟨_, rfl⟩
  obtain ⟨s', hs'⟩ : ∃ s', s' = upd (μ 0) (263 + b) v := ⟨_, rfl⟩
  rw [← hτ] at hX1
  have e : ∀ i, i ≠ 263 + b → s' i = μ 0 i := fun i h => by rw [hs', pk_un h]
  have t15 : τ 15 = upd (σ 15) b v := by rw [hτ, up2_self, e10 15 (by decide) (by decide)]
  have tq : ∀ q, q ≠ 15 → τ q = σ1 q := fun q h => by rw [hτ, up2_ne h]
  have tq' : ∀ q, 10 ≤ q → q < 18 → q ≠ 15 → τ q = σ q := fun q h1 h2 h3 => by rw [tq q h3, e10 q h1 h2]
  have hle := nb_le m3 m2
  have hCd : CdS s' M B := by
    refine ⟨fun i hi => ?_, fun k hk => ?_⟩
    · have hi32 := b32 m2 m3 hi
      obtain ⟨d1, d2, d3⟩ := hd.1 i hi
      rw [e (199 + i) (by omega), e (231 + i) (by omega)]
      refine ⟨d1, d2, ?_⟩
      by_cases q : i = b
      · rw [q, hs', pk_us]; exact hv2
      · rw [e (263 + i) (by omega)]; exact d3
    · rw [e _ (by omega)]
      exact hd.2 k hk
  have hCo : Co τ 10 s' M B := by
    refine ⟨by rw [tq' 10 (by decide) (by decide) (by decide)]; exact ho.1, fun i hi => ?_, fun k hk => ?_⟩
    · have hi32 := b32 m2 m3 hi
      obtain ⟨d1, d2, d3⟩ := ho.2.1 i hi
      rw [tq' (10 + 3) (by decide) (by decide) (by decide), tq' (10 + 4) (by decide) (by decide) (by decide), e (199 + i) (by omega), e (231 + i) (by omega)]
      refine ⟨d1, d2, ?_⟩
      show τ 15 i = _
      rw [t15]
      by_cases q : i = b
      · rw [q, hs', pk_us, pk_us]
      · rw [e (263 + i) (by omega), pk_un q]; exact d3
    · rw [tq' (10 + 6) (by decide) (by decide) (by decide), tq' (10 + 7) (by decide) (by decide) (by decide), e _ (by omega), e _ (by omega)]
      exact ho.2.2 k hk
  have hu1 : s' 1 = 1 := by rw [e 1 (by omega)]; exact h1
  have hSR : SR τ 10 s' := by
    refine SR.co (M := M) (B := B) ⟨m1, m2, m3, m4, ?_, ?_, ?_, ?_, fun k hk => ?_⟩ hu1 hCd ⟨?_, ?_, ?_, ?_, fun k hk => ?_⟩ ?_ ?_ hCo
    · rw [e 0 (by omega)]; exact m5
    · rw [e 2 (by omega)]; exact m6
    · rw [e 3 (by omega)]; exact m7
    · rw [e 4 (by omega)]; exact m8
    · rw [e _ (by omega)]; exact m9 k hk
    · rw [tq' 10 (by decide) (by decide) (by decide)]; exact ha.1
    · rw [tq' 12 (by decide) (by decide) (by decide)]; exact ha.2.1
    · rw [tq' 12 (by decide) (by decide) (by decide), e 3 (by omega)]; exact ha.2.2.1
    · rw [tq' 12 (by decide) (by decide) (by decide), e 4 (by omega)]; exact ha.2.2.2.1
    · rw [tq' 11 (by decide) (by decide) (by decide), e _ (by omega)]; exact ha.2.2.2.2 k hk
    · rw [tq' 10 (by decide) (by decide) (by decide), e 5 (by omega)]; exact h9
    · rw [tq' 10 (by decide) (by decide) (by decide), e 6 (by omega)]; exact h10
  have hL : fX4_lostBlocks 0 τ = some (lsS s' (NB M B) 0 0) := by
    unfold fX4_lostBlocks
    rw [show fX4_lostBlocks_L4 0 80 0 0 τ = fX4_lostBlocks_L4 0 80 0 (nI 0) τ from by rw [← n0], x_loL (s := s') hle hCo.1 (fun i hi => ⟨(hCo.2.1 i ((nb_lt (by omega)).mp hi)).2.2, (hCd.1 i ((nb_lt (by omega)).mp hi)).2.2⟩) (NB M B) 80 0 0 (by omega) (by omega)]
  refine ⟨_, τ, _, s', by rw [hX1, hL, bd_s], hL, b2.gh hSR (fun k hk => ?_) (fun q hq => tq q (by omega)) (by rw [tq 86 (by decide)]; exact b4), Ch.up b6 b7 _⟩
  show τ 15 k = 0 ∨ τ 15 k = 1
  rw [t15]
  by_cases q : k = b
  · rw [q, pk_us]
    exact hv2
  · rw [pk_un q, ← e10 15 (by decide) (by decide)]
    exact r3 0 (by decide) k hk
/-- a code's bit is turned over -/
def spS (s : Nat → Int32) (k : Nat) (c : Int32) : Nat → Int32 := upd (upd s (71 + k) c) 6 (s 6 + 1)
theorem ch_spoil {σ μ : Sg} {M B k b : Nat} (hR : Rl σ μ 0) (hm : MS (μ 0) M B) (h1 : μ 0 1 = 1) (hk : k < M) (hkB : k % B ≠ 0) (hb : b < 4) : ∃ σ' μ', fX6_spoil (nI k) (nI b) σ = some (.inl (μ 0 (71 + k) ^^^ (1 <<< (nI b &&& 31))), σ') ∧ Rl σ' μ' 0 ∧ Ch μ μ' (spS (μ 0) k (μ 0 (71 + k) ^^^ (1 <<< (nI b &&& 31)))) ∧ MS (μ' 0) M B ∧ μ' 0 1 = 1 ∧ ∀ q, 92 ≤ q → σ' q = σ q := by
  have ha := hR.ba hm
  obtain ⟨ho, hd⟩ := hR.co hm h1
  have hS := hR.1
  have hm' := hm
  obtain ⟨m1, m2, m3, m4, m5, m6, m7, m8, m9, m10⟩ := hm'
  obtain ⟨σ1, μ1, b1, b2, b4, b5, f0, b6, b7⟩ := bg hR
  have b3'' := b2
  obtain ⟨r1, _, r3, _, _, rT, _⟩ := b3''
  have e10 : ∀ q, 10 ≤ q → q < 18 → σ1 q = σ q := fun q h1 h2 => b5 q (by omega) (by omega) (by omega) (by omega)
  have e16 : σ 16 k = μ 0 (71 + k) := (ho.2.2 k hk).1
  have hS' := hS
  obtain ⟨_, _, _, _, _, h10, _⟩ := hS'
  have hcode : fX4_hasCode 0 (nI k) σ = some 1 := by
    rcases cod hS (nI k) with ⟨_, _, _, _, _, _, _, _, _, _, _, g1, _⟩ | ⟨_, _, g3⟩
    · exact g1
    · exact absurd (g3 k rfl (by omega) M B hm h1 hk) hkB
  obtain ⟨c, hcd⟩ : ∃ c, c = μ 0 (71 + k) ^^^ (1 <<< (nI b &&& 31)) := ⟨_, rfl⟩
  have hc : c16 c := by rw [hcd]; exact xor_r ((hd.2 k hk).2 hkB) hb
  have hX : fX6_spoil (nI k) (nI b) σ = some (.inl c, up2 (up2 σ1 16 k c) 10 10 (μ 0 6 + 1)) := by
    unfold fX6_spoil fX4_turnOver
    rw [(x_cb _ _ _).2.2 hcode ⟨b, hb, rfl⟩, bx_s, b1, bd_s]
    simp only [gi (show k < 64 by omega) (by decide), nm_s, bd_s, Nat.mul_zero, Nat.add_zero, Nat.reduceAdd]
    rw [nI_clamp (show k < 2 ^ 31 by omega), e10 16 (by decide) (by decide), e16, ← hcd, up2_ne (show 10 ≠ 16 by decide), e10 10 (by decide) (by decide), h10, up2_ne (show 16 ≠ 10 by decide), up2_self, pk_us]
  obtain ⟨z1, z2, _, _, _, z6⟩ := SR.turn (τ := up2 (up2 σ1 16 k c) 10 10 (μ 0 6 + 1)) (s' := spS (μ 0) k c) hS hm h1 ha ho hd hk hkB hc (fun q h1 h2 h3 => by rw [up2_ne (by omega), up2_ne h3, e10 q (by omega) h2]) (fun i hi => by rw [up2_self, pk_un hi, up2_ne (by decide), e10 10 (by decide) (by decide)]) (by rw [up2_self, pk_us]) (by rw [up2_ne (by decide), up2_self, e10 16 (by decide) (by decide)]) (fun i h1 h2 => by unfold spS; rw [pk_un h2, pk_un h1]) (by unfold spS; rw [pk_us]) (by unfold spS; rw [pk_un (by omega), pk_us])
  rw [← hcd]
  refine ⟨_, _, hX, b2.gh z1 (fun i hi => ?_) (fun q hq => by rw [up2_ne (by omega), up2_ne (by omega)]) (by rw [up2_ne (by decide), up2_ne (by decide)]; exact b4), Ch.up b6 b7 _, by rw [upR_self]; exact z2, by rw [upR_self]; exact z6, fun q hq => by rw [up2_ne (by omega), up2_ne (by omega), b5 q (by omega) (by omega) (by omega) (by omega)]⟩
  rw [up2_ne (by decide), up2_ne (by decide)]
  exact r3 0 (by decide) i hi
