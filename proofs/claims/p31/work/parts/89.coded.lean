/-! P31: the wave behind code(): the codes of the guesses, the starts, the errors -/
def gS (σ : Sg) (s : Nat → Int32) : Nat → Int32 := fun i => if i = 1 then 1 else if i = 5 then s 5 + 1 else if i < 71 then s i else if i < 135 then σ 16 (i - 71) else if i < 199 then σ 17 (i - 135) else if i < 231 then σ 13 (i - 199) else if i < 263 then σ 14 (i - 231) else σ 15 (i - 263)
theorem gS_at (σ : Sg) (s : Nat → Int32) : (gS σ s 0 = s 0 ∧ gS σ s 1 = 1 ∧ gS σ s 2 = s 2 ∧ gS σ s 3 = s 3 ∧ gS σ s 4 = s 4 ∧ gS σ s 5 = s 5 + 1 ∧ gS σ s 6 = s 6) ∧ (∀ k, k < 64 → gS σ s (7 + k) = s (7 + k) ∧ gS σ s (71 + k) = σ 16 k ∧ gS σ s (135 + k) = σ 17 k) ∧ ∀ b, b < 32 → gS σ s (199 + b) = σ 13 b ∧ gS σ s (231 + b) = σ 14 b ∧ gS σ s (263 + b) = σ 15 b := by
  refine ⟨⟨rfl, rfl, rfl, rfl, rfl, rfl, rfl⟩, fun k hk => ⟨?_, ?_, ?_⟩, fun b hb => ⟨?_, ?_, ?_⟩⟩
  · unfold gS
    rw [if_neg (by omega), if_neg (by omega), if_pos (by omega)]
  · unfold gS
    rw [if_neg (by omega), if_neg (by omega), if_neg (by omega), if_pos (by omega), show 71 + k - 71 = k by omega]
  · unfold gS
    rw [if_neg (by omega), if_neg (by omega), if_neg (by omega), if_neg (by omega), if_pos (by omega), show 135 + k - 135 = k by omega]
  · unfold gS
    rw [if_neg (by omega), if_neg (by omega), if_neg (by omega), if_neg (by omega), if_neg (by omega), if_pos (by omega), show 199 + b - 199 = b by omega]
  · unfold gS
    rw [if_neg (by omega), if_neg (by omega), if_neg (by omega), if_neg (by omega), if_neg (by omega), if_neg (by omega), if_pos (by omega), show 231 + b - 231 = b by omega]
  · unfold gS
    rw [if_neg (by omega), if_neg (by omega), if_neg (by omega), if_neg (by omega), if_neg (by omega), if_neg (by omega), if_neg (by omega), show 263 + b - 263 = b by omega]
/-- the sum of the squares along the walk -/
theorem errL_fw (s : Nat → Int32) (j a : Nat) {f : Nat → Int32} (hf : ∀ t, f (a + t) = s (7 + (a + t)) - (fw s j a t).1) : ∀ n acc t, errL s n (fw s j a t).1 (fw s j a t).2 acc (a + t + 1) = sumSq f n acc (a + t + 1) := by
  intro n
  induction n with
  | zero => intro acc t; rfl
  | succ n ih =>
    intro acc t
    have ec : cwc s j a t = cdf (fw s j a t).1 (fw s j a t).2 (s (7 + (a + t + 1))) := rfl
    have h2 : f (a + t + 1) = s (7 + (a + t + 1)) - (fw s j a (t + 1)).1 := hf (t + 1)
    rw [errL, sumSq, ← ec, ← fw_1, ← fw_2, h2]
    exact ih _ (t + 1)
theorem errs_fw (s : Nat → Int32) {j a m : Nat} (hm : 1 ≤ m) : errs s a m j = sumSq (fun k => s (7 + k) - (fw s j a (k - a)).1) m 0 a := by
  have key : ∀ f : Nat → Int32, (∀ t, f (a + t) = s (7 + (a + t)) - (fw s j a t).1) → errs s a m j = sumSq f m 0 a := by
    intro f hf
    obtain ⟨n, rfl⟩ : ∃ n, m = n + 1 := ⟨m - 1, by omega⟩
    have h := errL_fw s j a hf n 0 0
    have h0 : f a = 0 := by
      have z : f a = s (7 + a) - s (7 + a) := hf 0
      rw [z, Int32.sub_self]
    unfold errs
    rw [sumSq, Nat.add_sub_cancel, h0, Int32.mul_zero, Int32.add_zero]
    exact h
  refine key _ (fun t => ?_)
  show s (7 + (a + t)) - (fw s j a (a + t - a)).1 = _
  rw [Nat.add_sub_cancel_left]
/-- what the coder leaves -/
def Fc (s : Nat → Int32) (M B : Nat) : Prop := (∀ k, k < M → s (135 + k) = (gn s B k).1) ∧ (∀ b, b * B < M → s (263 + b) = 0 ∧ s (199 + b) = s (7 + b * B)) ∧ ∀ b, b * B < M → ∃ j, j < 49 ∧ s (231 + b) = nI j ∧ errs s (b * B) (eo M B b - b * B) j = sumSq (fun k => s (7 + k) - (gn s B k).1) (eo M B b - b * B) 0 (b * B) ∧ (s 3 = 1 → IsB (errs s (b * B) (eo M B b - b * B)) j) ∧ (s 3 ≠ 1 → (b = 0 → j = 0) ∧ ∀ b', b = b' + 1 → j = (gn s B (eo M B b' - 1)).2)
theorem gn_fw {s s' : Nat → Int32} {σ : Sg} {M B i j : Nat} (hM : M ≤ 64) (hB : 2 ≤ B) (hi : i * B < M) (hP : PBi σ s M B i j) (h7 : ∀ k, k < 64 → s' (71 + k) = σ 16 k) (h9 : ∀ b, b < 32 → s' (199 + b) = σ 13 b ∧ s' (231 + b) = σ 14 b) : ∀ u, i * B + u < eo M B i → gn s' B (i * B + u) = fw s j (i * B) u := by
  obtain ⟨p1, p2, p3, p4, p5, p6, p7, p8⟩ := hP
  have he1 : eo M B i ≤ M := Nat.min_le_left _ _
  have he3 : eo M B i ≤ i * B + B := Nat.min_le_right _ _
  have hi32 := b32 hM hB hi
  obtain ⟨q1, q2⟩ := h9 i hi32
  intro u
  induction u with
  | zero =>
    intro hu
    have hq := kq (B := B) (b := i) (k := i * B) (Nat.le_refl _) (by omega)
    rw [Nat.add_zero, gn_first s' (by rw [hq.2, Nat.sub_self]), hq.1, q1, q2, p2, p3, nI_clamp (by omega)]
    rfl
  | succ u ih =>
    intro hu
    have hq := kq (B := B) (b := i) (k := i * B + u + 1) (by omega) (by omega)
    have e := gn_next s' (B := B) (k := i * B + u) (by rw [hq.2]; omega)
    rw [show i * B + (u + 1) = i * B + u + 1 by omega, e, ih (by omega), h7 (i * B + u + 1) (by omega), (p7 u (by omega)).1, fw_s]
theorem errs_congr {s s' : Nat → Int32} (h : ∀ k, k < 64 → s' (7 + k) = s (7 + k)) {a m : Nat} (hm1 : 1 ≤ m) (hm : a + m ≤ 64) (j : Nat) : errs s' a m j = errs s a m j := by
  have hL : ∀ n g i acc k, k + n ≤ 64 → errL s' n g i acc k = errL s n g i acc k := by
    intro n
    induction n with
    | zero => intro g i acc k hk; rfl
    | succ n ih =>
      intro g i acc k hk
      rw [errL, errL, h k (by omega)]
      exact ih _ _ _ _ (by omega)
  unfold errs
  rw [h a (by omega)]
  exact hL _ _ _ _ _ (by omega)
theorem ch_code {σ μ : Sg} {M B : Nat} (hR : Rl σ μ 0) (hm : MS (μ 0) M B) : ∃ σ' μ' s', fX6_code σ = some (nI (NB M B), σ') ∧ Rl σ' μ' 0 ∧ Ch μ μ' s' ∧ MS s' M B ∧ s' 1 = 1 ∧ s' 5 = μ 0 5 + 1 ∧ s' 3 = μ 0 3 ∧ Fc s' M B := by
  obtain ⟨σ1, μ1, b1, b2, b3, b4, b5, b6, b7⟩ := bg hR
  have hm1 : MS (μ1 0) M B := by rw [b5]; exact hm
  have ha := b2.ba hm1
  have b2' := b2
  obtain ⟨⟨_, _, _, _, h9, h10, _⟩, _, r3, _⟩ := b2'
  obtain ⟨m1, m2, m3, m4, m5, m6, m7, m8, m9, m10⟩ := hm1
  obtain ⟨s, hs⟩ : ∃ s, s = μ1 0 := ⟨_, rfl⟩
  rw [← hs] at ha h9 h10 m5 m6 m7 m8 m9
  obtain ⟨τ, c1, c2, c3, c4, c5, c6, c7⟩ := x_cwF (s := s) (M := M) (B := B) m2 m3 m4 (NB M B) 80 0 0 σ1 (by have := nb_le m3 m2; omega) (by omega) (by decide) ⟨ha.1, ha.2.1, ha.2.2.1, ha.2.2.2.2⟩ (r3 0 (by decide)) (fun i hi => by omega) ⟨fun _ => rfl, fun i hi => by omega⟩
  have hX : fX6_code σ = some (nI (NB M B), τ) := by
    unfold fX6_code fX1_codeWave
    rw [b1, bd_s, n0, c1, bd_s]
    simp only [Nat.mul_zero, Nat.add_zero]
    rw [c3]
  obtain ⟨s', hs'⟩ : ∃ s', s' = gS τ s := ⟨_, rfl⟩
  obtain ⟨⟨u0, u1, u2, u3, u4, u5, u6⟩, u7, u8⟩ := gS_at τ s
  rw [← hs'] at u0 u1 u2 u3 u4 u5 u6 u7 u8
  have hBm : ∀ {b : Nat}, (b < NB M B ↔ b * B < M) := fun {b} => nb_lt (by omega)
  have hblk : ∀ k, k < M → k / B * B < M ∧ k / B * B + k % B = k ∧ k < eo M B (k / B) := fun k hk => by
    have hd := kd (B := B) (by omega) k
    refine ⟨by omega, hd.1, ?_⟩
    unfold eo
    omega
  have hgn : ∀ b, b * B < M → ∀ j, PBi τ s M B b j → ∀ u, b * B + u < eo M B b → gn s' B (b * B + u) = fw s j (b * B) u := fun b hb j hP => gn_fw m2 m3 hb hP (fun k hk => (u7 k hk).2.1) (fun i hi => ⟨(u8 i hi).1, (u8 i hi).2.1⟩)
  have hCd : CdS s' M B := by
    refine ⟨fun b hb => ?_, fun k hk => ?_⟩
    · have hb32 := b32 m2 m3 hb
      obtain ⟨j, ⟨p1, p2, p3, p4, _⟩, _⟩ := c7 b (hBm.mpr hb)
      obtain ⟨q1, q2, q3⟩ := u8 b hb32
      rw [q1, q2, q3, p2, p3, p4]
      exact ⟨m9 _ hb, ⟨j, p1, rfl⟩, Or.inl rfl⟩
    · obtain ⟨k1, k2, k3⟩ := hblk k hk
      obtain ⟨j, ⟨p1, p2, p3, p4, p5, p6, p7, p8⟩, _⟩ := c7 (k / B) (hBm.mpr k1)
      rw [(u7 k (by omega)).2.1]
      refine ⟨fun h0 => ?_, fun h0 => ?_⟩
      · rw [h0, Nat.add_zero] at k2
        rw [k2] at p5
        exact p5
      · obtain ⟨u, hu⟩ : ∃ u, k % B = u + 1 := ⟨k % B - 1, by omega⟩
        obtain ⟨z1, _⟩ := p7 u (by omega)
        rw [show k / B * B + u + 1 = k by omega] at z1
        rw [z1]
        exact cdf_r _ _ _
  have hCo : Co τ 10 s' M B := by
    refine ⟨c3, fun b hb => ?_, fun k hk => ?_⟩
    · obtain ⟨q1, q2, q3⟩ := u8 b (b32 m2 m3 hb)
      exact ⟨q1.symm, q2.symm, q3.symm⟩
    · obtain ⟨_, q2, q3⟩ := u7 k (by omega)
      exact ⟨q2.symm, q3.symm⟩
  have sq : ∀ q, q ≠ 82 → q ≠ 10 → (q < 13 ∨ 18 ≤ q) → τ q = σ1 q := c2
  have hMM : 1 ≤ M ∧ M ≤ 64 ∧ 2 ≤ B ∧ B ≤ 16 ∧ s' 0 = nI M ∧ s' 2 = nI B ∧ (s' 3 = 0 ∨ s' 3 = 1) ∧ (s' 4 = 0 ∨ s' 4 = 1 ∨ s' 4 = 2) ∧ ∀ k, k < M → inV (s' (7 + k)) := by
    refine ⟨m1, m2, m3, m4, by rw [u0]; exact m5, by rw [u2]; exact m6, by rw [u3]; exact m7, by rw [u4]; exact m8, fun k hk => ?_⟩
    rw [(u7 k (by omega)).1]
    exact m9 k hk
  have hSR : SR τ 10 s' := by
    refine SR.co (M := M) (B := B) hMM u1 hCd ⟨?_, ?_, ?_, ?_, fun k hk => ?_⟩ ?_ ?_ hCo
    · rw [c5 0 (by decide) (by decide)]; exact ha.1
    · rw [sq 12 (by decide) (by decide) (by decide)]; exact ha.2.1
    · rw [sq 12 (by decide) (by decide) (by decide), u3]; exact ha.2.2.1
    · rw [sq 12 (by decide) (by decide) (by decide), u4]; exact ha.2.2.2.1
    · rw [sq 11 (by decide) (by decide) (by decide), (u7 k (by omega)).1]; exact ha.2.2.2.2 k hk
    · rw [c4, u5, h9]
    · rw [c5 10 (by decide) (by decide), u6]; exact h10
  have hms : MS s' M B := by
    obtain ⟨z1, z2, z3, z4, z5, z6, z7, z8, z9⟩ := hMM
    exact ⟨z1, z2, z3, z4, z5, z6, z7, z8, z9, Or.inr ⟨u1, hCd⟩⟩
  have h7 : ∀ k, k < 64 → s' (7 + k) = s (7 + k) := fun k hk => (u7 k hk).1
  have hFc : Fc s' M B := by
    refine ⟨fun k hk => ?_, fun b hb => ?_, fun b hb => ?_⟩
    · obtain ⟨k1, k2, k3⟩ := hblk k hk
      obtain ⟨j, hP, _⟩ := c7 (k / B) (hBm.mpr k1)
      have hg := hgn _ k1 j hP (k % B) (by omega)
      obtain ⟨p1, p2, p3, p4, p5, p6, p7, p8⟩ := hP
      rw [k2] at hg
      rw [(u7 k (by omega)).2.2, hg]
      rcases Nat.eq_zero_or_pos (k % B) with h0 | h0
      · rw [h0]
        rw [h0, Nat.add_zero] at k2
        rw [k2] at p6 ⊢
        exact p6
      · obtain ⟨u, hu⟩ : ∃ u, k % B = u + 1 := ⟨k % B - 1, by omega⟩
        obtain ⟨_, z2⟩ := p7 u (by omega)
        rw [show k / B * B + u + 1 = k by omega] at z2
        rw [z2, hu]
    · have hb32 := b32 m2 m3 hb
      obtain ⟨j, ⟨p1, p2, p3, p4, _⟩, _⟩ := c7 b (hBm.mpr hb)
      obtain ⟨q1, q2, q3⟩ := u8 b hb32
      exact ⟨q3.trans p4, by rw [q1, p2, h7 _ (by omega)]⟩
    · have hb32 := b32 m2 m3 hb
      have he1 : eo M B b ≤ M := Nat.min_le_left _ _
      have he2 : b * B < eo M B b := by unfold eo; omega
      obtain ⟨j, hP, hC⟩ := c7 b (hBm.mpr hb)
      have hg := hgn b hb j hP
      obtain ⟨p1, p2, p3, p4, p5, p6, p7, p8⟩ := hP
      obtain ⟨q1, q2, q3⟩ := u8 b hb32
      have hec : ∀ i, errs s' (b * B) (eo M B b - b * B) i = errs s (b * B) (eo M B b - b * B) i := fun i => errs_congr h7 (by omega) (by omega) i
      refine ⟨j, p1, q2.trans p3, ?_, fun h3 => ?_, fun h3 => ⟨fun h0 => ?_, fun b' hb' => ?_⟩⟩
      · rw [hec, errs_fw s (by omega)]
        refine sumSq_congr _ _ _ (fun i h1 h2 => ?_)
        show s (7 + i) - (fw s j (b * B) (i - b * B)).1 = s' (7 + i) - (gn s' B i).1
        have hgi := hg (i - b * B) (by omega)
        rw [show b * B + (i - b * B) = i by omega] at hgi
        rw [hgi, h7 i (by omega)]
      · obtain ⟨i1, i2, i3⟩ := p8 (by rw [← u3]; exact h3)
        exact ⟨i1, fun i hi => by rw [hec, hec]; exact i2 i hi, fun i hi => by rw [hec, hec]; exact i3 i hi⟩
      · exact (hC (by rw [← u3]; exact h3)).1 h0
      · subst hb'
        have hb1 : b' * B < M := by
          have := mulS B (show b' < b' + 1 by omega)
          omega
        have he4 : b' * B < eo M B b' := by unfold eo; omega
        obtain ⟨j', hP', _⟩ := c7 b' (hBm.mpr hb1)
        have hg' := hgn b' hb1 j' hP' (eo M B b' - 1 - b' * B) (by omega)
        have hj := (hC (by rw [← u3]; exact h3)).2 b' rfl j' hP'.1 hP'.2.2.1
        rw [show b' * B + (eo M B b' - 1 - b' * B) = eo M B b' - 1 by omega] at hg'
        rw [hj, hg']
  exact ⟨τ, upR μ1 0 s', s', hX, b2.gh hSR c6 (fun q hq => sq q (by omega) (by omega) (by omega)) (by rw [sq 86 (by decide) (by decide) (by decide)]; exact b3), Ch.up b6 b7 _, hms, u1, by rw [u5, hs, b5], by rw [u3, hs, b5], hFc⟩
