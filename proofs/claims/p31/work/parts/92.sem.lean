/-! P31: states that decode alike; counting -/
def Ag (s s' : Nat → Int32) (M B : Nat) : Prop := s' 4 = s 4 ∧ (∀ b, b * B < M → s' (199 + b) = s (199 + b) ∧ s' (231 + b) = s (231 + b) ∧ s' (263 + b) = s (263 + b)) ∧ ∀ k, k < M → k % B ≠ 0 → s' (71 + k) = s (71 + k)
theorem gn_ag {s s' : Nat → Int32} {M B : Nat} (hB : 2 ≤ B) (h : Ag s s' M B) : ∀ k, k < M → gn s' B k = gn s B k := by
  obtain ⟨h4, hb, hc⟩ := h
  have hf : ∀ k, k < M → k % B = 0 → gn s' B k = gn s B k := by
    intro k hk h0
    have hd := kd (B := B) (by omega) k
    obtain ⟨e1, e2, _⟩ := hb (k / B) (by omega)
    rw [gn_first s h0, gn_first s' h0, e1, e2]
  intro k
  induction k with
  | zero => exact fun hk => hf 0 hk (Nat.zero_mod B)
  | succ k ih =>
    intro hk
    by_cases h0 : (k + 1) % B = 0
    · exact hf _ hk h0
    · rw [gn_next s h0, gn_next s' h0, ih (by omega), hc _ hk h0]
theorem md_ag {s s' : Nat → Int32} {M B : Nat} (hB : 2 ≤ B) (h : Ag s s' M B) : ∀ K k, k < K → k < M → md s' B k = md s B k := by
  have hg := gn_ag hB h
  obtain ⟨h4, hb, hc⟩ := h
  intro K
  induction K with
  | zero => intro k hk; omega
  | succ K ih =>
    intro k hk hM
    have hd := kd (B := B) (by omega) k
    obtain ⟨_, _, e3⟩ := hb (k / B) (by omega)
    have hf : fil s' B (md s' B) k = fil s B (md s B) k := by
      have hfc : fil s' B (md s' B) k = fil s' B (md s B) k := fil_congr s' hB (fun i hi => ih i (by omega) (by omega))
      rw [hfc]
      unfold fil
      rw [h4]
    rw [md_eq s' hB, md_eq s hB]
    unfold val
    rw [e3, hg k hM, hf]
theorem cnt_sym (f g : Nat → Int32) : ∀ n acc k, cntN f g n acc k = cntN g f n acc k := by
  intro n
  induction n with
  | zero => intro acc k; rfl
  | succ n ih =>
    intro acc k
    rw [cntN, cntN, ih]
    by_cases h : f k = g k
    · rw [if_pos h, if_pos h.symm]
    · rw [if_neg h, if_neg (fun z => h z.symm)]
theorem cnt_nn (f g : Nat → Int32) : ∀ n a k, ∃ r, r ≤ a + n ∧ cntN f g n (nI a) k = nI r := by
  intro n
  induction n with
  | zero => intro a k; exact ⟨a, Nat.le_refl a, rfl⟩
  | succ n ih =>
    intro a k
    rw [cntN]
    by_cases h : f k = g k
    · rw [if_pos h]
      obtain ⟨r, r1, r2⟩ := ih a (k + 1)
      exact ⟨r, by omega, r2⟩
    · rw [if_neg h, nI_1]
      obtain ⟨r, r1, r2⟩ := ih (a + 1) (k + 1)
      exact ⟨r, by omega, r2⟩
theorem cnt_0 {f g : Nat → Int32} : ∀ n acc k, (∀ i, k ≤ i → i < k + n → f i = g i) → cntN f g n acc k = acc := by
  intro n
  induction n with
  | zero => intro acc k h; rfl
  | succ n ih =>
    intro acc k h
    rw [cntN, if_pos (h k (Nat.le_refl k) (by omega))]
    exact ih _ _ (fun i h1 h2 => h i (by omega) (by omega))
theorem cnt_E {f g : Nat → Int32} (n : Nat) : cntE f g n 0 0 = nI n - cntN f g n 0 0 := by
  have h := cnt_EN f g n 0 0 0
  rw [Int32.zero_add, Int32.zero_add] at h
  rw [← h, Int32.add_comm, Int32.add_sub_cancel]
/-- the code with the bit b turned over -/
abbrev xb (c : Int32) (b : Nat) : Int32 := c ^^^ (1 <<< (nI b &&& 31))
theorem xb_back {c : Int32} (h : c16 c) {b : Nat} (hb : b < 4) : xb (xb c b) b = c := by
  obtain ⟨x, hx, rfl⟩ := c16_nI h
  exact xor2_dec x hx b hb
theorem lk_is {σ μ : Sg} {M B k b : Nat} (hR : Rl σ μ 0) (hm : MS (μ 0) M B) (h1 : μ 0 1 = 1) (hk : k < M) (hkB : k % B ≠ 0) (hb : b < 4) : ∃ σ', fX6_ifSpoiled (nI k) (nI b) σ = some (.inl (cntN (md (upd (μ 0) (71 + k) (xb (μ 0 (71 + k)) b)) B) (md (μ 0) B) M 0 0), σ') ∧ Lk σ μ σ' := by
  have ha := hR.ba hm
  obtain ⟨ho, hd⟩ := hR.co hm h1
  have hS := hR.1
  have hm3 := hm
  obtain ⟨m1, m2, m3, m4, m5, m6, m7, m8, m9, m10⟩ := hm3
  have e16 : σ 16 k = μ 0 (71 + k) := (ho.2.2 k hk).1
  have hc16 := (hd.2 k hk).2 hkB
  obtain ⟨c, hcd⟩ : ∃ c, c = xb (μ 0 (71 + k)) b := ⟨_, rfl⟩
  have hc : c16 c := by rw [hcd]; exact xor_r hc16 hb
  have hback : c ^^^ (1 <<< (nI b &&& 31)) = μ 0 (71 + k) := by rw [hcd]; exact xb_back hc16 hb
  have hcode : fX4_hasCode 0 (nI k) σ = some 1 := by
    rcases cod hS (nI k) with ⟨_, _, _, _, _, _, _, _, _, _, _, g1, _⟩ | ⟨_, _, g3⟩
    · exact g1
    · exact absurd (g3 k rfl (by omega) M B hm h1 hk) hkB
  obtain ⟨σ7, x1, x2, x3, x4, x5⟩ := x_decR hR hm h1
  obtain ⟨s9, hs9⟩ : ∃ s9, s9 = up2 (up2 σ7 16 k c) 89 3 0 := ⟨_, rfl⟩
  have t9 : ∀ q, q ≠ 16 → q ≠ 89 → s9 q = σ7 q := fun q q1 q2 => by rw [hs9, up2_ne q2, up2_ne q1]
  have t16 : s9 16 = upd (σ 16) k c := by rw [hs9, up2_ne (by decide), up2_self, x2 16 (by decide)]
  obtain ⟨u4, hu4⟩ : ∃ u4 : Nat → Int32, u4 = upd (μ 0) (71 + k) c := ⟨_, rfl⟩
  obtain ⟨z1, z2, z3, z4, z5, z6⟩ := SR.turn (t := μ 0 6) (τ := s9) (s' := u4) hS hm h1 ha ho hd hk hkB hc (fun q q1 q2 q3 => by rw [t9 q q3 (by omega), x2 q (by omega)]) (fun i _ => by rw [t9 10 (by decide) (by decide), x2 10 (by decide)]) (by
    obtain ⟨_, _, _, _, _, w, _⟩ := hS
    rw [t9 10 (by decide) (by decide), x2 10 (by decide), w]) t16 (fun i q1 q2 => by rw [hu4, pk_un q1]) (by rw [hu4, pk_un (by omega)]) (by rw [hu4, pk_us])
  obtain ⟨s12, y1, y2, y3, y4⟩ := x_dec (i0 := 1) m2 m3 m4 z5 z3 z4 (by rw [hs9, up2_self, pk_us])
  have y2' : ∀ q, q ≠ 84 → q ≠ 89 → q ≠ 90 → q ≠ 91 → s12 q = s9 q := fun q q1 q2 q3 q4 => y2 q (by unfold dR; omega) q2
  obtain ⟨s14, hs14⟩ : ∃ s14, s14 = up2 s12 16 k (μ 0 (71 + k)) := ⟨_, rfl⟩
  have r16 : s14 16 = σ 16 := by rw [hs14, up2_self, y2' 16 (by decide) (by decide) (by decide) (by decide), t16, ← e16, upd_back]
  have rq : ∀ q, q < 82 → s14 q = σ q := by
    intro q hq
    by_cases h : q = 16
    · rw [h, r16]
    · rw [hs14, up2_ne h, y2' q (by omega) (by omega) (by omega) (by omega), t9 q h (by omega), x2 q (Or.inl hq)]
  have r86 : ∀ q, 86 ≤ q → q < 89 ∨ 92 ≤ q → s14 q = σ7 q := fun q q1 q2 => by rw [hs14, up2_ne (by omega), y2' q (by omega) (by omega) (by omega) (by omega), t9 q (by omega) (by omega)]
  have r90 : ∀ i, i < M → s14 90 i = md u4 B i := fun i hi => by rw [hs14, up2_ne (by decide)]; exact (y3 i hi).1
  have hX : fX6_ifSpoiled (nI k) (nI b) σ = some (.inl (cntN (md u4 B) (md (μ 0) B) M 0 0), s14) := by
    unfold fX6_ifSpoiled fX4_turnOver
    rw [(x_cb _ _ _).2.2 hcode ⟨b, hb, rfl⟩, bx_s, x1, bd_s]
    simp only [gi (show k < 64 by omega) (by decide), nm_s, bd_s, Nat.mul_zero, Nat.add_zero, Nat.mul_one, Nat.reduceAdd]
    rw [nI_clamp (show k < 2 ^ 31 by omega), x2 16 (by decide), e16, show μ 0 (71 + k) ^^^ (1 <<< (nI b &&& 31)) = c from hcd.symm, ← hs9, y1, bd_s, y2' 16 (by decide) (by decide) (by decide) (by decide), t16, pk_us, hback, ← hs14, rq 10 (by decide), show σ 10 0 = nI M from ha.1]
    unfold fX2_othersThan
    rw [show fX2_othersThan_L5 1 0 (nI M) 80 0 0 s14 = fX2_othersThan_L5 1 0 (nI M) 80 0 (nI 0) s14 from by rw [← n0], x_otL m2 M 80 0 0 (by omega) (by omega), bd_s]
    refine congrArg some (congrArg (fun z => (Sum.inl z, s14)) (cntN_congr _ _ _ (fun i _ hi => ?_)))
    exact ⟨r90 i (by omega), by rw [r86 87 (by decide) (by decide)]; exact (x3 i (by omega)).1⟩
  rw [← hcd, ← hu4]
  refine ⟨s14, hX, (x5 0).sm (fun q _ hq => by rw [rq q hq, x2 q (Or.inl hq)]) (by rw [rq 5 (by decide), x2 5 (by decide)]) (Or.inr ⟨by rw [r86 86 (by decide) (by decide)]; exact x4, fun M2 B2 hm5 _ => ?_⟩) (fun _ _ => rfl) rfl rfl, fun q hq => by rw [r86 q (by omega) (by omega), x2 q (by omega)]⟩
  obtain ⟨rfl, rfl⟩ := hm5.one hm
  intro i hi
  show s14 87 i = _ ∧ s14 88 i = _
  rw [r86 87 (by decide) (by decide), r86 88 (by decide) (by decide)]
  exact x3 i hi
