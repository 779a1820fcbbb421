/-! P31: a bit turned over, and once more -/
theorem Rl.r92 {σ μ σ' : Sg} (hR : Rl σ μ 0) (h : ∀ q, q < 92 → σ' q = σ q) : Rl σ' μ 0 := by
  have hR' := hR
  obtain ⟨_, _, _, _, _, _, hD⟩ := hR'
  exact hR.sm (fun q _ hq => h q (by omega)) (by rw [h 5 (by decide)]) (hD.fr (by rw [h 86 (by decide)]) (h 87 (by decide)) (h 88 (by decide)) rfl) (fun _ _ => rfl) rfl rfl
theorem add_inj {a b c : Int32} (h : a + c = b + c) : a = b := by
  have e1 : a + c - c = a := Int32.add_sub_cancel _ _
  have e2 : b + c - c = b := Int32.add_sub_cancel _ _
  rw [← e1, h, e2]
theorem sp_34 {μ : Sg} {M B : Nat} (hm : MS (μ 0) M B) (h1 : μ 0 1 = 1) (a1 a2 x3 x4 : Int32) : ∀ n f k (σ : Sg), n < f → k + n = M → Rl σ μ 0 → (∀ i, i < k → σ 92 i = md (μ 0) B i + 10000) → ∃ σ', fL_isSpoiled_L34 a1 a2 f x3 x4 (nI M) 0 (nI k) σ = fL_isSpoiled_L34 a1 a2 (0 + 1) x3 x4 (nI M) 0 (nI M) σ' ∧ Rl σ' μ 0 ∧ ∀ i, i < M → σ' 92 i = md (μ 0) B i + 10000 := by
  have m2 := hm.2.1
  intro n
  induction n with
  | zero =>
    intro f k σ hf hk hR hw
    obtain ⟨f, rfl⟩ := fu1 hf
    obtain rfl : k = M := by omega
    refine ⟨σ, ?_, hR, hw⟩
    rw [fL_isSpoiled_L34, if_pos (nI_le (Nat.le_refl k) (by omega)), fL_isSpoiled_L34, if_pos (nI_le (Nat.le_refl k) (by omega))]
  | succ n ih =>
    intro f k σ hf hk hR hw
    obtain ⟨f, rfl⟩ := fu1 hf
    have hkM : k < M := by omega
    obtain ⟨σ1, e1, l1⟩ := lk_s1 hR hm h1 hkM
    obtain ⟨σ2, hσ2⟩ : ∃ σ2, σ2 = up2 σ1 92 k (md (μ 0) B k + 10000) := ⟨_, rfl⟩
    obtain ⟨σ3, e2, l2, l3⟩ := ih f (k + 1) σ2 (by omega) (by omega) (l1.1.r92 (fun q hq => by rw [hσ2, up2_ne (by omega)])) (fun i hi => by
      rw [hσ2, up2_self, l1.2 92 (by decide)]
      by_cases h : i = k
      · rw [h, pk_us]
      · rw [pk_un h]
        exact hw i (by omega))
    refine ⟨σ3, ?_, l2, l3⟩
    rw [fL_isSpoiled_L34, if_neg (nI_ge hkM (by omega)), e1, bo_s, gi (show k < 64 by omega) (by decide), nI_clamp (show k < 2 ^ 31 by omega), nm_s, nm_s, nI_1, ← hσ2]
    exact e2
theorem sp_94 {μ : Sg} {M B : Nat} {w : Nat → Int32} (hm : MS (μ 0) M B) (h1 : μ 0 1 = 1) (a1 a2 x3 x4 : Int32) : ∀ n f k a (σ : Sg), n < f → k + n = M → Rl σ μ 0 → (∀ i, i < M → σ 92 i = w i + 10000) → ∃ σ', fL_isSpoiled_L94 a1 a2 f x3 x4 (nI M) a 1 (nI k) σ = fL_isSpoiled_L94 a1 a2 (0 + 1) x3 x4 (nI M) (cntE (md (μ 0) B) w n a k) 1 (nI M) σ' ∧ Rl σ' μ 0 ∧ ∀ i, i < M → σ' 92 i = w i + 10000 := by
  have m2 := hm.2.1
  intro n
  induction n with
  | zero =>
    intro f k a σ hf hk hR hw
    obtain ⟨f, rfl⟩ := fu1 hf
    obtain rfl : k = M := by omega
    refine ⟨σ, ?_, hR, hw⟩
    rw [fL_isSpoiled_L94, if_pos (nI_le (Nat.le_refl k) (by omega)), fL_isSpoiled_L94, if_pos (nI_le (Nat.le_refl k) (by omega))]
    rfl
  | succ n ih =>
    intro f k a σ hf hk hR hw
    obtain ⟨f, rfl⟩ := fu1 hf
    have hkM : k < M := by omega
    obtain ⟨σ1, e1, l1⟩ := lk_s1 hR hm h1 hkM
    have h92 : ∀ i, i < M → σ1 92 i = w i + 10000 := fun i hi => by rw [l1.2 92 (by decide)]; exact hw i hi
    obtain ⟨σ3, e2, l2, l3⟩ := ih f (k + 1) (if md (μ 0) B k = w k then a + 1 else a) σ1 (by omega) (by omega) l1.1 h92
    refine ⟨σ3, ?_, l2, l3⟩
    rw [cntE, ← e2, fL_isSpoiled_L94, if_neg (nI_ge hkM (by omega)), e1, bo_s, gi (show k < 64 by omega) (by decide), nI_clamp (show k < 2 ^ 31 by omega), h92 k hkM]
    by_cases q : md (μ 0) B k = w k
    · rw [if_pos (by rw [q]), if_pos q, nm_s, nm_s, nI_1]
    · rw [if_neg (fun z => q (add_inj z)), if_neg q, nm_s, nm_s, nI_1, Int32.add_zero]
theorem sp_167 {μ : Sg} {M B : Nat} {w : Nat → Int32} (hm : MS (μ 0) M B) (h1 : μ 0 1 = 1) (hw : ∀ i, i < M → md (μ 0) B i = w i) (a1 a2 x4 : Int32) : ∀ n f k (σ : Sg), n < f → k + n = M → Rl σ μ 0 → (∀ i, i < M → σ 92 i = w i + 10000) → ∃ σ', fL_isSpoiled_L167 a1 a2 f x4 (nI M) 1 (nI k) σ = fL_isSpoiled_b207 a1 a2 x4 1 σ' ∧ Rl σ' μ 0 := by
  have m2 := hm.2.1
  have n10 : ¬ (1 : Int32) = 0 := by decide
  intro n
  induction n with
  | zero =>
    intro f k σ hf hk hR h9
    obtain ⟨f, rfl⟩ := fu1 hf
    refine ⟨σ, ?_, hR⟩
    rw [fL_isSpoiled_L167, if_pos (nI_le (by omega) (by omega))]
  | succ n ih =>
    intro f k σ hf hk hR h9
    obtain ⟨f, rfl⟩ := fu1 hf
    have hkM : k < M := by omega
    obtain ⟨σ1, e1, l1⟩ := lk_s1 hR hm h1 hkM
    have h92 : ∀ i, i < M → σ1 92 i = w i + 10000 := fun i hi => by rw [l1.2 92 (by decide)]; exact h9 i hi
    obtain ⟨σ3, e2, l2⟩ := ih f (k + 1) σ1 (by omega) (by omega) l1.1 h92
    refine ⟨σ3, ?_, l2⟩
    rw [fL_isSpoiled_L167, if_neg (nI_ge hkM (by omega)), if_neg n10, e1, bo_s, gi (show k < 64 by omega) (by decide), nI_clamp (show k < 2 ^ 31 by omega), h92 k hkM, if_pos (by rw [hw k hkM]), nm_s, nI_1]
    exact e2
theorem spoiled_ok {σ μ : Sg} {M B k b : Nat} (hR : Rl σ μ 0) (hm : MS (μ 0) M B) (h1 : μ 0 1 = 1) (hk : k < M) (hkB : k % B ≠ 0) (hb : b < 4) : ∃ σ' μ', fL_isSpoiled (nI k) (nI b) σ = some (1, σ') ∧ Rl σ' μ' 0 := by
  have n10 : ¬ (1 : Int32) = 0 := by decide
  have hm' := hm
  obtain ⟨m1, m2, m3, m4, m5, m6, m7, m8, m9, m10⟩ := hm'
  obtain ⟨_, hd⟩ := hR.co hm h1
  have hc16 := (hd.2 k hk).2 hkB
  obtain ⟨s, hs⟩ : ∃ s, s = μ 0 := ⟨_, rfl⟩
  obtain ⟨c0, hc0⟩ : ∃ c0, c0 = s (71 + k) := ⟨_, rfl⟩
  obtain ⟨c, hc⟩ : ∃ c, c = xb c0 b := ⟨_, rfl⟩
  have hcb : xb c b = c0 := by rw [hc, hc0, hs]; exact xb_back hc16 hb
  obtain ⟨σ1, e1, l1⟩ := lk_is hR hm h1 hk hkB hb
  rw [← hs, ← hc0, ← hc] at e1
  obtain ⟨σ2, e2, l2⟩ := lk_s3 l1.1 hm h1 hk
  rw [← hs, ← hc0] at e2
  have ha2 := l2.1.ba hm
  obtain ⟨σ3, hσ3⟩ : ∃ σ3, σ3 = upR σ2 92 (fun _ => 0) := ⟨_, rfl⟩
  have R3 : Rl σ3 μ 0 := l2.1.r92 (fun q hq => by rw [hσ3, upR_ne (by omega)])
  obtain ⟨W, hW⟩ : ∃ W, W = cntN (md (upd s (71 + k) c) B) (md s B) M 0 0 := ⟨_, rfl⟩
  rw [← hW] at e1
  obtain ⟨σ4, e4, R4, w4⟩ := sp_34 hm h1 (nI k) (nI b) W c0 M 80 0 σ3 (by omega) (by omega) R3 (fun i hi => by omega)
  rw [← hs] at w4
  obtain ⟨σ5, μ5, e5, R5, C5, hm5, h15, f5⟩ := ch_spoil R4 hm h1 hk hkB hb
  have e5' : fX6_spoil (nI k) (nI b) σ4 = some (.inl c, σ5) := by
    rw [hc, hc0, hs]
    exact e5
  have hμ5 : μ5 0 = spS s k c := by
    rw [hc, hc0, hs]
    exact C5.1
  have hs71 : spS s k c (71 + k) = c := by unfold spS; rw [pk_un (by omega), pk_us]
  have w5 : ∀ i, i < M → σ5 92 i = md s B i + 10000 := fun i hi => by rw [f5 92 (by decide)]; exact w4 i hi
  obtain ⟨σ6, e6, l6⟩ := lk_is R5 hm5 h15 hk hkB hb
  rw [hμ5, hs71, hcb] at e6
  have A1 : Ag (upd s (71 + k) c) (spS s k c) M B := by
    unfold spS
    refine ⟨by rw [pk_un (by omega)], fun i hi => ?_, fun i hi _ => by rw [pk_un (by omega)]⟩
    have := b32 m2 m3 hi
    exact ⟨pk_un (by omega), pk_un (by omega), pk_un (by omega)⟩
  have A2 : Ag s (upd (spS s k c) (71 + k) c0) M B := by
    unfold spS
    refine ⟨by rw [pk_un (by omega), pk_un (by omega), pk_un (by omega)], fun i hi => ?_, fun i hi _ => ?_⟩
    · have := b32 m2 m3 hi
      rw [pk_un (by omega), pk_un (by omega), pk_un (by omega), pk_un (by omega), pk_un (by omega), pk_un (by omega), pk_un (by omega), pk_un (by omega), pk_un (by omega)]
      exact ⟨rfl, rfl, rfl⟩
    · by_cases q : i = k
      · rw [q, pk_us, hc0]
      · rw [pk_un (by omega), pk_un (by omega), pk_un (by omega)]
  have g1 : ∀ i, i < M → md (spS s k c) B i = md (upd s (71 + k) c) B i := fun i hi => md_ag m3 A1 (i + 1) i (by omega) hi
  have g2 : ∀ i, i < M → md (upd (spS s k c) (71 + k) c0) B i = md s B i := fun i hi => md_ag m3 A2 (i + 1) i (by omega) hi
  have hW2 : cntN (md (upd (spS s k c) (71 + k) c0) B) (md (spS s k c) B) M 0 0 = W := by
    rw [hW, cnt_sym (md (upd s (71 + k) c) B)]
    exact cntN_congr _ _ _ (fun i _ hi => ⟨g2 i (by omega), g1 i (by omega)⟩)
  rw [hW2] at e6
  have w6 : ∀ i, i < M → σ6 92 i = md s B i + 10000 := fun i hi => by rw [l6.2 92 (by decide)]; exact w5 i hi
  obtain ⟨σ7, e7, R7, w7⟩ := sp_94 (w := md s B) hm5 h15 (nI k) (nI b) W c0 M 80 0 0 σ6 (by omega) (by omega) l6.1 w6
  rw [hμ5] at e7
  have hsame : cntE (md (spS s k c) B) (md s B) M 0 0 = nI M - W := by
    rw [cnt_E, hW]
    refine congrArg (fun z => nI M - z) (cntN_congr _ _ _ (fun i _ hi => ⟨g1 i (by omega), rfl⟩))
  rw [hsame] at e7
  obtain ⟨σ8, μ8, e8, R8, C8, hm8, h18, f8⟩ := ch_spoil R7 hm5 h15 hk hkB hb
  rw [hμ5, hs71] at e8
  have e8' : fX6_spoil (nI k) (nI b) σ7 = some (.inl c0, σ8) := by
    rw [← hcb]
    exact e8
  have hμ8 : μ8 0 = spS (spS s k c) k c0 := by
    rw [C8.1, hμ5, hs71]
    exact congrArg (spS (spS s k c) k) hcb
  have A3 : Ag s (μ8 0) M B := by
    rw [hμ8]
    unfold spS
    refine ⟨by rw [pk_un (by omega), pk_un (by omega), pk_un (by omega), pk_un (by omega)], fun i hi => ?_, fun i hi _ => ?_⟩
    · have := b32 m2 m3 hi
      rw [pk_un (by omega), pk_un (by omega), pk_un (by omega), pk_un (by omega), pk_un (by omega), pk_un (by omega), pk_un (by omega), pk_un (by omega), pk_un (by omega), pk_un (by omega), pk_un (by omega), pk_un (by omega)]
      exact ⟨rfl, rfl, rfl⟩
    · by_cases q : i = k
      · rw [q, pk_un (by omega), pk_us, hc0]
      · rw [pk_un (by omega), pk_un (by omega), pk_un (by omega), pk_un (by omega)]
  have w8 : ∀ i, i < M → σ8 92 i = md s B i + 10000 := fun i hi => by rw [f8 92 (by decide)]; exact w7 i hi
  obtain ⟨σ9, e9, R9⟩ := sp_167 (w := md s B) hm8 h18 (fun i hi => md_ag m3 A3 (i + 1) i (by omega) hi) (nI k) (nI b) c0 M 80 0 σ8 (by omega) (by omega) R8 w8
  have hall : fL_isSpoiled (nI k) (nI b) σ = fL_isSpoiled_b207 (nI k) (nI b) c0 1 σ9 := by
    unfold fL_isSpoiled
    rw [e1, bo_s, e2, bo_s, x_c0, bo_s, show σ2 10 0 = nI M from ha2.1, nm_s, ← hσ3]
    rw [show fL_isSpoiled_L34 (nI k) (nI b) 80 W c0 (nI M) 0 0 σ3 = fL_isSpoiled_L34 (nI k) (nI b) 80 W c0 (nI M) 0 (nI 0) σ3 from rfl, e4]
    rw [fL_isSpoiled_L34, if_pos (nI_le (Nat.le_refl M) (by omega)), e5', bo_s, if_pos hc, e6, bo_s, if_pos rfl]
    rw [show fL_isSpoiled_L94 (nI k) (nI b) 80 W c0 (nI M) 0 1 0 σ6 = fL_isSpoiled_L94 (nI k) (nI b) 80 W c0 (nI M) 0 1 (nI 0) σ6 from rfl, e7]
    rw [fL_isSpoiled_L94, if_pos (nI_le (Nat.le_refl M) (by omega)), if_neg n10, if_pos rfl, e8', bo_s, if_pos rfl]
    exact e9
  rw [hall]
  unfold fL_isSpoiled_b207
  rw [if_neg n10]
  by_cases q : c0 &&& 1 = 0
  · rw [if_pos q]
    exact ⟨σ9, μ8, rfl, R9⟩
  · obtain ⟨σ10, μ10, e10, R10, _⟩ := ch_spoil R9 hm8 h18 hk hkB hb
    obtain ⟨_, hd8⟩ := R9.co hm8 h18
    have hcr := xor_r ((hd8.2 k hk).2 hkB) hb
    unfold c16 at hcr
    rw [if_neg q, e10, bo_s, if_neg (show ¬ (μ8 0 (71 + k) ^^^ (1 <<< (nI b &&& 31))) < 0 by rw [Int32.lt_iff_toInt_lt, Int32.toInt_zero]; omega)]
    exact ⟨σ10, μ10, rfl, R10⟩
