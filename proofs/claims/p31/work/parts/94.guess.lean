/-! P31: a wave just coded is as guessed -/
theorem md_nl {s : Nat → Int32} {B k : Nat} (hB : 2 ≤ B) (h : s (263 + k / B) = 0) : md s B k = (gn s B k).1 := by
  rw [md_eq s hB]
  unfold val
  rw [if_neg (by rw [h]; decide)]
theorem gu_176 {σ μ : Sg} {M B b j : Nat} (hR : Rl σ μ 0) (hm : MS (μ 0) M B) (hb : b * B < M) (hj : j < 49) (K : Int32 → Int32 → Sg → Option (Int32 × Sg)) : ∃ σ', fL_isAsGuessed_b176 K (nI b) (nI (b * B)) (nI (eo M B b - b * B)) (nI j) 1 σ = K 1 (nI (b + 1)) σ' ∧ Lk σ μ σ' := by
  have hm' := hm
  obtain ⟨m1, m2, m3, m4, _⟩ := hm'
  have he1 : eo M B b ≤ M := Nat.min_le_left _ _
  have he2 : b * B < eo M B b := by unfold eo; omega
  obtain ⟨r, σ1, e1, i1, l1⟩ := lk_bs (a := b * B) (m := eo M B b - b * B) hR hm (by omega) (by omega)
  obtain ⟨σ2, e2, l2⟩ := lk_ib (a := b * B) (m := eo M B b - b * B) (j := r) l1.1 hm (by omega) (by omega) i1.1
  obtain ⟨σ3, e3, l3⟩ := lk_ib (a := b * B) (m := eo M B b - b * B) (j := j) l2.1 hm (by omega) (by omega) hj
  refine ⟨σ3, ?_, (l1.tr l2).tr l3⟩
  have hle := i1.2.1 j hj
  unfold fL_isAsGuessed_b176
  rw [e1, bo_s, if_neg (show ¬ (1 : Int32) = 0 by decide), e2, bo_s, e3, bo_s, if_neg (show ¬ errs (μ 0) (b * B) (eo M B b - b * B) j < errs (μ 0) (b * B) (eo M B b - b * B) r by rw [Int32.lt_iff_toInt_lt]; omega), nm_s, nI_1]
theorem gu_121 {σ μ : Sg} {M B b j : Nat} (hR : Rl σ μ 0) (hm : MS (μ 0) M B) (h1 : μ 0 1 = 1) (hb : b * B < M) (hj : j < 49) (hI : μ 0 3 = 1 → IsB (errs (μ 0) (b * B) (eo M B b - b * B)) j) (hC : μ 0 3 ≠ 1 → (b = 0 → j = 0) ∧ ∀ b', b = b' + 1 → j = (gn (μ 0) B (eo M B b' - 1)).2) (K : Int32 → Int32 → Sg → Option (Int32 × Sg)) : ∃ σ', fL_isAsGuessed_b121 K (nI b) (nI (b * B)) (nI (eo M B b - b * B)) (nI j) 1 σ = K 1 (nI (b + 1)) σ' ∧ Lk σ μ σ' := by
  have hm' := hm
  obtain ⟨m1, m2, m3, m4, _⟩ := hm'
  have hb32 := b32 m2 m3 hb
  have he1 : eo M B b ≤ M := Nat.min_le_left _ _
  have he2 : b * B < eo M B b := by unfold eo; omega
  obtain ⟨_, e0, _⟩ := lk_st hR hm
  unfold fL_isAsGuessed_b121
  rw [if_neg (show ¬ (1 : Int32) = 0 by decide), e0, bo_s]
  by_cases h3 : μ 0 3 = 1
  · obtain ⟨r, σ1, e1, i1, l1⟩ := lk_bs (a := b * B) (m := eo M B b - b * B) hR hm (by omega) (by omega)
    obtain ⟨σ2, e2, l2⟩ := gu_176 l1.1 hm hb hj K
    refine ⟨σ2, ?_, l1.tr l2⟩
    rw [if_pos h3, e1, bo_s, if_pos (by rw [(hI h3).one i1])]
    unfold fL_isAsGuessed_b171
    exact e2
  · rw [if_neg h3]
    obtain ⟨c1, c2⟩ := hC h3
    by_cases h0 : b = 0
    · obtain ⟨σ2, e2, l2⟩ := gu_176 hR hm hb hj K
      refine ⟨σ2, ?_, l2⟩
      rw [if_pos (by rw [h0]; rfl)]
      unfold fL_isAsGuessed_b168 fL_isAsGuessed_b171
      rw [if_pos (by rw [c1 h0]; rfl)]
      exact e2
    · obtain ⟨b', rfl⟩ : ∃ b', b = b' + 1 := ⟨b - 1, by omega⟩
      have hb' : b' * B < M := by
        have := mulS B (show b' < b' + 1 by omega)
        omega
      obtain ⟨σ1, e1, l1⟩ := lk_b5 hR hm h1 hb'
      obtain ⟨σ2, e2, l2⟩ := gu_176 l1.1 hm hb hj K
      refine ⟨σ2, ?_, l1.tr l2⟩
      rw [if_neg (nI_ne0 (by omega) (by omega)), show nI (b' + 1) - 1 = nI b' from nI_pred b', e1, bo_s]
      unfold fL_isAsGuessed_b168 fL_isAsGuessed_b171
      rw [if_pos (by rw [c2 b' rfl])]
      exact e2
theorem gu_46 {μ : Sg} {M B : Nat} (hm : MS (μ 0) M B) (h1 : μ 0 1 = 1) (hF : Fc (μ 0) M B) : ∀ n f b (σ : Sg), n < f → b + n = NB M B → Rl σ μ 0 → ∃ σ', fL_isAsGuessed_L46 f 1 (nI b) σ = some (1, σ') ∧ Lk σ μ σ' := by
  have hm' := hm
  obtain ⟨m1, m2, m3, m4, m5, m6, m7, m8, m9, m10⟩ := hm'
  have hle := nb_le m3 m2
  have n10 : ¬ (1 : Int32) = 0 := by decide
  obtain ⟨F1, F2, F3⟩ := hF
  intro n
  induction n with
  | zero =>
    intro f b σ hf hb hR
    obtain ⟨f, rfl⟩ := fu1 hf
    obtain ⟨ho, _⟩ := hR.co hm h1
    refine ⟨σ, ?_, Lk.rf hR⟩
    rw [fL_isAsGuessed_L46, x_c2, bo_s, show σ 10 3 = nI (NB M B) from ho.1, if_pos (nI_le (by omega) (by omega)), gd_of (Or.inr rfl)]
  | succ n ih =>
    intro f b σ hf hb hR
    obtain ⟨f, rfl⟩ := fu1 hf
    have hbM := (nb_lt (M := M) (B := B) (b := b) (by omega)).mp (by omega)
    have he1 : eo M B b ≤ M := Nat.min_le_left _ _
    have he2 : b * B < eo M B b := by unfold eo; omega
    have he3 : eo M B b ≤ b * B + B := Nat.min_le_right _ _
    have hb32 := b32 m2 m3 hbM
    obtain ⟨ho, hd⟩ := hR.co hm h1
    obtain ⟨g1, g2⟩ := F2 b hbM
    obtain ⟨j, hj, ej, hE, hI, hC⟩ := F3 b hbM
    obtain ⟨e0, _, _⟩ := lk_st hR hm
    have e1 := lk_b0 hR hm h1 hbM
    have e2 := lk_b2 hR hm h1 hbM
    rw [ej] at e2
    obtain ⟨σ1, e3, l1⟩ := lk_ib (a := b * B) (m := eo M B b - b * B) (j := j) hR hm (by omega) (by omega) hj
    obtain ⟨σ2, e4, l2⟩ := lk_b4 l1.1 hm h1 hbM
    have e5 := lk_b1 l2.1 hm h1 hbM
    have e6 := lk_s0 (k := b * B) l2.1 hm hbM
    obtain ⟨σ3, e7, l3⟩ := gu_121 l2.1 hm h1 hbM hj hI hC (fun x1 x2 σ => fL_isAsGuessed_L46 f x1 x2 σ)
    obtain ⟨σ4, e8, l4⟩ := ih f (b + 1) σ3 (by omega) (by omega) l3.1
    refine ⟨σ4, ?_, ((l1.tr l2).tr l3).tr l4⟩
    have hsum : errs (μ 0) (b * B) (eo M B b - b * B) j = sumSq (erD (μ 0) B) (eo M B b - b * B) 0 (b * B) := by
      rw [hE]
      refine sumSq_congr _ _ _ (fun i h1 h2 => ?_)
      show μ 0 (7 + i) - (gn (μ 0) B i).1 = μ 0 (7 + i) - md (μ 0) B i
      have hq := kq (B := B) (b := b) (k := i) (by omega) (by omega)
      rw [md_nl m3 (by rw [hq.1]; exact g1)]
    rw [fL_isAsGuessed_L46, x_c2, bo_s, show σ 10 3 = nI (NB M B) from ho.1, if_neg (nI_ge (by omega) (by omega)), if_neg n10, e0, bo_s, nm_s, pk_mul, e1, bo_s, e2, bo_s, e3, bo_s, e4, bo_s, if_pos hsum, e5, bo_s, e6, bo_s, if_pos (by rw [g2]), e7]
    exact e8
theorem guess_ok {σ μ : Sg} {M B : Nat} (hR : Rl σ μ 0) (hm : MS (μ 0) M B) (h1 : μ 0 1 = 1) (hF : Fc (μ 0) M B) : ∃ σ', fL_isAsGuessed σ = some (1, σ') ∧ Lk σ μ σ' := by
  have hm' := hm
  obtain ⟨m1, m2, m3, m4, m5, m6, m7, m8, m9, m10⟩ := hm'
  have hle := nb_le m3 m2
  have n10 : ¬ (1 : Int32) = 0 := by decide
  have hL : ∀ n f k (σ : Sg), n < f → k + n = M → Rl σ μ 0 → ∃ σ', fL_isAsGuessed_L4 f 1 (nI k) σ = some (1, σ') ∧ Lk σ μ σ' := by
    intro n
    induction n with
    | zero =>
      intro f k σ hf hk hR
      obtain ⟨f, rfl⟩ := fu1 hf
      have ha := hR.ba hm
      obtain ⟨σ', e1, l1⟩ := gu_46 hm h1 hF (NB M B) 80 0 σ (by omega) (by omega) hR
      refine ⟨σ', ?_, l1⟩
      rw [fL_isAsGuessed_L4, x_c0, bo_s, show σ 10 0 = nI M from ha.1, if_pos (nI_le (by omega) (by omega))]
      rw [show fL_isAsGuessed_L46 80 1 0 σ = fL_isAsGuessed_L46 80 1 (nI 0) σ from by rw [← n0]]
      exact e1
    | succ n ih =>
      intro f k σ hf hk hR
      obtain ⟨f, rfl⟩ := fu1 hf
      have hkM : k < M := by omega
      have ha := hR.ba hm
      have hd := kd (B := B) (by omega) k
      obtain ⟨σ1, e1, l1⟩ := lk_s1 hR hm h1 hkM
      obtain ⟨σ2, e2, l2⟩ := lk_s2 l1.1 hm h1 hkM
      obtain ⟨σ3, e3, l3⟩ := ih f (k + 1) σ2 (by omega) (by omega) l2.1
      refine ⟨σ3, ?_, (l1.tr l2).tr l3⟩
      have heq : md (μ 0) B k + 10000 = μ 0 (135 + k) + 10000 := by
        rw [hF.1 k hkM, md_nl m3 (hF.2.1 (k / B) (by omega)).1]
      rw [fL_isAsGuessed_L4, x_c0, bo_s, show σ 10 0 = nI M from ha.1, if_neg (nI_ge hkM (by omega)), if_neg n10, e1, bo_s, e2, bo_s, if_pos heq, nm_s, nI_1]
      exact e3
  obtain ⟨σ', e1, l1⟩ := hL M 80 0 σ (by omega) (by omega) hR
  refine ⟨σ', ?_, l1⟩
  unfold fL_isAsGuessed
  exact e1
