/-! P31: all that is told goes together -/
theorem not_lt_of {x : Int32} (h : inV x) : ¬ x < -2048 ∧ ¬ 2047 < x := by
  have h1 : (-2048 : Int32).toInt = -2048 := by decide
  have h2 : (2047 : Int32).toInt = 2047 := by decide
  unfold inV at h
  rw [Int32.lt_iff_toInt_lt, Int32.lt_iff_toInt_lt, h1, h2]
  omega
theorem sub0 {a b : Int32} : a - b = 0 ↔ a = b := by
  constructor
  · intro h
    have e : a - b + b = a := Int32.sub_add_cancel _ _
    rw [h, Int32.zero_add] at e
    exact e.symm
  · intro h
    rw [h, Int32.sub_self]
/-- the greatest difference: the law's way and the class's -/
theorem gr_step {d g : Int32} (hd : -4095 ≤ d.toInt ∧ d.toInt ≤ 4095) (hg : 0 ≤ g.toInt ∧ g.toInt ≤ 4095) : (if d ≤ g then (if -d ≤ g then g else -d) else d) = mxI g (abI d) ∧ 0 ≤ (mxI g (abI d)).toInt ∧ (mxI g (abI d)).toInt ≤ 4095 := by
  have en : (-d).toInt = -d.toInt := by
    rw [Int32.toInt_neg]
    exact Int.bmod_eq_of_le (by omega) (by omega)
  have ez : (0 - d).toInt = -d.toInt := by
    have h := i_sub (a := 0) (b := d) (by rw [Int32.toInt_zero]; omega) (by rw [Int32.toInt_zero]; omega)
    rw [Int32.toInt_zero] at h
    omega
  have eq : (if d ≤ g then (if -d ≤ g then g else -d) else d) = mxI g (abI d) := by
    apply Int32.toInt_inj.mp
    unfold mxI abI
    simp only [Int32.le_iff_toInt_le, Int32.lt_iff_toInt_lt, en, Int32.toInt_zero]
    repeat' split
    all_goals omega
  refine ⟨eq, ?_⟩
  unfold mxI abI
  simp only [Int32.le_iff_toInt_le, Int32.lt_iff_toInt_lt, Int32.toInt_zero]
  repeat' split
  all_goals omega
theorem er_r {s : Nat → Int32} {M B k : Nat} (hB : 2 ≤ B) (hd : CdS s M B) (hv : inV (s (7 + k))) (hk : k < M) : -4095 ≤ (erD s B k).toInt ∧ (erD s B k).toInt ≤ 4095 := by
  have h1 := md_r hB hd (k + 1) k (by omega) hk
  unfold erD
  unfold inV at h1 hv
  rw [i_sub (by omega) (by omega)]
  omega
theorem ho_150 {σ μ : Sg} {M B k : Nat} (hR : Rl σ μ 0) (hm : MS (μ 0) M B) (h1 : μ 0 1 = 1) (hk : k < M) (K : Int32 → Int32 → Int32 → Int32 → Int32 → Int32 → Int32 → Int32 → Int32 → Sg → Option (Int32 × Sg)) (x2 e x5 g a : Int32) (hg : 0 ≤ g.toInt ∧ g.toInt ≤ 4095) : ∃ σ', fL_holds_b150 K (nI M) x2 1 e x5 g a (nI k) (μ 0 (7 + k)) (md (μ 0) B k) 1 σ = K (nI M) x2 1 (e + erD (μ 0) B k * erD (μ 0) B k) x5 (mxI g (abI (erD (μ 0) B k))) (if μ 0 (7 + k) = md (μ 0) B k then a + 1 else a) 1 (nI (k + 1)) σ' ∧ Lk σ μ σ' := by
  obtain ⟨ho, hd⟩ := hR.co hm h1
  have hm' := hm
  obtain ⟨m1, m2, m3, m4, m5, m6, m7, m8, m9, m10⟩ := hm'
  have hk64 : k < 64 := by omega
  obtain ⟨n1, n2⟩ := not_lt_of (md_r m3 hd (k + 1) k (by omega) hk)
  have n10 : ¬ (1 : Int32) = 0 := by decide
  obtain ⟨σ1, e1, l1⟩ := lk_s5 hR hm h1 hk
  obtain ⟨σ2, e2, l2⟩ := lk_s3 l1.1 hm h1 hk
  obtain ⟨e3, _, _⟩ := lk_st l2.1 hm
  obtain ⟨g1, _⟩ := gr_step (er_r m3 hd (m9 k hk) hk) hg
  refine ⟨σ2, ?_, l1.tr l2⟩
  have h280 : ∀ gg, fL_holds_b280 K (nI M) x2 1 (e + erD (μ 0) B k * erD (μ 0) B k) x5 a 1 (nI k) (erD (μ 0) B k) gg σ2 = K (nI M) x2 1 (e + erD (μ 0) B k * erD (μ 0) B k) x5 gg (if μ 0 (7 + k) = md (μ 0) B k then a + 1 else a) 1 (nI (k + 1)) σ2 := by
    intro gg
    unfold fL_holds_b280
    by_cases q : μ 0 (7 + k) = md (μ 0) B k
    · rw [if_pos (show erD (μ 0) B k = 0 from sub0.mpr q), if_pos q, nm_s, nm_s, nI_1]
    · rw [if_neg (show ¬ erD (μ 0) B k = 0 from fun z => q (sub0.mp z)), if_neg q, nm_s, nm_s, nI_1, Int32.add_zero]
  have h240 : fL_holds_b240 K (nI M) x2 1 e x5 g a (nI k) (erD (μ 0) B k) 1 σ2 = K (nI M) x2 1 (e + erD (μ 0) B k * erD (μ 0) B k) x5 (mxI g (abI (erD (μ 0) B k))) (if μ 0 (7 + k) = md (μ 0) B k then a + 1 else a) 1 (nI (k + 1)) σ2 := by
    unfold fL_holds_b240
    rw [nm_s, h280, h280, h280, ← g1]
    split
    · split
      · rfl
      · rfl
    · rfl
  unfold fL_holds_b150
  rw [if_neg n10, nm_s, if_neg n10, if_neg n1, if_neg n2, e1, bo_s, if_pos (show μ 0 (7 + k) - md (μ 0) B k + 10000 = μ 0 (7 + k) - md (μ 0) B k + 10000 from rfl), e2, bo_s]
  have h216 : ∀ k0 : Int32, fL_holds_b216 K (nI M) x2 1 e x5 g a (nI k) (erD (μ 0) B k) k0 σ2 = if nI (k % B) = 0 then fL_holds_b232 K (nI M) x2 1 e x5 g a (nI k) (erD (μ 0) B k) 1 k0 σ2 else fL_holds_b232 K (nI M) x2 1 e x5 g a (nI k) (erD (μ 0) B k) 0 k0 σ2 := by
    intro k0
    unfold fL_holds_b216
    rw [e3, bo_s, gd_of (nI_ne0 (by omega) (by omega)), rem_k hk64 m3 m4]
  have hkB : k % B < B := Nat.mod_lt _ (by omega)
  obtain ⟨c1, c2⟩ := hd.2 k hk
  show (if μ 0 (71 + k) = -1 then fL_holds_b216 K (nI M) x2 1 e x5 g a (nI k) (erD (μ 0) B k) 1 σ2 else fL_holds_b216 K (nI M) x2 1 e x5 g a (nI k) (erD (μ 0) B k) 0 σ2) = _
  rw [h216, h216]
  by_cases q : k % B = 0
  · rw [if_pos (c1 q), if_pos (show nI (k % B) = 0 by rw [q]; rfl)]
    unfold fL_holds_b232
    rw [if_pos rfl]
    exact h240
  · have hc := c2 q
    unfold c16 at hc
    rw [if_neg (show ¬ μ 0 (71 + k) = -1 from fun z => by rw [z] at hc; revert hc; decide), if_neg (nI_ne0 (by omega) (by omega))]
    unfold fL_holds_b232
    rw [if_pos rfl]
    exact h240
theorem ho_92 {μ : Sg} {M B : Nat} (hm : MS (μ 0) M B) (h1 : μ 0 1 = 1) (x2 : Int32) : ∀ n f k e g a (σ : Sg), n < f → k + n = M → (0 ≤ g.toInt ∧ g.toInt ≤ 4095) → Rl σ μ 0 → ∃ σ', fL_holds_L92 f (nI M) x2 1 e 0 g a 1 (nI k) σ = fL_holds_L340 80 (nI M) x2 1 (sumSq (erD (μ 0) B) n e k) 0 (grt (fun i => abI (erD (μ 0) B i)) n g k) (cntE (fun i => μ 0 (7 + i)) (md (μ 0) B) n a k) 1 0 σ' ∧ Lk σ μ σ' := by
  intro n
  induction n with
  | zero =>
    intro f k e g a σ hf hk hg hR
    obtain ⟨f, rfl⟩ := fu1 hf
    have m2 := hm.2.1
    rw [fL_holds_L92, if_pos (nI_le (show M ≤ k by omega) (by omega))]
    exact ⟨σ, rfl, Lk.rf hR⟩
  | succ n ih =>
    intro f k e g a σ hf hk hg hR
    obtain ⟨f, rfl⟩ := fu1 hf
    have m2 := hm.2.1
    have hkM : k < M := by omega
    obtain ⟨_, hd⟩ := hR.co hm h1
    have m3 := hm.2.2.1
    have hv := hm.2.2.2.2.2.2.2.2.1 k hkM
    obtain ⟨n1, n2⟩ := not_lt_of hv
    have e1 := lk_s0 hR hm hkM
    obtain ⟨σ1, e2, l1⟩ := lk_s1 hR hm h1 hkM
    obtain ⟨_, g1⟩ := gr_step (er_r m3 hd hv hkM) hg
    obtain ⟨σ2, e3, l2⟩ := ho_150 l1.1 hm h1 hkM (fun x1 x2 x3 x4 x5 x6 x7 x8 x9 σ => fL_holds_L92 f x1 x2 x3 x4 x5 x6 x7 x8 x9 σ) x2 e 0 g a hg
    obtain ⟨σ3, e4, l3⟩ := ih f (k + 1) (e + erD (μ 0) B k * erD (μ 0) B k) (mxI g (abI (erD (μ 0) B k))) (if μ 0 (7 + k) = md (μ 0) B k then a + 1 else a) σ2 (by omega) (by omega) g1 l2.1
    refine ⟨σ3, ?_, (l1.tr l2).tr l3⟩
    rw [fL_holds_L92, if_neg (nI_ge hkM (by omega)), if_neg (show ¬ (1 : Int32) = 0 by decide), e1, bo_s, nm_s, Int32.add_sub_cancel, e2, bo_s, nm_s, Int32.add_sub_cancel, if_neg n1, if_neg n2, e3]
    exact e4
theorem nd_last {s : Nat → Int32} {M B b : Nat} (hB : 2 ≤ B) (hb : b * B < M) : (eo M B b - 1) / B = b := by
  have he2 : b * B < eo M B b := by unfold eo; omega
  have he3 : eo M B b ≤ b * B + B := Nat.min_le_right _ _
  exact (kq (B := B) (b := b) (k := eo M B b - 1) (by omega) (by omega)).1
theorem ho_340 {μ : Sg} {M B : Nat} (hm : MS (μ 0) M B) (h1 : μ 0 1 = 1) (e g a : Int32) : ∀ n f b (σ : Sg), n < f → b + n = NB M B → Rl σ μ 0 → ∃ σ', fL_holds_L340 f (nI M) (nI (NB M B)) 1 e (sumSq (erD (μ 0) B) (min M (b * B)) 0 0) g a 1 (nI b) σ = fL_holds_b443 (nI M) (nI (NB M B)) 1 e (sumSq (erD (μ 0) B) M 0 0) g a 1 σ' ∧ Lk σ μ σ' := by
  have hm' := hm
  obtain ⟨m1, m2, m3, m4, m5, m6, m7, m8, m9, m10⟩ := hm'
  have hle := nb_le m3 m2
  intro n
  induction n with
  | zero =>
    intro f b σ hf hb hR
    obtain ⟨f, rfl⟩ := fu1 hf
    have hq : ¬ b * B < M := fun q => by
      have := (nb_lt (M := M) (B := B) (b := b) (by omega)).mpr q
      omega
    rw [fL_holds_L340, if_pos (nI_le (show NB M B ≤ b by omega) (by omega)), Nat.min_eq_left (by omega)]
    exact ⟨σ, rfl, Lk.rf hR⟩
  | succ n ih =>
    intro f b σ hf hb hR
    obtain ⟨f, rfl⟩ := fu1 hf
    have hbM := (nb_lt (M := M) (B := B) (b := b) (by omega)).mp (by omega)
    have he1 : eo M B b ≤ M := Nat.min_le_left _ _
    have he2 : b * B < eo M B b := by unfold eo; omega
    have he3 : eo M B b ≤ b * B + B := Nat.min_le_right _ _
    have hb32 := b32 m2 m3 hbM
    have n10 : ¬ (1 : Int32) = 0 := by decide
    obtain ⟨_, hd⟩ := hR.co hm h1
    obtain ⟨σ1, e1, l1⟩ := lk_b4 hR hm h1 hbM
    obtain ⟨e2, _, _⟩ := lk_st l1.1 hm
    have e3 := lk_b0 l1.1 hm h1 hbM
    have e4 := lk_b3 l1.1 hm h1 hbM
    have hlast : nI b * nI B + nI (eo M B b - b * B) - 1 = nI (eo M B b - 1) := by
      rw [pk_mul, nI_add, show b * B + (eo M B b - b * B) = eo M B b by omega]
      exact pk_sub (b := 1) (by omega)
    obtain ⟨σ2, e5, l2⟩ := lk_s4 l1.1 hm h1 (show eo M B b - 1 < M by omega)
    have hnd : nd (μ 0) B (eo M B b - 1) = if μ 0 (263 + b) = 1 then -1 else nI (gn (μ 0) B (eo M B b - 1)).2 := by
      unfold nd
      rw [nd_last (s := μ 0) m3 hbM]
    have hacc : sumSq (erD (μ 0) B) (min M (b * B)) 0 0 + sumSq (erD (μ 0) B) (eo M B b - b * B) 0 (b * B) = sumSq (erD (μ 0) B) (min M ((b + 1) * B)) 0 0 := by
      have hs := sumSq_split (erD (μ 0) B) (eo M B b - b * B) (b * B) 0 0
      rw [Nat.min_eq_right (by omega), ← sumSq_add, Int32.add_zero, show min M ((b + 1) * B) = b * B + (eo M B b - b * B) by rw [Nat.succ_mul]; unfold eo; omega, hs, Nat.zero_add]
    have go : ∀ σ3, Lk σ μ σ3 → ∃ σ', fL_holds_L340 f (nI M) (nI (NB M B)) 1 e (sumSq (erD (μ 0) B) (min M ((b + 1) * B)) 0 0) g a 1 (nI (b + 1)) σ3 = fL_holds_b443 (nI M) (nI (NB M B)) 1 e (sumSq (erD (μ 0) B) M 0 0) g a 1 σ' ∧ Lk σ μ σ' := by
      intro σ3 l3
      obtain ⟨σ', z1, z2⟩ := ih f (b + 1) σ3 (by omega) (by omega) l3.1
      exact ⟨σ', z1, l3.tr z2⟩
    rw [fL_holds_L340, if_neg (nI_ge (show b < NB M B by omega) (by omega)), if_neg n10, e1, bo_s, nm_s, e2, bo_s, e3, bo_s, nm_s, hlast, e4, bo_s, hacc]
    by_cases q : μ 0 (263 + b) = 1
    · rw [if_pos q] at hnd
      rw [if_pos q, e5, bo_s, hnd, if_pos rfl, nm_s, nI_1]
      exact go σ2 (l1.tr l2)
    · rw [if_neg q] at hnd
      obtain ⟨σ3, e6, l3⟩ := lk_b5 l2.1 hm h1 hbM
      rw [if_neg q, e5, bo_s, e6, bo_s, hnd, if_pos rfl, nm_s, nI_1]
      exact go σ3 ((l1.tr l2).tr l3)
theorem nb_M {M B : Nat} (hB : 2 ≤ B) (hM : 1 ≤ M) : NB M B ≤ M := by
  unfold NB
  rw [Nat.div_le_iff_le_mul_add_pred (by omega)]
  have := Nat.mul_le_mul_right M hB
  omega
theorem ho_443 {σ μ : Sg} {M B : Nat} (hR : Rl σ μ 0) (hm : MS (μ 0) M B) (h1 : μ 0 1 = 1) : ∃ σ', fL_holds_b443 (nI M) (nI (NB M B)) 1 (sumSq (erD (μ 0) B) M 0 0) (sumSq (erD (μ 0) B) M 0 0) (grt (fun i => abI (erD (μ 0) B i)) M 0 0) (cntE (fun i => μ 0 (7 + i)) (md (μ 0) B) M 0 0) 1 σ = some (1, σ') ∧ Lk σ μ σ' := by
  have hm' := hm
  obtain ⟨m1, m2, m3, m4, _⟩ := hm'
  have hle := nb_le m3 m2
  have hnM := nb_M (M := M) m3 m1
  have n10 : ¬ (1 : Int32) = 0 := by decide
  obtain ⟨σ1, e1, l1⟩ := lk_ct (w := 4) hR hm h1 (by decide) (by decide)
  obtain ⟨σ2, e2, l2⟩ := lk_ct (w := 5) l1.1 hm h1 (by decide) (by decide)
  obtain ⟨σ3, e3, l3⟩ := lk_ct (w := 6) l2.1 hm h1 (by decide) (by decide)
  obtain ⟨σ4, e4, l4⟩ := lk_ct (w := 7) l3.1 hm h1 (by decide) (by decide)
  obtain ⟨σ5, e5, l5⟩ := lk_ct (w := 8) l4.1 hm h1 (by decide) (by decide)
  obtain ⟨σ6, e6, l6⟩ := lk_ms l5.1 hm h1
  have e1' : fX6_count 4 σ = some (.inl (sumSq (erD (μ 0) B) M 0 0), σ1) := e1
  have e2' : fX6_count 5 σ1 = some (.inl (sumSq (erD (μ 0) B) M 0 0), σ2) := e2
  have e3' : fX6_count 6 σ2 = some (.inl (grt (fun i => abI (erD (μ 0) B i)) M 0 0), σ3) := e3
  have e4' : fX6_count 7 σ3 = some (.inl (cntE (fun i => μ 0 (7 + i)) (md (μ 0) B) M 0 0), σ4) := e4
  have e5' : fX6_count 8 σ4 = some (.inl (18 * nI (NB M B) + 4 * (nI M - nI (NB M B))), σ5) := e5
  have hbits : 18 * nI (NB M B) + 4 * (nI M - nI (NB M B)) = 14 * nI (NB M B) + 4 * nI M := by
    rw [pk_sub hnM, show (18 : Int32) * nI (NB M B) = nI (18 * NB M B) from pk_mul 18 _, show (4 : Int32) * nI (M - NB M B) = nI (4 * (M - NB M B)) from pk_mul 4 _, show (14 : Int32) * nI (NB M B) = nI (14 * NB M B) from pk_mul 14 _, show (4 : Int32) * nI M = nI (4 * M) from pk_mul 4 _, nI_add, nI_add]
    exact congrArg nI (by omega)
  refine ⟨σ6, ?_, ((((l1.tr l2).tr l3).tr l4).tr l5).tr l6⟩
  unfold fL_holds_b443 fL_holds_b502 fL_holds_b531
  rw [if_neg n10, e1', bo_s, if_pos rfl, e2', bo_s, if_pos rfl, if_pos rfl, e3', bo_s, if_pos rfl, e4', bo_s, if_pos rfl, if_neg n10, e5', bo_s, if_neg n10, if_pos hbits, e6, bd2_s, if_neg n10, gd_of (dv_nn _ _ (nI_ne0 (by omega) (by omega))), if_pos (dv_cmp _ _ (nI_ne0 (by omega) (by omega)))]
theorem ho_N {μ : Sg} {M B : Nat} (hm : MS (μ 0) M B) (h1 : μ 0 1 = 0) : ∀ n f k (σ : Sg), n < f → k + n = M → Rl σ μ 0 → fL_holds_L92 f (nI M) 0 0 0 0 0 0 1 (nI k) σ = fL_holds_L340 80 (nI M) 0 0 0 0 0 0 1 0 σ := by
  intro n
  induction n with
  | zero =>
    intro f k σ hf hk hR
    obtain ⟨f, rfl⟩ := fu1 hf
    have m2 := hm.2.1
    rw [fL_holds_L92, if_pos (nI_le (show M ≤ k by omega) (by omega))]
  | succ n ih =>
    intro f k σ hf hk hR
    obtain ⟨f, rfl⟩ := fu1 hf
    have m2 := hm.2.1
    have hkM : k < M := by omega
    have hv := hm.2.2.2.2.2.2.2.2.1 k hkM
    obtain ⟨n1, n2⟩ := not_lt_of hv
    have n10 : ¬ (1 : Int32) = 0 := by decide
    have e1 := lk_s0 hR hm hkM
    have e2 : fX6_sampleOf (nI k) 1 σ = some (.inl (-1), σ) := lk_sN hR hm h1 hkM 1 (by decide) (by decide)
    have e3 : fX6_sampleOf (nI k) 4 σ = some (.inl (-1), σ) := lk_sN hR hm h1 hkM 4 (by decide) (by decide)
    have hz : (-1 : Int32) - 10000 = -10001 := by decide
    rw [fL_holds_L92, if_neg (nI_ge hkM (by omega)), if_neg n10, e1, bo_s, nm_s, Int32.add_sub_cancel, e2, bo_s, nm_s, hz, if_neg n1, if_neg n2]
    unfold fL_holds_b150
    rw [if_pos rfl, if_neg n10, if_pos rfl, e3, bo_s, if_pos rfl, nm_s, nI_1]
    exact ih f (k + 1) σ (by omega) (by omega) hR
/-- the law's look at all that is told -/
theorem holds_ok {σ μ : Sg} (hR : Rl σ μ 0) : ∃ σ', fL_holds σ = some (1, σ') ∧ Lk σ μ σ' := by
  obtain ⟨M, B, hm⟩ := hR.ms
  have hm' := hm
  obtain ⟨m1, m2, m3, m4, m5, m6, m7, m8, m9, m10⟩ := hm'
  have ha := hR.ba hm
  have e0 := x_c0 σ
  rw [show σ 10 0 = nI M from ha.1] at e0
  have e2 := x_c2 σ
  have e1 := x_c1 (μ := μ) hR.1
  have n10 : ¬ (1 : Int32) = 0 := by decide
  rcases hR.cd with h1 | h1
  · rw [if_neg (show ¬ μ 0 1 = 1 by rw [h1]; decide)] at e1
    rw [hR.unc h1] at e2
    obtain ⟨F, hF⟩ : ∃ F, F + 1 = 80 := ⟨79, rfl⟩
    refine ⟨σ, ?_, Lk.rf hR⟩
    unfold fL_holds fL_holds_b26
    rw [e0, bo_s, e2, bo_s, e1, bo_s, if_neg (show ¬ (0 : Int32) = 1 by decide), if_pos rfl, if_pos rfl, lk_c3N hR h1, bo_s, if_pos rfl]
    rw [show fL_holds_L92 80 (nI M) 0 0 0 0 0 0 1 0 σ = fL_holds_L92 80 (nI M) 0 0 0 0 0 0 1 (nI 0) σ from rfl, ho_N hm h1 M 80 0 σ (by omega) (by omega) hR, ← hF, fL_holds_L340, if_pos (show (0 : Int32) ≤ 0 by decide)]
    have k4 : fX6_count 4 σ = some (.inl 0, σ) := lk_cN (w := 4) hR h1 (by decide) (by decide)
    have k5 : fX6_count 5 σ = some (.inl 0, σ) := lk_cN (w := 5) hR h1 (by decide) (by decide)
    have k6 : fX6_count 6 σ = some (.inl 0, σ) := lk_cN (w := 6) hR h1 (by decide) (by decide)
    have k7 : fX6_count 7 σ = some (.inl 0, σ) := lk_cN (w := 7) hR h1 (by decide) (by decide)
    have k8 : fX6_count 8 σ = some (.inl 0, σ) := lk_cN (w := 8) hR h1 (by decide) (by decide)
    unfold fL_holds_b443 fL_holds_b502 fL_holds_b531
    rw [if_neg n10, k4, bo_s, if_pos rfl, k5, bo_s, if_pos rfl, if_pos rfl, k6, bo_s, if_pos rfl, k7, bo_s, if_pos rfl, if_neg n10, k8, bo_s, if_pos rfl, if_pos rfl, lk_msN hR h1, bd2_s, if_pos rfl, if_pos d0_cmp]
  · rw [if_pos h1] at e1
    obtain ⟨ho, hd⟩ := hR.co hm h1
    rw [show σ 10 3 = nI (NB M B) from ho.1] at e2
    obtain ⟨s0, _, _⟩ := lk_st hR hm
    have hle := nb_le m3 m2
    obtain ⟨σ1, a1, l1⟩ := ho_92 hm h1 (nI (NB M B)) M 80 0 0 0 0 σ (by omega) (by omega) (by decide) hR
    obtain ⟨σ2, a2, l2⟩ := ho_340 hm h1 (sumSq (erD (μ 0) B) M 0 0) (grt (fun i => abI (erD (μ 0) B i)) M 0 0) (cntE (fun i => μ 0 (7 + i)) (md (μ 0) B) M 0 0) (NB M B) 80 0 σ1 (by omega) (by omega) l1.1
    obtain ⟨σ3, a3, l3⟩ := ho_443 l2.1 hm h1
    refine ⟨σ3, ?_, (l1.tr l2).tr l3⟩
    have hnb : (nI M + nI B - 1) / nI B = nI (NB M B) := by
      rw [nI_add, show nI (M + B) - 1 = nI (M + B - 1) from pk_sub (b := 1) (by omega), pk_div (by omega) (by omega) (by omega)]
      rfl
    unfold fL_holds fL_holds_b26
    rw [e0, bo_s, e2, bo_s, e1, bo_s, if_pos rfl, if_neg n10, s0, bo_s, s0, bo_s, gd_of (nI_ne0 (by omega) (by omega)), if_pos hnb.symm]
    rw [show fL_holds_L92 80 (nI M) (nI (NB M B)) 1 0 0 0 0 1 0 σ = fL_holds_L92 80 (nI M) (nI (NB M B)) 1 0 0 0 0 1 (nI 0) σ from by rw [← n0], a1]
    have hz : min M (0 * B) = 0 := by rw [Nat.zero_mul]; omega
    rw [hz] at a2
    rw [show fL_holds_L340 80 (nI M) (nI (NB M B)) 1 (sumSq (erD (μ 0) B) M 0 0) 0 (grt (fun i => abI (erD (μ 0) B i)) M 0 0) (cntE (fun i => μ 0 (7 + i)) (md (μ 0) B) M 0 0) 1 0 σ1 = fL_holds_L340 80 (nI M) (nI (NB M B)) 1 (sumSq (erD (μ 0) B) M 0 0) (sumSq (erD (μ 0) B) 0 0 0) (grt (fun i => abI (erD (μ 0) B i)) M 0 0) (cntE (fun i => μ 0 (7 + i)) (md (μ 0) B) M 0 0) 1 (nI 0) σ1 from by rw [← n0]; rfl, a2]
    exact a3
