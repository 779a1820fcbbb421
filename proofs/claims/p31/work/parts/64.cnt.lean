/-! PURE: sums and counts -/
def sumSq (f : Nat → Int32) : Nat → Int32 → Nat → Int32
  | 0, acc, _ => acc
  | n + 1, acc, k => sumSq f n (acc + f k * f k) (k + 1)
theorem sumSq_congr {f g : Nat → Int32} : ∀ n acc k, (∀ i, k ≤ i → i < k + n → f i = g i) → sumSq f n acc k = sumSq g n acc k := by
  intro n
  induction n with
  | zero => intro acc k h; rfl
  | succ n ih =>
    intro acc k h
    rw [sumSq, sumSq, h k (Nat.le_refl k) (by omega)]
    exact ih _ _ (fun i h1 h2 => h i (by omega) (by omega))
theorem sumSq_split (f : Nat → Int32) (m : Nat) : ∀ n acc k, sumSq f (n + m) acc k = sumSq f m (sumSq f n acc k) (k + n) := by
  intro n
  induction n with
  | zero => intro acc k; rw [Nat.zero_add, Nat.add_zero]; rfl
  | succ n ih =>
    intro acc k
    rw [show n + 1 + m = (n + m) + 1 by omega, sumSq, ih, sumSq, show k + 1 + n = k + (n + 1) by omega]
theorem sumSq_add (f : Nat → Int32) : ∀ n a b k, sumSq f n (a + b) k = a + sumSq f n b k := by
  intro n
  induction n with
  | zero => intro a b k; rfl
  | succ n ih =>
    intro a b k
    rw [sumSq, sumSq, Int32.add_assoc]
    exact ih _ _ _
theorem x_eofL {σ : Sg} {i0 e : Nat} (he : e ≤ 64) : ∀ n f k acc, n < f → k + n = e → fX2_errorOf_L6 i0 0 (nI e) f acc (nI k) σ = some (sumSq (fun k => σ 11 k - σ (86 + 3 * i0 + 1) k) n acc k) := by
  intro n
  induction n with
  | zero =>
    intro f k acc hf hk
    obtain ⟨f, rfl⟩ := fu1 hf
    rw [fX2_errorOf_L6, if_pos (nI_le (show e ≤ k by omega) (by omega))]
    rfl
  | succ n ih =>
    intro f k acc hf hk
    obtain ⟨f, rfl⟩ := fu1 hf
    rw [fX2_errorOf_L6, if_neg (nI_ge (show k < e by omega) (by omega)), gi (show k < 64 by omega) (by decide), gi (show k < 64 by omega) (by decide), nI_clamp (show k < 2 ^ 31 by omega)]
    simp only [nm_s, nI_1, Nat.mul_zero, Nat.add_zero, Nat.reduceAdd]
    exact ih f (k + 1) _ (by omega) (by omega)
theorem x_eof {σ : Sg} {i0 a e : Nat} (he : e ≤ 64) (ha : a ≤ e) : fX2_errorOf i0 0 (nI a) (nI e) σ = some (sumSq (fun k => σ 11 k - σ (86 + 3 * i0 + 1) k) (e - a) 0 a) :=
  x_eofL he (e - a) 80 a 0 (by omega) (by omega)
theorem m_emL {μ : Sg} {e : Nat} (he : e ≤ 64) : ∀ n f k acc, n < f → k + n = e → fX7_errorMade_L5 (nI e) f acc (nI k) μ = some (sumSq (fun k => μ 0 (7 + k) - μ 6 k) n acc k) := by
  intro n
  induction n with
  | zero =>
    intro f k acc hf hk
    obtain ⟨f, rfl⟩ := fu1 hf
    rw [fX7_errorMade_L5, if_pos (nI_le (show e ≤ k by omega) (by omega))]
    rfl
  | succ n ih =>
    intro f k acc hf hk
    obtain ⟨f, rfl⟩ := fu1 hf
    rw [fX7_errorMade_L5, if_neg (nI_ge (show k < e by omega) (by omega)), o7, gi (show 7 + k < 295 by omega) (by decide), gi (show k < 64 by omega) (by decide), nI_clamp (show k < 2 ^ 31 by omega), nI_clamp (show 7 + k < 2 ^ 31 by omega)]
    simp only [fX7_square, bd_s, nm_s, nI_1]
    exact ih f (k + 1) _ (by omega) (by omega)
theorem m_em {μ : Sg} {a e : Nat} (he : e ≤ 64) (ha : a ≤ e) : fX7_errorMade (nI a) (nI e) μ = some (sumSq (fun k => μ 0 (7 + k) - μ 6 k) (e - a) 0 a) :=
  m_emL he (e - a) 80 a 0 (by omega) (by omega)
/-- the error that is told -/
def erD (s : Nat → Int32) (B : Nat) (k : Nat) : Int32 := s (7 + k) - md s B k
theorem x_ebbL {σ : Sg} {s : Nat → Int32} {M B : Nat} (hM1 : M ≤ 64) (hB : 2 ≤ B) (hB2 : B ≤ 16) (ha : Ba σ 10 s M B) (h3 : σ 10 3 = nI (NB M B)) : ∀ n f b acc, n < f → b + n = NB M B → fX6_errorByBlocks_L4 f acc (nI b) σ = some (sumSq (fun k => σ 11 k - σ 87 k) (M - b * B) acc (b * B)) := by
  have hle := nb_le hB hM1
  intro n
  induction n with
  | zero =>
    intro f b acc hf hb
    obtain ⟨f, rfl⟩ := fu1 hf
    have hq : ¬ b * B < M := fun q => by
      have := (nb_lt (M := M) (B := B) (b := b) (by omega)).mpr q
      omega
    rw [fX6_errorByBlocks_L4]
    simp only [Nat.mul_zero, Nat.add_zero]
    rw [h3, if_pos (nI_le (show NB M B ≤ b by omega) (by omega)), show M - b * B = 0 by omega]
    rfl
  | succ n ih =>
    intro f b acc hf hb
    obtain ⟨f, rfl⟩ := fu1 hf
    have hbM := (nb_lt (M := M) (B := B) (b := b) (by omega)).mp (by omega)
    rw [fX6_errorByBlocks_L4]
    simp only [Nat.mul_zero, Nat.add_zero]
    rw [h3, if_neg (nI_ge (show b < NB M B by omega) (by omega)), x_so ha.2.1, x_eo hM1 hB2 ha.1 ha.2.1 hbM]
    simp only [bd_s]
    have he : eo M B b ≤ M := Nat.min_le_left _ _
    rw [x_eof (i0 := 0) (show eo M B b ≤ 64 by omega) (show b * B ≤ eo M B b by unfold eo; omega)]
    simp only [bd_s, nm_s, nI_1, Nat.mul_zero, Nat.add_zero, Nat.reduceAdd]
    rw [ih f (b + 1) _ (by omega) (by omega), Nat.succ_mul, ← sumSq_add, Int32.add_zero]
    congr 1
    rcases Nat.lt_or_ge (b * B + B) M with q | q
    · rw [show eo M B b - b * B = B by unfold eo; omega, ← sumSq_split, show B + (M - (b * B + B)) = M - b * B by omega]
    · rw [show eo M B b - b * B = M - b * B by unfold eo; omega, show M - (b * B + B) = 0 by omega]
      rfl
def grt (d : Nat → Int32) : Nat → Int32 → Nat → Int32
  | 0, acc, _ => acc
  | n + 1, acc, k => grt d n (mxI acc (d k)) (k + 1)
theorem grt_congr {f g : Nat → Int32} : ∀ n acc k, (∀ i, k ≤ i → i < k + n → f i = g i) → grt f n acc k = grt g n acc k := by
  intro n
  induction n with
  | zero => intro acc k h; rfl
  | succ n ih =>
    intro acc k h
    rw [grt, grt, h k (Nat.le_refl k) (by omega)]
    exact ih _ _ (fun i h1 h2 => h i (by omega) (by omega))
theorem x_grL {σ : Sg} {M : Nat} (hM1 : M ≤ 64) (hM : σ 10 0 = nI M) : ∀ n f k acc, n < f → k + n = M → fX2_greatestDifference_L4 0 0 f acc (nI k) σ = some (grt (fun k => abI (σ 11 k - σ 87 k)) n acc k) := by
  intro n
  induction n with
  | zero =>
    intro f k acc hf hk
    obtain ⟨f, rfl⟩ := fu1 hf
    rw [fX2_greatestDifference_L4]
    simp only [Nat.mul_zero, Nat.add_zero]
    rw [hM, if_pos (nI_le (show M ≤ k by omega) (by omega))]
    rfl
  | succ n ih =>
    intro f k acc hf hk
    obtain ⟨f, rfl⟩ := fu1 hf
    rw [fX2_greatestDifference_L4]
    simp only [Nat.mul_zero, Nat.add_zero]
    rw [hM, if_neg (nI_ge (show k < M by omega) (by omega)), gi (show k < 64 by omega) (by decide), gi (show k < 64 by omega) (by decide), nI_clamp (show k < 2 ^ 31 by omega)]
    simp only [nm_s, nI_1, Nat.reduceAdd]
    exact ih f (k + 1) _ (by omega) (by omega)
theorem mx_le (x y : Int32) : (if y ≤ x then x else y) = mxI x y := by
  unfold mxI
  apply Int32.toInt_inj.mp
  simp only [Int32.lt_iff_toInt_lt, Int32.le_iff_toInt_le]
  repeat' split
  all_goals omega
theorem m_grL {μ : Sg} {M : Nat} (hM1 : M ≤ 64) (hM : μ 0 0 = nI M) (hv : ∀ k, k < M → inV (μ 0 (7 + k)) ∧ inV (μ 6 k)) : ∀ n f k acc, n < f → k + n = M → fX7_greatest_L4 f acc (nI k) μ = some (grt (fun k => abI (μ 0 (7 + k) - μ 6 k)) n acc k) := by
  intro n
  induction n with
  | zero =>
    intro f k acc hf hk
    obtain ⟨f, rfl⟩ := fu1 hf
    rw [fX7_greatest_L4, hM, if_pos (nI_le (show M ≤ k by omega) (by omega))]
    rfl
  | succ n ih =>
    intro f k acc hf hk
    obtain ⟨f, rfl⟩ := fu1 hf
    rw [fX7_greatest_L4, hM, if_neg (nI_ge (show k < M by omega) (by omega)), o7]
    simp only [gj (show 7 + k < 295 by omega) (by decide), gj (show k < 64 by omega) (by decide), nI_clamp (show k < 2 ^ 31 by omega), nI_clamp (show 7 + k < 2 ^ 31 by omega)]
    rw [grt, ab_eq (hv k (by omega)).2 (hv k (by omega)).1]
    have hb : ∀ z, fX7_greatest_b67 (fun x1 x2 μ => fX7_greatest_L4 f x1 x2 μ) acc (nI k) z μ = some (grt (fun k => abI (μ 0 (7 + k) - μ 6 k)) n (mxI acc z) (k + 1)) := by
      intro z
      unfold fX7_greatest_b67
      simp only [nm_s, nI_1]
      rw [← mx_le]
      split
      · exact ih f (k + 1) _ (by omega) (by omega)
      · exact ih f (k + 1) _ (by omega) (by omega)
    rw [hb, hb]
    split <;> rfl
def cntE (f g : Nat → Int32) : Nat → Int32 → Nat → Int32
  | 0, acc, _ => acc
  | n + 1, acc, k => cntE f g n (if f k = g k then acc + 1 else acc) (k + 1)
def cntN (f g : Nat → Int32) : Nat → Int32 → Nat → Int32
  | 0, acc, _ => acc
  | n + 1, acc, k => cntN f g n (if f k = g k then acc else acc + 1) (k + 1)
theorem cntE_congr {f g f' g' : Nat → Int32} : ∀ n acc k, (∀ i, k ≤ i → i < k + n → f i = f' i ∧ g i = g' i) → cntE f g n acc k = cntE f' g' n acc k := by
  intro n
  induction n with
  | zero => intro acc k h; rfl
  | succ n ih =>
    intro acc k h
    rw [cntE, cntE, (h k (Nat.le_refl k) (by omega)).1, (h k (Nat.le_refl k) (by omega)).2]
    exact ih _ _ (fun i h1 h2 => h i (by omega) (by omega))
theorem cntN_congr {f g f' g' : Nat → Int32} : ∀ n acc k, (∀ i, k ≤ i → i < k + n → f i = f' i ∧ g i = g' i) → cntN f g n acc k = cntN f' g' n acc k := by
  intro n
  induction n with
  | zero => intro acc k h; rfl
  | succ n ih =>
    intro acc k h
    rw [cntN, cntN, (h k (Nat.le_refl k) (by omega)).1, (h k (Nat.le_refl k) (by omega)).2]
    exact ih _ _ (fun i h1 h2 => h i (by omega) (by omega))
theorem cnt_EN (f g : Nat → Int32) : ∀ n a b k, cntN f g n a k + cntE f g n b k = a + b + nI n := by
  intro n
  induction n with
  | zero => intro a b k; rw [cntN, cntE, show nI 0 = 0 from rfl, Int32.add_zero]
  | succ n ih =>
    intro a b k
    rw [cntN, cntE, ih, nI_succ]
    split
    · ac_rfl
    · ac_rfl
theorem cnt_sub (f g : Nat → Int32) (n k : Nat) : nI n - cntE f g n 0 k = cntN f g n 0 k := by
  have h := cnt_EN f g n 0 0 k
  rw [Int32.zero_add, Int32.zero_add] at h
  rw [← h, Int32.add_sub_cancel]
theorem x_jaL {σ : Sg} {M : Nat} (hM1 : M ≤ 64) (hM : σ 10 0 = nI M) : ∀ n f k acc, n < f → k + n = M → fX2_justAsTheyAre_L4 0 0 f acc (nI k) σ = some (cntE (σ 11) (σ 87) n acc k) := by
  intro n
  induction n with
  | zero =>
    intro f k acc hf hk
    obtain ⟨f, rfl⟩ := fu1 hf
    rw [fX2_justAsTheyAre_L4]
    simp only [Nat.mul_zero, Nat.add_zero]
    rw [hM, if_pos (nI_le (show M ≤ k by omega) (by omega))]
    rfl
  | succ n ih =>
    intro f k acc hf hk
    obtain ⟨f, rfl⟩ := fu1 hf
    rw [fX2_justAsTheyAre_L4]
    simp only [Nat.mul_zero, Nat.add_zero]
    rw [hM, if_neg (nI_ge (show k < M by omega) (by omega)), gi (show k < 64 by omega) (by decide), gi (show k < 64 by omega) (by decide), nI_clamp (show k < 2 ^ 31 by omega)]
    simp only [nm_s, nI_1, Nat.reduceAdd]
    rw [cntE]
    split
    · exact ih f (k + 1) _ (by omega) (by omega)
    · exact ih f (k + 1) _ (by omega) (by omega)
theorem m_alL {μ : Sg} {M : Nat} (hM1 : M ≤ 64) (hM : μ 0 0 = nI M) : ∀ n f k acc, n < f → k + n = M → fX7_alike_L4 f acc (nI k) μ = some (cntE (fun k => μ 0 (7 + k)) (μ 6) n acc k) := by
  intro n
  induction n with
  | zero =>
    intro f k acc hf hk
    obtain ⟨f, rfl⟩ := fu1 hf
    rw [fX7_alike_L4, hM, if_pos (nI_le (show M ≤ k by omega) (by omega))]
    rfl
  | succ n ih =>
    intro f k acc hf hk
    obtain ⟨f, rfl⟩ := fu1 hf
    rw [fX7_alike_L4, hM, if_neg (nI_ge (show k < M by omega) (by omega)), o7]
    simp only [gj (show 7 + k < 295 by omega) (by decide), gj (show k < 64 by omega) (by decide), nI_clamp (show k < 2 ^ 31 by omega), nI_clamp (show 7 + k < 2 ^ 31 by omega), nm_s, nI_1, Int32.add_zero]
    rw [cntE]
    split
    · exact ih f (k + 1) _ (by omega) (by omega)
    · exact ih f (k + 1) _ (by omega) (by omega)
theorem x_otL {σ : Sg} {M : Nat} (hM1 : M ≤ 64) : ∀ n f k acc, n < f → k + n = M → fX2_othersThan_L5 1 0 (nI M) f acc (nI k) σ = some (cntN (σ 90) (σ 87) n acc k) := by
  intro n
  induction n with
  | zero =>
    intro f k acc hf hk
    obtain ⟨f, rfl⟩ := fu1 hf
    rw [fX2_othersThan_L5, if_pos (nI_le (show M ≤ k by omega) (by omega))]
    rfl
  | succ n ih =>
    intro f k acc hf hk
    obtain ⟨f, rfl⟩ := fu1 hf
    rw [fX2_othersThan_L5]
    simp only [Nat.mul_zero, Nat.add_zero, Nat.mul_one, Nat.reduceAdd]
    rw [if_neg (nI_ge (show k < M by omega) (by omega)), gi (show k < 64 by omega) (by decide), gi (show k < 64 by omega) (by decide), nI_clamp (show k < 2 ^ 31 by omega)]
    simp only [nm_s, nI_1]
    rw [cntN]
    split
    · exact ih f (k + 1) _ (by omega) (by omega)
    · exact ih f (k + 1) _ (by omega) (by omega)
theorem m_otL {μ : Sg} {M : Nat} (hM1 : M ≤ 64) (hM : μ 0 0 = nI M) : ∀ n f k acc, n < f → k + n = M → fX7_others_L8 f acc (nI k) μ = some (cntN (μ 6) (μ 9) n acc k, μ) := by
  intro n
  induction n with
  | zero =>
    intro f k acc hf hk
    obtain ⟨f, rfl⟩ := fu1 hf
    rw [fX7_others_L8, hM, if_pos (nI_le (show M ≤ k by omega) (by omega))]
    rfl
  | succ n ih =>
    intro f k acc hf hk
    obtain ⟨f, rfl⟩ := fu1 hf
    rw [fX7_others_L8, hM, if_neg (nI_ge (show k < M by omega) (by omega))]
    simp only [gj (show k < 64 by omega) (by decide), nI_clamp (show k < 2 ^ 31 by omega), nm_s, nI_1, Int32.add_zero]
    rw [cntN]
    split
    · exact ih f (k + 1) _ (by omega) (by omega)
    · exact ih f (k + 1) _ (by omega) (by omega)
def lsS (s : Nat → Int32) : Nat → Int32 → Nat → Int32
  | 0, acc, _ => acc
  | n + 1, acc, b => lsS s n (acc + s (263 + b)) (b + 1)
theorem x_loL {σ : Sg} {s : Nat → Int32} {N : Nat} (hN : N ≤ 32) (h3 : σ 10 3 = nI N) (h5 : ∀ b, b < N → σ 15 b = s (263 + b) ∧ (s (263 + b) = 0 ∨ s (263 + b) = 1)) : ∀ n f b acc, n < f → b + n = N → fX4_lostBlocks_L4 0 f acc (nI b) σ = some (lsS s n acc b) := by
  intro n
  induction n with
  | zero =>
    intro f b acc hf hk
    obtain ⟨f, rfl⟩ := fu1 hf
    rw [fX4_lostBlocks_L4]
    simp only [Nat.mul_zero, Nat.add_zero]
    rw [h3, if_pos (nI_le (show N ≤ b by omega) (by omega))]
    rfl
  | succ n ih =>
    intro f b acc hf hk
    obtain ⟨f, rfl⟩ := fu1 hf
    obtain ⟨e1, e2⟩ := h5 b (by omega)
    rw [fX4_lostBlocks_L4]
    simp only [Nat.mul_zero, Nat.add_zero, Nat.reduceAdd]
    rw [h3, if_neg (nI_ge (show b < N by omega) (by omega)), gi (show b < 32 by omega) (by decide), nI_clamp (show b < 2 ^ 31 by omega), e1]
    simp only [nm_s, nI_1]
    rw [lsS]
    rcases e2 with e | e
    · rw [e, if_pos rfl, Int32.add_zero]
      exact ih f (b + 1) _ (by omega) (by omega)
    · rw [e, if_neg (by decide)]
      exact ih f (b + 1) _ (by omega) (by omega)
theorem m_isC (μ : Sg) : fX7_isCoded μ = some (if μ 0 1 = 1 then 1 else 0) := by
  unfold fX7_isCoded
  split <;> rfl
theorem m_blk1 {μ : Sg} {M B : Nat} (h1 : μ 0 1 = 1) (hM1 : M ≤ 64) (hB : 2 ≤ B) (hB2 : B ≤ 16) (hM : μ 0 0 = nI M) (h2 : μ 0 2 = nI B) : fX7_blocks μ = some (nI (NB M B)) := by
  unfold fX7_blocks
  rw [m_isC, if_pos h1]
  simp only [bd_s]
  rw [if_neg (show ¬ (1 : Int32) = 0 by decide), h2, hM, gd_of (nI_ne0 (by omega) (by omega)), nI_add, n1, pk_sub (by omega), pk_div (by omega) (by omega) (by omega)]
  rfl
theorem m_blk0 {μ : Sg} (h1 : μ 0 1 = 0) : fX7_blocks μ = some 0 := by
  unfold fX7_blocks
  rw [m_isC, h1, if_neg (show ¬ (0 : Int32) = 1 by decide), bd_s, if_pos rfl]
theorem m_loL {μ : Sg} {N : Nat} (hN : N ≤ 32) (hb : fX7_blocks μ = some (nI N)) : ∀ n f b acc, n < f → b + n = N → fX7_lost_L4 f acc (nI b) μ = some (lsS (μ 0) n acc b) := by
  intro n
  induction n with
  | zero =>
    intro f b acc hf hk
    obtain ⟨f, rfl⟩ := fu1 hf
    rw [fX7_lost_L4, hb]
    simp only [bd_s]
    rw [if_pos (nI_le (show N ≤ b by omega) (by omega))]
    rfl
  | succ n ih =>
    intro f b acc hf hk
    obtain ⟨f, rfl⟩ := fu1 hf
    rw [fX7_lost_L4, hb]
    simp only [bd_s]
    rw [if_neg (nI_ge (show b < N by omega) (by omega)), o263, gi (show 263 + b < 295 by omega) (by decide), nI_clamp (show 263 + b < 2 ^ 31 by omega)]
    simp only [nm_s, nI_1]
    exact ih f (b + 1) _ (by omega) (by omega)
theorem x_ldL {s : Nat → Int32} {M B b : Nat} (hM1 : M ≤ 64) (hB : 2 ≤ B) (hB2 : B ≤ 16) (hb : b * B < M) (hc : CdS s M B) : ∀ n f k (σ : Sg), n < f → k + n = eo M B b → b * B < k → σ 10 0 = nI M → σ 12 0 = nI B → (∀ i, i < M → σ 16 i = s (71 + i)) → σ 85 0 = (gn s B (k - 1)).1 → σ 85 1 = nI (gn s B (k - 1)).2 → ∃ σ', fX6_leadOf_L36 (nI b) f (nI k) σ = some (nI (gn s B (eo M B b - 1)).2, σ') ∧ ∀ q, q ≠ 85 → σ' q = σ q := by
  intro n
  induction n with
  | zero =>
    intro f k σ hf hk hbk hM h2 h16 w1 w2
    obtain ⟨f, rfl⟩ := fu1 hf
    rw [fX6_leadOf_L36, x_eo hM1 hB2 hM h2 hb]
    simp only [bd_s]
    have : eo M B b ≤ M := Nat.min_le_left _ _
    rw [if_pos (nI_le (show eo M B b ≤ k by omega) (by omega))]
    refine ⟨σ, ?_, fun _ _ => rfl⟩
    simp only [Nat.reduceAdd]
    rw [w2, show k = eo M B b by omega]
  | succ n ih =>
    intro f k σ hf hk hbk hM h2 h16 w1 w2
    obtain ⟨f, rfl⟩ := fu1 hf
    have he1 : eo M B b ≤ M := Nat.min_le_left _ _
    have he2 : eo M B b ≤ b * B + B := Nat.min_le_right _ _
    obtain ⟨k', rfl⟩ : ∃ k', k = k' + 1 := ⟨k - 1, by omega⟩
    rw [Nat.add_sub_cancel] at w1 w2
    have hj := (gn_r hc k' (by omega)).2
    have hq := kq (B := B) (b := b) (k := k' + 1) (by omega) (by omega)
    have hg := gn_next s (B := B) (k := k') (by rw [hq.2]; omega)
    rw [fX6_leadOf_L36, x_eo hM1 hB2 hM h2 hb]
    simp only [bd_s]
    rw [if_neg (nI_ge (show k' + 1 < eo M B b by omega) (by omega)), gi (show k' + 1 < 64 by omega) (by decide), nI_clamp (show k' + 1 < 2 ^ 31 by omega)]
    simp only [Nat.mul_zero, Nat.add_zero, Nat.reduceAdd]
    rw [x_follow 3 _ _ σ hj w2, h16 (k' + 1) (by omega)]
    simp only [bd_s, nm_s, nI_1, Nat.reduceAdd]
    rw [w1]
    obtain ⟨σ', d1, d2⟩ := ih f (k' + 1 + 1) (wk σ 3 (nxg (gn s B k').1 (gn s B k').2 (s (71 + (k' + 1)))) (nxn (gn s B k').2 (s (71 + (k' + 1))))) (by omega) (by omega) (by omega) (by rw [wk_ne (by decide)]; exact hM) (by rw [wk_ne (by decide)]; exact h2) (fun i hi => by rw [wk_ne (by decide)]; exact h16 i hi) (by rw [Nat.add_sub_cancel, hg]; exact wk_0 σ 3 _ _) (by rw [Nat.add_sub_cancel, hg]; exact wk_1 σ 3 _ _)
    exact ⟨σ', d1, fun q hq => by rw [d2 q hq, wk_ne (by omega)]⟩
theorem x_lead {σ : Sg} {s : Nat → Int32} {M B b : Nat} (hM1 : M ≤ 64) (hB : 2 ≤ B) (hB2 : B ≤ 16) (hb : b * B < M) (hc : CdS s M B) (ha : Ba σ 10 s M B) (ho : Co σ 10 s M B) : ∃ σ', fX6_leadOf (nI b) σ = some (nI (gn s B (eo M B b - 1)).2, σ') ∧ ∀ q, q ≠ 85 → σ' q = σ q := by
  obtain ⟨a1, a2, a3, a4, a5⟩ := ha
  obtain ⟨b1, b2, b3⟩ := ho
  obtain ⟨c1, c2, c3⟩ := b2 b hb
  obtain ⟨_, ⟨j, hj, ej⟩, _⟩ := hc.1 b hb
  have hb32 : b < 32 := by
    have := (nb_lt (M := M) (B := B) (b := b) (by omega)).mpr hb
    have := nb_le hB hM1
    omega
  have hq := kq (B := B) (b := b) (k := b * B) (Nat.le_refl _) (by omega)
  have hg := gn_first s (B := B) (k := b * B) (by rw [hq.2, Nat.sub_self])
  rw [hq.1] at hg
  have c1' : σ 13 b = s (199 + b) := c1
  have c2' : σ 14 b = nI j := c2.trans ej
  unfold fX6_leadOf
  rw [gi hb32 (by decide), gi hb32 (by decide), nI_clamp (show b < 2 ^ 31 by omega)]
  simp only [Nat.mul_zero, Nat.add_zero, Nat.reduceAdd]
  rw [c1', c2', x_begin]
  simp only [bd_s]
  rw [x_so (show wk σ 3 (s (199 + b)) j 12 0 = nI B by rw [wk_ne (by decide)]; exact a2)]
  simp only [bd_s, nm_s, nI_1]
  obtain ⟨σ', d1, d2⟩ := x_ldL hM1 hB hB2 hb hc (eo M B b - (b * B + 1)) 80 (b * B + 1) (wk σ 3 (s (199 + b)) j) (by unfold eo; omega) (by unfold eo; omega) (by omega) (by rw [wk_ne (by decide)]; exact a1) (by rw [wk_ne (by decide)]; exact a2) (fun i hi => by rw [wk_ne (by decide)]; exact (b3 i hi).1) (by rw [Nat.add_sub_cancel, hg]; exact wk_0 σ 3 _ _) (by rw [Nat.add_sub_cancel, hg]; show _ = nI (s (231 + b)).toNatClampNeg; rw [ej, nI_clamp (by omega)]; exact wk_1 σ 3 _ _)
  exact ⟨σ', d1, fun q hq => by rw [d2 q hq, wk_ne (by omega)]⟩
