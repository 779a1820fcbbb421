/-! PURE: the error of samples as a block, the best start -/
def errL (s : Nat → Int32) : Nat → Int32 → Nat → Int32 → Nat → Int32
  | 0, _, _, acc, _ => acc
  | n + 1, g, j, acc, k => errL s n (nxg g j (cdf g j (s (7 + k)))) (nxn j (cdf g j (s (7 + k)))) (acc + (s (7 + k) - nxg g j (cdf g j (s (7 + k)))) * (s (7 + k) - nxg g j (cdf g j (s (7 + k))))) (k + 1)
theorem fu1 {n f : Nat} (h : n < f) : ∃ f', f = f' + 1 := ⟨f - 1, by omega⟩
theorem x_errL {s : Nat → Int32} {e : Nat} (he : e ≤ 64) : ∀ n f k j acc (σ : Sg), n < f → k + n = e → j < 49 → (∀ i, i < e → σ 11 i = s (7 + i)) → σ 82 1 = nI j → ∃ σ', fX1_errorAsBlock_L23 0 (nI e) f acc (nI k) σ = some (errL s n (σ 82 0) j acc k, σ') ∧ ∀ q, q ≠ 82 → σ' q = σ q := by
  intro n
  induction n with
  | zero =>
    intro f k j acc σ hf hk hj hv hw
    obtain ⟨f, rfl⟩ := fu1 hf
    rw [fX1_errorAsBlock_L23, if_pos (nI_le (show e ≤ k by omega) (by omega))]
    exact ⟨σ, rfl, fun _ _ => rfl⟩
  | succ n ih =>
    intro f k j acc σ hf hk hj hv hw
    obtain ⟨f, rfl⟩ := fu1 hf
    rw [fX1_errorAsBlock_L23, if_neg (nI_ge (show k < e by omega) (by omega)), gi (show k < 64 by omega) (by decide), nI_clamp (show k < 2 ^ 31 by omega)]
    simp only [Nat.mul_zero, Nat.add_zero, Nat.reduceAdd]
    rw [hv k (by omega), x_code 0 j _ σ hj hw]
    simp only [bd_s]
    rw [x_follow 0 j _ σ hj hw]
    simp only [bd_s, nm_s, Nat.add_zero, nI_1]
    rw [gj (show k < 64 by omega) (by decide), wk_ne (show 11 ≠ 82 + 0 by decide), hv k (by omega)]
    obtain ⟨σ', h1, h2⟩ := ih f (k + 1) (nxn j (cdf (σ 82 0) j (s (7 + k)))) (acc + (s (7 + k) - nxg (σ 82 0) j (cdf (σ 82 0) j (s (7 + k)))) * (s (7 + k) - nxg (σ 82 0) j (cdf (σ 82 0) j (s (7 + k))))) (wk σ 0 (nxg (σ 82 0) j (cdf (σ 82 0) j (s (7 + k)))) (nxn j (cdf (σ 82 0) j (s (7 + k))))) (by omega) (by omega) (nxn_lt _ hj) (fun i hi => by rw [wk_ne (by decide)]; exact hv i hi) (wk_1 _ 0 _ _)
    have e0 : wk σ 0 (nxg (σ 82 0) j (cdf (σ 82 0) j (s (7 + k)))) (nxn j (cdf (σ 82 0) j (s (7 + k)))) 82 0 = nxg (σ 82 0) j (cdf (σ 82 0) j (s (7 + k))) := wk_0 σ 0 _ _
    rw [e0] at h1
    refine ⟨σ', ?_, fun q hq => by rw [h2 q hq, wk_ne (by omega)]⟩
    rw [e0]
    exact h1
theorem m_errL {μ : Sg} (T : Tbl μ) {a m : Nat} (he : a + m ≤ 64) (hV : ∀ i, i < a + m → inV (μ 0 (7 + i))) : ∀ n f k g j acc, n < f → k + n = a + m → j < 49 → inV g → fX7_errorOf_L22 (nI a) (nI m) f acc g (nI j) (nI k) μ = some (errL (μ 0) n g j acc k) := by
  intro n
  induction n with
  | zero =>
    intro f k g j acc hf hk hj hg
    obtain ⟨f, rfl⟩ := fu1 hf
    rw [fX7_errorOf_L22, nI_add, if_pos (nI_le (show a + m ≤ k by omega) (by omega))]
    rfl
  | succ n ih =>
    intro f k g j acc hf hk hj hg
    obtain ⟨f, rfl⟩ := fu1 hf
    rw [fX7_errorOf_L22, nI_add, if_neg (nI_ge (show k < a + m by omega) (by omega)), o7, gi (show 7 + k < 295 by omega) (by decide), nI_clamp (show 7 + k < 2 ^ 31 by omega), m_code T hj hg (hV k (by omega))]
    simp only [bd_s]
    rw [m_guess T hj, m_num hj]
    simp only [bd_s, nm_s, fX7_square, nI_1]
    rw [gj (show 7 + k < 295 by omega) (by decide)]
    exact ih f (k + 1) _ _ _ (by omega) (by omega) (nxn_lt _ hj) (nxg_r _ _ _)
/-- the error of the m samples from a, as a block with the start j -/
def errs (s : Nat → Int32) (a m j : Nat) : Int32 := errL s (m - 1) (s (7 + a)) j 0 (a + 1)
theorem x_err {s : Nat → Int32} {a m j : Nat} {σ : Sg} (h1 : 1 ≤ m) (h2 : a + m ≤ 64) (hj : j < 49) (hv : ∀ i, i < a + m → σ 11 i = s (7 + i)) : ∃ σ', fX1_errorAsBlock 0 (nI a) (nI (a + m)) (nI j) σ = some (errs s a m j, σ') ∧ ∀ q, q ≠ 82 → σ' q = σ q := by
  obtain ⟨σ', e1, e2⟩ := x_errL (s := s) (e := a + m) h2 (m - 1) 80 (a + 1) j 0 (wk σ 0 (s (7 + a)) j) (by omega) (by omega) hj (fun i hi => by rw [wk_ne (by decide)]; exact hv i hi) (wk_1 _ 0 _ _)
  have e0 : wk σ 0 (s (7 + a)) j 82 0 = s (7 + a) := wk_0 σ 0 _ _
  rw [e0] at e1
  refine ⟨σ', ?_, fun q hq => by rw [e2 q hq, wk_ne (by omega)]⟩
  unfold fX1_errorAsBlock
  rw [gi (show a < 64 by omega) (by decide), nI_clamp (show a < 2 ^ 31 by omega)]
  simp only [Nat.mul_zero, Nat.add_zero, Nat.reduceAdd]
  rw [hv a (by omega), x_begin]
  simp only [bd_s, nm_s, nI_1]
  exact e1
theorem m_err {μ : Sg} (T : Tbl μ) {a m j : Nat} (h1 : 1 ≤ m) (h2 : a + m ≤ 64) (hj : j < 49) (hV : ∀ i, i < a + m → inV (μ 0 (7 + i))) : fX7_errorOf (nI a) (nI m) (nI j) μ = some (errs (μ 0) a m j) := by
  unfold fX7_errorOf
  rw [o7, gi (show 7 + a < 295 by omega) (by decide), nI_clamp (show 7 + a < 2 ^ 31 by omega)]
  simp only [nm_s, nI_1]
  exact m_errL T h2 hV (m - 1) 80 (a + 1) _ j 0 (by omega) (by omega) hj (hV a (by omega))
/-- m is the least of the places 0 to 48 where f is least -/
def IsB (f : Nat → Int32) (m : Nat) : Prop := m < 49 ∧ (∀ i, i < 49 → (f m).toInt ≤ (f i).toInt) ∧ ∀ i, i < m → (f m).toInt < (f i).toInt
theorem IsB.one {f : Nat → Int32} {m m' : Nat} (h : IsB f m) (h' : IsB f m') : m = m' := by
  rcases Nat.lt_trichotomy m m' with q | q | q
  · have a := h'.2.2 m q
    have b := h.2.1 m' h'.1
    omega
  · exact q
  · have a := h.2.2 m' q
    have b := h'.2.1 m h.1
    omega
theorem x_bestL {s : Nat → Int32} {a m : Nat} (h1 : 1 ≤ m) (h2 : a + m ≤ 64) : ∀ n f c b (σ : Sg), n < f → c + n = 49 → b < c → (∀ i, i < a + m → σ 11 i = s (7 + i)) → (∀ i, i < c → (errs s a m b).toInt ≤ (errs s a m i).toInt) → (∀ i, i < b → (errs s a m b).toInt < (errs s a m i).toInt) → ∃ r σ', fX1_bestStart_L16 0 (nI a) (nI (a + m)) f (nI b) (errs s a m b) (nI c) σ = some (nI r, σ') ∧ IsB (errs s a m) r ∧ ∀ q, q ≠ 82 → σ' q = σ q := by
  intro n
  induction n with
  | zero =>
    intro f c b σ hf hc hb hv i1 i2
    obtain ⟨f, rfl⟩ := fu1 hf
    obtain rfl : c = 49 := by omega
    rw [fX1_bestStart_L16, if_pos (show (48 : Int32) < nI 49 by decide)]
    exact ⟨b, σ, rfl, ⟨hb, i1, i2⟩, fun _ _ => rfl⟩
  | succ n ih =>
    intro f c b σ hf hc hb hv i1 i2
    obtain ⟨f, rfl⟩ := fu1 hf
    rw [fX1_bestStart_L16, if_neg (show ¬ (48 : Int32) < nI c from nI_nlt (b := c) (a := 48) (by omega) (by decide))]
    obtain ⟨σ1, e1, e2⟩ := x_err (s := s) (σ := σ) h1 h2 (show c < 49 by omega) hv
    rw [e1]
    simp only [bd2_s, nm_s, nI_1]
    have hv1 : ∀ i, i < a + m → σ1 11 i = s (7 + i) := fun i hi => by rw [e2 11 (by decide)]; exact hv i hi
    by_cases hle : errs s a m b ≤ errs s a m c
    · rw [if_pos hle]
      rw [Int32.le_iff_toInt_le] at hle
      obtain ⟨r, σ', g1, g2, g3⟩ := ih f (c + 1) b σ1 (by omega) (by omega) (by omega) hv1 (fun i hi => by
        rcases Nat.lt_or_ge i c with q | q
        · exact i1 i q
        · obtain rfl : i = c := by omega
          exact hle) i2
      exact ⟨r, σ', g1, g2, fun q hq => by rw [g3 q hq, e2 q hq]⟩
    · rw [if_neg hle]
      rw [Int32.le_iff_toInt_le] at hle
      obtain ⟨r, σ', g1, g2, g3⟩ := ih f (c + 1) c σ1 (by omega) (by omega) (by omega) hv1 (fun i hi => by
        rcases Nat.lt_or_ge i c with q | q
        · have := i1 i q
          omega
        · obtain rfl : i = c := by omega
          omega) (fun i hi => by
        have := i1 i hi
        omega)
      exact ⟨r, σ', g1, g2, fun q hq => by rw [g3 q hq, e2 q hq]⟩
theorem x_best {s : Nat → Int32} {a m : Nat} {σ : Sg} (h1 : 1 ≤ m) (h2 : a + m ≤ 64) (hv : ∀ i, i < a + m → σ 11 i = s (7 + i)) : ∃ r σ', fX1_bestStart 0 (nI a) (nI (a + m)) σ = some (nI r, σ') ∧ IsB (errs s a m) r ∧ ∀ q, q ≠ 82 → σ' q = σ q := by
  obtain ⟨σ1, e1, e2⟩ := x_err (s := s) (σ := σ) h1 h2 (show 0 < 49 by decide) hv
  unfold fX1_bestStart
  rw [n0, e1]
  simp only [bd2_s]
  rw [n1]
  obtain ⟨r, σ', g1, g2, g3⟩ := x_bestL h1 h2 48 80 1 0 σ1 (by omega) (by omega) (by omega) (fun i hi => by rw [e2 11 (by decide)]; exact hv i hi) (fun i hi => by
    obtain rfl : i = 0 := by omega
    omega) (fun i hi => by omega)
  exact ⟨r, σ', g1, g2, fun q hq => by rw [g3 q hq, e2 q hq]⟩
def dn : Nat → Int32
  | 0 => -1
  | n + 1 => nI n
theorem dn_pred (n : Nat) : nI n + (-1) = dn n := by
  cases n with
  | zero => decide
  | succ n => exact pk_m1 n
theorem m_bestL {μ : Sg} (T : Tbl μ) {a m : Nat} (h1 : 1 ≤ m) (h2 : a + m ≤ 64) (hV : ∀ i, i < a + m → inV (μ 0 (7 + i))) : ∀ n f b, n < f → n < 49 → b < 49 → n ≤ b → (∀ i, n ≤ i → i < 49 → (errs (μ 0) a m b).toInt ≤ (errs (μ 0) a m i).toInt) → (∀ i, n ≤ i → i < b → (errs (μ 0) a m b).toInt < (errs (μ 0) a m i).toInt) → ∃ r, fX7_best_L7 (nI a) (nI m) f (nI b) (dn n) μ = some (nI r) ∧ IsB (errs (μ 0) a m) r := by
  intro n
  induction n with
  | zero =>
    intro f b hf hn hb hnb i1 i2
    obtain ⟨f, rfl⟩ := fu1 hf
    rw [fX7_best_L7, if_pos (show dn 0 < 0 by decide)]
    exact ⟨b, rfl, hb, fun i hi => i1 i (by omega) hi, fun i hi => i2 i (by omega) hi⟩
  | succ n ih =>
    intro f b hf hn hb hnb i1 i2
    obtain ⟨f, rfl⟩ := fu1 hf
    rw [fX7_best_L7, if_neg (show ¬ dn (n + 1) < 0 from nI_pos (by omega)), show dn (n + 1) = nI n from rfl, m_err T h1 h2 (show n < 49 by omega) hV]
    simp only [bd_s]
    rw [m_err T h1 h2 hb hV]
    simp only [bd_s, nm_s, dn_pred]
    by_cases hlt : errs (μ 0) a m b < errs (μ 0) a m n
    · rw [if_pos hlt]
      rw [Int32.lt_iff_toInt_lt] at hlt
      exact ih f b (by omega) (by omega) hb (by omega) (fun i hi hi2 => by
        rcases Nat.eq_or_lt_of_le hi with q | q
        · subst q
          omega
        · exact i1 i q hi2) (fun i hi hi2 => by
        rcases Nat.eq_or_lt_of_le hi with q | q
        · subst q
          omega
        · exact i2 i q hi2)
    · rw [if_neg hlt]
      rw [Int32.lt_iff_toInt_lt] at hlt
      exact ih f n (by omega) (by omega) (by omega) (Nat.le_refl n) (fun i hi hi2 => by
        rcases Nat.eq_or_lt_of_le hi with q | q
        · subst q
          omega
        · have := i1 i q hi2
          omega) (fun i hi hi2 => by omega)
theorem m_best {μ : Sg} (T : Tbl μ) {a m : Nat} (h1 : 1 ≤ m) (h2 : a + m ≤ 64) (hV : ∀ i, i < a + m → inV (μ 0 (7 + i))) : ∃ r, fX7_best (nI a) (nI m) μ = some (nI r) ∧ IsB (errs (μ 0) a m) r := by
  unfold fX7_best
  rw [n48, show (47 : Int32) = dn 48 from rfl]
  exact m_bestL T h1 h2 hV 48 80 48 (by omega) (by omega) (by omega) (Nat.le_refl _) (fun i hi hi2 => by
    obtain rfl : i = 48 := by omega
    omega) (fun i hi hi2 => by omega)
/-- both sides' best start -/
theorem xm_best {σ μ : Sg} (T : Tbl μ) {a m : Nat} (h1 : 1 ≤ m) (h2 : a + m ≤ 64) (hv : ∀ i, i < a + m → σ 11 i = μ 0 (7 + i)) (hV : ∀ i, i < a + m → inV (μ 0 (7 + i))) : ∃ r σ', fX1_bestStart 0 (nI a) (nI (a + m)) σ = some (nI r, σ') ∧ fX7_best (nI a) (nI m) μ = some (nI r) ∧ r < 49 ∧ ∀ q, q ≠ 82 → σ' q = σ q := by
  obtain ⟨r, σ', e1, e2, e3⟩ := x_best (s := μ 0) (σ := σ) h1 h2 hv
  obtain ⟨r', g1, g2⟩ := m_best T h1 h2 hV
  obtain rfl := e2.one g2
  exact ⟨r, σ', e1, g1, e2.1, e3⟩
