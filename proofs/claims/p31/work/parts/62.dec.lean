/-! PURE: what the decoder makes -/
theorem kd {B : Nat} (hB : 0 < B) (k : Nat) : k / B * B + k % B = k ∧ k % B < B := ⟨by rw [Nat.mul_comm]; exact Nat.div_add_mod k B, Nat.mod_lt k hB⟩
theorem kb {B k : Nat} (hB : 2 ≤ B) (hk : k < 64) : k / B < 32 := by
  have := Nat.div_le_div_left (a := k) hB (by decide)
  omega
theorem kq {B b k : Nat} (h1 : b * B ≤ k) (h2 : k < b * B + B) : k / B = b ∧ k % B = k - b * B := by
  obtain ⟨r, rfl⟩ : ∃ r, k = b * B + r := ⟨k - b * B, by omega⟩
  have hr : r < B := by omega
  constructor
  · rw [Nat.mul_comm, Nat.mul_add_div (by omega), Nat.div_eq_of_lt hr, Nat.add_zero]
  · rw [Nat.mul_comm, Nat.mul_add_mod, Nat.mod_eq_of_lt hr]
    omega
theorem mulS {b c : Nat} (B : Nat) (h : b < c) : b * B + B ≤ c * B := by
  rw [← Nat.succ_mul]
  exact Nat.mul_le_mul_right B h
def NB (M B : Nat) : Nat := (M + B - 1) / B
theorem nb_lt {M B b : Nat} (hB : 0 < B) : b < NB M B ↔ b * B < M := by
  unfold NB
  rw [Nat.lt_iff_add_one_le, Nat.le_div_iff_mul_le hB, Nat.succ_mul]
  omega
theorem nb_le {M B : Nat} (hB : 2 ≤ B) (hM : M ≤ 64) : NB M B ≤ 32 := by
  rcases Nat.lt_or_ge 32 (NB M B) with h | h
  · have := (nb_lt (by omega)).mp h
    omega
  · exact h
def eo (M B b : Nat) : Nat := min M (b * B + B)
def CdS (s : Nat → Int32) (M B : Nat) : Prop := (∀ b, b * B < M → inV (s (199 + b)) ∧ (∃ j, j < 49 ∧ s (231 + b) = nI j) ∧ (s (263 + b) = 0 ∨ s (263 + b) = 1)) ∧ ∀ k, k < M → (k % B = 0 → s (71 + k) = -1) ∧ (k % B ≠ 0 → c16 (s (71 + k)))
/-- the guess and the number behind the sample k, by the codes alone -/
def gn (s : Nat → Int32) (B : Nat) : Nat → Int32 × Nat
  | 0 => (s 199, (s 231).toNatClampNeg)
  | k + 1 => if (k + 1) % B = 0 then (s (199 + (k + 1) / B), (s (231 + (k + 1) / B)).toNatClampNeg) else (nxg (gn s B k).1 (gn s B k).2 (s (71 + (k + 1))), nxn (gn s B k).2 (s (71 + (k + 1))))
theorem gn_first (s : Nat → Int32) {B k : Nat} (h : k % B = 0) : gn s B k = (s (199 + k / B), (s (231 + k / B)).toNatClampNeg) := by
  cases k with
  | zero => rw [Nat.zero_div]; rfl
  | succ k => rw [gn, if_pos h]
theorem gn_next (s : Nat → Int32) {B k : Nat} (h : (k + 1) % B ≠ 0) : gn s B (k + 1) = (nxg (gn s B k).1 (gn s B k).2 (s (71 + (k + 1))), nxn (gn s B k).2 (s (71 + (k + 1)))) := by
  rw [gn, if_neg h]
theorem gn_r {s : Nat → Int32} {M B : Nat} (hc : CdS s M B) : ∀ k, k < M → inV (gn s B k).1 ∧ (gn s B k).2 < 49 := by
  have hf : ∀ k, k < M → k % B = 0 → inV (gn s B k).1 ∧ (gn s B k).2 < 49 := by
    intro k hk h
    obtain ⟨h1, ⟨j, hj, h2⟩, _⟩ := hc.1 (k / B) (Nat.lt_of_le_of_lt (Nat.div_mul_le_self k B) hk)
    rw [gn_first s h]
    exact ⟨h1, by show (s (231 + k / B)).toNatClampNeg < 49; rw [h2, nI_clamp (by omega)]; exact hj⟩
  intro k
  induction k with
  | zero => exact fun hk => hf 0 hk (Nat.zero_mod B)
  | succ k ih =>
    intro hk
    by_cases h : (k + 1) % B = 0
    · exact hf _ hk h
    · rw [gn_next s h]
      exact ⟨nxg_r _ _ _, nxn_lt _ (ih (by omega)).2⟩
def fil (s : Nat → Int32) (B : Nat) (f : Nat → Int32) (k : Nat) : Int32 := if k / B = 0 ∨ s 4 = 1 then 0 else if s 4 = 0 then f (k - k % B - 1) else f (k - B)
def val (s : Nat → Int32) (B : Nat) (f : Nat → Int32) (k : Nat) : Int32 := if s (263 + k / B) = 1 then fil s B f k else (gn s B k).1
def mdT (s : Nat → Int32) (B : Nat) : Nat → Nat → Int32
  | 0 => fun _ => 0
  | k + 1 => upd (mdT s B k) k (val s B (mdT s B k) k)
/-- the sample k that the decoder makes -/
def md (s : Nat → Int32) (B i : Nat) : Int32 := mdT s B (i + 1) i
/-- the number behind the sample k, -1 in a lost block -/
def nd (s : Nat → Int32) (B k : Nat) : Int32 := if s (263 + k / B) = 1 then -1 else nI (gn s B k).2
theorem mdT_md (s : Nat → Int32) (B : Nat) : ∀ K i, i < K → mdT s B K i = md s B i := by
  intro K
  induction K with
  | zero => intro i hi; omega
  | succ K ih =>
    intro i hi
    by_cases h : i = K
    · subst h
      rfl
    · rw [mdT, pk_un h]
      exact ih i (by omega)
theorem fil_congr (s : Nat → Int32) {B k : Nat} (hB : 2 ≤ B) {f g : Nat → Int32} (h : ∀ i, i < k → f i = g i) : fil s B f k = fil s B g k := by
  unfold fil
  rcases Nat.lt_or_ge k B with q | q
  · rw [if_pos (Or.inl (Nat.div_eq_of_lt q)), if_pos (Or.inl (Nat.div_eq_of_lt q))]
  · rw [h (k - k % B - 1) (by omega), h (k - B) (by omega)]
theorem val_congr (s : Nat → Int32) {B k : Nat} (hB : 2 ≤ B) {f g : Nat → Int32} (h : ∀ i, i < k → f i = g i) : val s B f k = val s B g k := by
  unfold val
  rw [fil_congr s hB h]
theorem md_eq (s : Nat → Int32) {B : Nat} (hB : 2 ≤ B) (k : Nat) : md s B k = val s B (md s B) k := by
  show mdT s B (k + 1) k = _
  rw [mdT, pk_us]
  exact val_congr s hB (fun i hi => mdT_md s B k i hi)
theorem z_inV : inV 0 := by unfold inV; decide
theorem md_r {s : Nat → Int32} {M B : Nat} (hB : 2 ≤ B) (hc : CdS s M B) : ∀ K k, k < K → k < M → inV (md s B k) := by
  intro K
  induction K with
  | zero => intro k hk; omega
  | succ K ih =>
    intro k hk hM
    rw [md_eq s hB]
    unfold val fil
    rcases Nat.lt_or_ge k B with q | q
    · rw [if_pos (Or.inl (Nat.div_eq_of_lt q))]
      split
      · exact z_inV
      · exact (gn_r hc k hM).1
    · split
      · split
        · exact z_inV
        · split
          · exact ih _ (by omega) (by omega)
          · exact ih _ (by omega) (by omega)
      · exact (gn_r hc k hM).1
theorem rem_k {k B : Nat} (hk : k < 64) (hB : 2 ≤ B) (hB2 : B ≤ 16) : nI k - nI k / nI B * nI B = nI (k % B) := pk_rem (by omega) (by omega) (by omega)
theorem div_k {k B : Nat} (hk : k < 64) (hB : 2 ≤ B) (hB2 : B ≤ 16) : nI k / nI B = nI (k / B) := pk_div (by omega) (by omega) (by omega)
theorem z_nI {n : Nat} (h : n < 2 ^ 31) : nI n = 0 ↔ n = 0 := nI_eq (b := 0) h (by decide)
theorem m_fil {μ : Sg} {B k : Nat} (hB : 2 ≤ B) (hB2 : B ≤ 16) (hk : k < 64) (h2 : μ 0 2 = nI B) : fX7_filled (nI k) μ = some (fil (μ 0) B (μ 6) k) := by
  have hd := kd (B := B) (by omega) k
  unfold fX7_filled fil
  simp only [h2, nm_s]
  rw [gd_of (nI_ne0 (by omega) (by omega)), rem_k hk hB hB2, pk_sub (Nat.mod_le k B)]
  have he : (nI (k - k % B) = 0) ↔ k / B = 0 := by
    rw [z_nI (by omega)]
    constructor
    · intro h
      rcases Nat.lt_or_ge k B with q | q
      · exact Nat.div_eq_of_lt q
      · omega
    · intro h
      rw [h] at hd
      omega
  by_cases h1 : k / B = 0
  · rw [if_pos (he.mpr h1), if_pos (Or.inl h1)]
  · rw [if_neg (fun q => h1 (he.mp q))]
    have hk1 : B ≤ k := by
      rcases Nat.lt_or_ge k B with q | q
      · exact absurd (Nat.div_eq_of_lt q) h1
      · exact q
    by_cases h3 : μ 0 4 = 1
    · rw [if_pos h3, if_pos (Or.inr h3)]
    · rw [if_neg h3, if_neg (show ¬ (k / B = 0 ∨ μ 0 4 = 1) from fun q => q.elim h1 h3)]
      by_cases h4 : μ 0 4 = 0
      · rw [if_pos h4, if_pos h4]
        rw [show nI (k - k % B) - 1 = nI (k - k % B - 1) from pk_sub (b := 1) (by omega), gi (show k - k % B - 1 < 64 by omega) (by decide), nI_clamp (show k - k % B - 1 < 2 ^ 31 by omega)]
      · rw [if_neg h4, if_neg h4]
        rw [pk_sub hk1, gi (show k - B < 64 by omega) (by decide), nI_clamp (show k - B < 2 ^ 31 by omega)]
theorem m_141 {μ : Sg} {K : Int32 → Int32 → Int32 → Sg → Option Sg} {x1 x2 r : Int32} {k b : Nat} (hk : k < 64) (hb : b < 32) : fX7_decodes_b141 K x1 x2 (nI k) (nI b) r (nI k) μ = K x1 x2 (nI (k + 1)) (up2 (up2 (up2 μ 6 k r) 7 k x2) 8 b x2) := by
  unfold fX7_decodes_b141
  rw [gi hk (by decide), nI_clamp (show k < 2 ^ 31 by omega)]
  simp only [nm_s]
  rw [gj hk (by decide), gi hb (by decide), nI_clamp (show b < 2 ^ 31 by omega), nI_1]
theorem m_111 {μ : Sg} {K : Int32 → Int32 → Int32 → Sg → Option Sg} {x1 x2 : Int32} {k B : Nat} (hB : 2 ≤ B) (hB2 : B ≤ 16) (hk : k < 64) (h2 : μ 0 2 = nI B) (hg : (gn (μ 0) B k).1 = x1) : fX7_decodes_b111 K x1 (nI k) (nI (k / B)) x2 μ = K x1 x2 (nI (k + 1)) (up2 (up2 (up2 μ 6 k (val (μ 0) B (μ 6) k)) 7 k x2) 8 (k / B) x2) := by
  have hb := kb hB hk
  unfold fX7_decodes_b111 val
  rw [o263, gi (show 263 + k / B < 295 by omega) (by decide), nI_clamp (show 263 + k / B < 2 ^ 31 by omega)]
  by_cases h : μ 0 (263 + k / B) = 1
  · rw [if_pos h, if_pos h, m_fil hB hB2 hk h2]
    exact m_141 hk hb
  · rw [if_neg h, if_neg h, hg]
    exact m_141 hk hb
theorem m_decL {μ : Sg} (T : Tbl μ) {M B : Nat} (hM1 : M ≤ 64) (hB : 2 ≤ B) (hB2 : B ≤ 16) (hM : μ 0 0 = nI M) (h2 : μ 0 2 = nI B) (hc : CdS (μ 0) M B) : ∀ n f k x1 x2 (u : Sg), n < f → k + n = M → (∀ q, q ≠ 6 → q ≠ 7 → q ≠ 8 → u q = μ q) → (k ≠ 0 → x1 = (gn (μ 0) B (k - 1)).1 ∧ x2 = nI (gn (μ 0) B (k - 1)).2) → (∀ i, i < k → u 6 i = md (μ 0) B i) → (∀ i, i < k → u 7 i = nI (gn (μ 0) B i).2) → (∀ b, b * B < k → u 8 b = nI (gn (μ 0) B (eo k B b - 1)).2) → ∃ μ', fX7_decodes_L6 f x1 x2 (nI k) u = some μ' ∧ (∀ q, q ≠ 6 → q ≠ 7 → q ≠ 8 → μ' q = μ q) ∧ (∀ i, i < M → μ' 6 i = md (μ 0) B i) ∧ (∀ i, i < M → μ' 7 i = nI (gn (μ 0) B i).2) ∧ (∀ b, b * B < M → μ' 8 b = nI (gn (μ 0) B (eo M B b - 1)).2) := by
  intro n
  induction n with
  | zero =>
    intro f k x1 x2 u hf hk hu hx i6 i7 i8
    obtain ⟨f, rfl⟩ := fu1 hf
    obtain rfl : k = M := by omega
    rw [fX7_decodes_L6, hu 0 (by decide) (by decide) (by decide), hM, if_pos (nI_le (Nat.le_refl k) (by omega))]
    exact ⟨u, rfl, hu, i6, i7, i8⟩
  | succ n ih =>
    intro f k x1 x2 u hf hk hu hx i6 i7 i8
    obtain ⟨f, rfl⟩ := fu1 hf
    have h0 : u 0 = μ 0 := hu 0 (by decide) (by decide) (by decide)
    have h5 : u 5 = μ 5 := hu 5 (by decide) (by decide) (by decide)
    have Tu : Tbl u := fun n hn => by rw [h5]; exact T n hn
    have hk64 : k < 64 := by omega
    have hb := kb hB hk64
    have hd := kd (B := B) (by omega) k
    rw [fX7_decodes_L6, h0, hM, h2, if_neg (nI_ge (show k < M by omega) (by omega)), gd_of (nI_ne0 (show 0 < B by omega) (by omega)), rem_k hk64 hB hB2, div_k hk64 hB hB2]
    simp only [nm_s]
    rw [gd_of (nI_ne0 (show 0 < B by omega) (by omega))]
    have fin : fX7_decodes_b111 (fun x1 x2 x3 μ => fX7_decodes_L6 f x1 x2 x3 μ) (gn (μ 0) B k).1 (nI k) (nI (k / B)) (nI (gn (μ 0) B k).2) u = fX7_decodes_L6 f (gn (μ 0) B k).1 (nI (gn (μ 0) B k).2) (nI (k + 1)) (up2 (up2 (up2 u 6 k (md (μ 0) B k)) 7 k (nI (gn (μ 0) B k).2)) 8 (k / B) (nI (gn (μ 0) B k).2)) := by
      rw [m_111 hB hB2 hk64 (by rw [h0]; exact h2) (by rw [h0]), h0, md_eq (μ 0) hB k, val_congr (μ 0) hB i6]
    have goal : ∃ μ', fX7_decodes_L6 f (gn (μ 0) B k).1 (nI (gn (μ 0) B k).2) (nI (k + 1)) (up2 (up2 (up2 u 6 k (md (μ 0) B k)) 7 k (nI (gn (μ 0) B k).2)) 8 (k / B) (nI (gn (μ 0) B k).2)) = some μ' ∧ (∀ q, q ≠ 6 → q ≠ 7 → q ≠ 8 → μ' q = μ q) ∧ (∀ i, i < M → μ' 6 i = md (μ 0) B i) ∧ (∀ i, i < M → μ' 7 i = nI (gn (μ 0) B i).2) ∧ (∀ b, b * B < M → μ' 8 b = nI (gn (μ 0) B (eo M B b - 1)).2) := by
      refine ih f (k + 1) _ _ _ (by omega) (by omega) (fun q q6 q7 q8 => ?_) (fun _ => ⟨rfl, rfl⟩) (fun i hi => ?_) (fun i hi => ?_) (fun b hb1 => ?_)
      · rw [up2_ne q8, up2_ne q7, up2_ne q6]
        exact hu q q6 q7 q8
      · rw [up2_ne (by decide), up2_ne (by decide), up2_self]
        by_cases h : i = k
        · rw [h, pk_us]
        · rw [pk_un h]
          exact i6 i (by omega)
      · rw [up2_ne (by decide), up2_self, up2_ne (by decide)]
        by_cases h : i = k
        · rw [h, pk_us]
        · rw [pk_un h]
          exact i7 i (by omega)
      · rw [up2_self, up2_ne (by decide), up2_ne (by decide)]
        by_cases h : b = k / B
        · rw [h, pk_us]
          congr 3
          unfold eo
          omega
        · rw [pk_un h]
          have hlt : b < k / B := by
            rcases Nat.lt_or_ge b (k / B) with q | q
            · exact q
            · have := mulS B (show k / B < b by omega)
              omega
          have hm := mulS B hlt
          rw [i8 b (by omega)]
          congr 3
          unfold eo
          omega
    by_cases h : k % B = 0
    · rw [if_pos ((z_nI (by omega)).mpr h)]
      have hg := gn_first (μ 0) h
      obtain ⟨_, ⟨j, hj, ej⟩, _⟩ := hc.1 (k / B) (by omega)
      unfold fX7_decodes_b42 fX7_decodes_b78
      rw [if_neg (show ¬ (1 : Int32) = 0 by decide), o199, gi (show 199 + k / B < 295 by omega) (by decide), nI_clamp (show 199 + k / B < 2 ^ 31 by omega), if_neg (show ¬ (1 : Int32) = 0 by decide), o231, gi (show 231 + k / B < 295 by omega) (by decide), nI_clamp (show 231 + k / B < 2 ^ 31 by omega), h0]
      have e1 : μ 0 (199 + k / B) = (gn (μ 0) B k).1 := by rw [hg]
      have e2 : μ 0 (231 + k / B) = nI (gn (μ 0) B k).2 := by rw [hg]; show _ = nI (μ 0 (231 + k / B)).toNatClampNeg; rw [ej, nI_clamp (by omega)]
      rw [e1, e2, fin]
      exact goal
    · rw [if_neg (fun q => h ((z_nI (by omega)).mp q))]
      have hk0 : k ≠ 0 := fun q => h (by rw [q]; exact Nat.zero_mod B)
      obtain ⟨k', rfl⟩ : ∃ k', k = k' + 1 := ⟨k - 1, by omega⟩
      have hg := gn_next (μ 0) h
      obtain ⟨hx1, hx2⟩ := hx hk0
      rw [Nat.add_sub_cancel] at hx1 hx2
      have hj := (gn_r hc k' (by omega)).2
      unfold fX7_decodes_b42 fX7_decodes_b78
      rw [if_pos rfl, o71, gi (show 71 + (k' + 1) < 295 by omega) (by decide), nI_clamp (show 71 + (k' + 1) < 2 ^ 31 by omega), hx1, hx2, m_guess Tu hj]
      simp only [bd_s]
      rw [if_pos trivial, gj (show 71 + (k' + 1) < 295 by omega) (by decide), m_num hj]
      simp only [bd_s]
      rw [h0]
      have e1 : nxg (gn (μ 0) B k').1 (gn (μ 0) B k').2 (μ 0 (71 + (k' + 1))) = (gn (μ 0) B (k' + 1)).1 := by rw [hg]
      have e2 : nxn (gn (μ 0) B k').2 (μ 0 (71 + (k' + 1))) = (gn (μ 0) B (k' + 1)).2 := by rw [hg]
      rw [e1, e2, fin]
      exact goal
theorem m_dec {μ : Sg} (T : Tbl μ) {M B : Nat} (hM1 : M ≤ 64) (hB : 2 ≤ B) (hB2 : B ≤ 16) (hM : μ 0 0 = nI M) (h2 : μ 0 2 = nI B) (hc : CdS (μ 0) M B) : ∃ μ', fX7_decodes μ = some μ' ∧ (∀ q, q ≠ 6 → q ≠ 7 → q ≠ 8 → μ' q = μ q) ∧ (∀ i, i < M → μ' 6 i = md (μ 0) B i) ∧ (∀ i, i < M → μ' 7 i = nI (gn (μ 0) B i).2) ∧ (∀ b, b * B < M → μ' 8 b = nI (gn (μ 0) B (eo M B b - 1)).2) := by
  unfold fX7_decodes
  rw [n0]
  exact m_decL T hM1 hB hB2 hM h2 hc M 80 0 (nI 0) (nI 0) μ (by omega) (by omega) (fun _ _ _ _ => rfl) (fun h => absurd rfl h) (fun i hi => by omega) (fun i hi => by omega) (fun b hb => by omega)
