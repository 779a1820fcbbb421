/-! PURE: the class's decoder -/
theorem x_so {σ : Sg} {B b : Nat} (h : σ 12 0 = nI B) : fX4_startOf 0 (nI b) σ = some (nI (b * B)) := by
  unfold fX4_startOf
  simp only [Nat.mul_zero, Nat.add_zero, Nat.reduceAdd]
  rw [h, pk_mul]
theorem x_eo {σ : Sg} {M B b : Nat} (hM1 : M ≤ 64) (hB2 : B ≤ 16) (hM : σ 10 0 = nI M) (h : σ 12 0 = nI B) (hb : b * B < M) : fX4_endOf 0 (nI b) σ = some (nI (eo M B b)) := by
  unfold fX4_endOf
  rw [x_so h]
  simp only [bd_s, Nat.mul_zero, Nat.add_zero, Nat.reduceAdd]
  rw [h, hM, nI_add]
  unfold mnI eo
  by_cases q : b * B + B < M
  · rw [if_pos (nI_lt q (by omega)), Nat.min_eq_right (by omega)]
  · rw [if_neg (nI_nlt (by omega) (by omega)), Nat.min_eq_left (by omega)]
theorem m_eo {μ : Sg} {M B b : Nat} (hM1 : M ≤ 64) (hB2 : B ≤ 16) (hM : μ 0 0 = nI M) (h : μ 0 2 = nI B) (hb : b * B < M) : fX7_endOf (nI b) μ = some (nI (eo M B b)) := by
  unfold fX7_endOf
  simp only [nm_s]
  rw [h, hM, nI_1, pk_mul, Nat.succ_mul]
  unfold eo
  by_cases q : M ≤ b * B + B
  · rw [if_pos (nI_le q (by omega)), Nat.min_eq_left (by omega)]
  · rw [if_neg (nI_ge (by omega) (by omega)), Nat.min_eq_right (by omega)]
theorem x_58 {σ : Sg} {i0 b k : Nat} {K : Int32 → Int32 → Sg → Option Sg} {x3 : Int32} (hk : k < 64) : fX2_decodeBlock_b58 i0 0 (nI b) K x3 (nI k) σ = K x3 (nI (k + 1)) (up2 (up2 σ (86 + 3 * i0 + 1) k (σ (82 + (1 + i0)) 0)) (86 + 3 * i0 + 2) k (σ (82 + (1 + i0)) 1)) := by
  unfold fX2_decodeBlock_b58
  rw [gi hk (by decide), nI_clamp (show k < 2 ^ 31 by omega)]
  simp only [nm_s]
  rw [gj hk (by decide), nI_1, up2_ne (show 82 + (1 + i0) ≠ 86 + 3 * i0 + 1 by omega)]
/-- the rows that a decoder writes -/
def dR (i0 q : Nat) : Prop := q = 82 + (1 + i0) ∨ q = 86 + 3 * i0 + 1 ∨ q = 86 + 3 * i0 + 2
theorem dR.n {i0 q : Nat} (h : q < 82) : ¬ dR i0 q := by unfold dR; omega
theorem x_dbL {s : Nat → Int32} {i0 M B b : Nat} (hM1 : M ≤ 64) (hB : 2 ≤ B) (hB2 : B ≤ 16) (hb : b * B < M) (hc : CdS s M B) : ∀ n f k (σ : Sg), n < f → k + n = eo M B b → b * B ≤ k → σ 10 0 = nI M → σ 12 0 = nI B → (∀ i, i < M → σ 16 i = s (71 + i)) → (k = b * B → σ (82 + (1 + i0)) 0 = (gn s B k).1 ∧ σ (82 + (1 + i0)) 1 = nI (gn s B k).2) → (b * B < k → σ (82 + (1 + i0)) 0 = (gn s B (k - 1)).1 ∧ σ (82 + (1 + i0)) 1 = nI (gn s B (k - 1)).2) → ∃ σ', fX2_decodeBlock_L28 i0 0 (nI b) f (nI (b * B)) (nI k) σ = some σ' ∧ (∀ q, ¬ dR i0 q → σ' q = σ q) ∧ (∀ i, i < k ∨ eo M B b ≤ i → σ' (86 + 3 * i0 + 1) i = σ (86 + 3 * i0 + 1) i ∧ σ' (86 + 3 * i0 + 2) i = σ (86 + 3 * i0 + 2) i) ∧ (∀ i, k ≤ i → i < eo M B b → σ' (86 + 3 * i0 + 1) i = (gn s B i).1 ∧ σ' (86 + 3 * i0 + 2) i = nI (gn s B i).2) := by
  intro n
  induction n with
  | zero =>
    intro f k σ hf hk hbk hM h2 h16 w1 w2
    obtain ⟨f, rfl⟩ := fu1 hf
    rw [fX2_decodeBlock_L28, x_eo hM1 hB2 hM h2 hb]
    simp only [bd_s]
    have : eo M B b ≤ M := Nat.min_le_left _ _
    rw [if_pos (nI_le (show eo M B b ≤ k by omega) (by omega))]
    exact ⟨σ, rfl, fun _ _ => rfl, fun _ _ => ⟨rfl, rfl⟩, fun i h1 h2 => by omega⟩
  | succ n ih =>
    intro f k σ hf hk hbk hM h2 h16 w1 w2
    obtain ⟨f, rfl⟩ := fu1 hf
    have he1 : eo M B b ≤ M := Nat.min_le_left _ _
    have he2 : eo M B b ≤ b * B + B := Nat.min_le_right _ _
    have hk64 : k < 64 := by omega
    rw [fX2_decodeBlock_L28, x_eo hM1 hB2 hM h2 hb]
    simp only [bd_s]
    rw [if_neg (nI_ge (show k < eo M B b by omega) (by omega))]
    have key : ∀ σ1 : Sg, (∀ q, q ≠ 82 + (1 + i0) → σ1 q = σ q) → σ1 (82 + (1 + i0)) 0 = (gn s B k).1 → σ1 (82 + (1 + i0)) 1 = nI (gn s B k).2 → ∃ σ', fX2_decodeBlock_b58 i0 0 (nI b) (fun x3 x4 σ => fX2_decodeBlock_L28 i0 0 (nI b) f x3 x4 σ) (nI (b * B)) (nI k) σ1 = some σ' ∧ (∀ q, ¬ dR i0 q → σ' q = σ q) ∧ (∀ i, i < k ∨ eo M B b ≤ i → σ' (86 + 3 * i0 + 1) i = σ (86 + 3 * i0 + 1) i ∧ σ' (86 + 3 * i0 + 2) i = σ (86 + 3 * i0 + 2) i) ∧ (∀ i, k ≤ i → i < eo M B b → σ' (86 + 3 * i0 + 1) i = (gn s B i).1 ∧ σ' (86 + 3 * i0 + 2) i = nI (gn s B i).2) := by
      intro σ1 g1 g2 g3
      rw [x_58 hk64, g2, g3]
      have n10 : ∀ q, q < 82 → up2 (up2 σ1 (86 + 3 * i0 + 1) k (gn s B k).1) (86 + 3 * i0 + 2) k (nI (gn s B k).2) q = σ q := fun q hq => by rw [up2_ne (by omega), up2_ne (by omega), g1 q (by omega)]
      have nW : up2 (up2 σ1 (86 + 3 * i0 + 1) k (gn s B k).1) (86 + 3 * i0 + 2) k (nI (gn s B k).2) (82 + (1 + i0)) = σ1 (82 + (1 + i0)) := by rw [up2_ne (by omega), up2_ne (by omega)]
      have r1 : up2 (up2 σ1 (86 + 3 * i0 + 1) k (gn s B k).1) (86 + 3 * i0 + 2) k (nI (gn s B k).2) (86 + 3 * i0 + 1) = upd (σ (86 + 3 * i0 + 1)) k (gn s B k).1 := by rw [up2_ne (by omega), up2_self, g1 _ (by omega)]
      have r2 : up2 (up2 σ1 (86 + 3 * i0 + 1) k (gn s B k).1) (86 + 3 * i0 + 2) k (nI (gn s B k).2) (86 + 3 * i0 + 2) = upd (σ (86 + 3 * i0 + 2)) k (nI (gn s B k).2) := by rw [up2_self, up2_ne (by omega), g1 _ (by omega)]
      obtain ⟨σ', a1, a2, a3, a4⟩ := ih f (k + 1) (up2 (up2 σ1 (86 + 3 * i0 + 1) k (gn s B k).1) (86 + 3 * i0 + 2) k (nI (gn s B k).2)) (by omega) (by omega) (by omega) (by rw [n10 10 (by decide)]; exact hM) (by rw [n10 12 (by decide)]; exact h2) (fun i hi => by rw [n10 16 (by decide)]; exact h16 i hi) (fun h => by omega) (fun _ => by rw [nW, Nat.add_sub_cancel]; exact ⟨g2, g3⟩)
      refine ⟨σ', a1, fun q hq => ?_, fun i hi => ?_, fun i hi1 hi2 => ?_⟩
      · have hq' := hq
        unfold dR at hq'
        rw [a2 q hq, up2_ne (by omega), up2_ne (by omega), g1 q (by omega)]
      · obtain ⟨b1, b2⟩ := a3 i (by omega)
        rw [b1, b2, r1, r2, pk_un (by omega), pk_un (by omega)]
        exact ⟨rfl, rfl⟩
      · by_cases h : i = k
        · subst h
          obtain ⟨b1, b2⟩ := a3 i (by omega)
          rw [b1, b2, r1, r2, pk_us, pk_us]
          exact ⟨rfl, rfl⟩
        · exact a4 i (by omega) hi2
    by_cases h : k = b * B
    · rw [if_pos (nI_le (show k ≤ b * B by omega) (by omega))]
      obtain ⟨v1, v2⟩ := w1 h
      exact key σ (fun _ _ => rfl) v1 v2
    · rw [if_neg (nI_ge (show b * B < k by omega) (by omega)), gi hk64 (by decide), nI_clamp (show k < 2 ^ 31 by omega)]
      simp only [Nat.mul_zero, Nat.add_zero, Nat.reduceAdd]
      obtain ⟨k', rfl⟩ : ∃ k', k = k' + 1 := ⟨k - 1, by omega⟩
      obtain ⟨v1, v2⟩ := w2 (by omega)
      rw [Nat.add_sub_cancel] at v1 v2
      have hj := (gn_r hc k' (by omega)).2
      have hq := kq (B := B) (b := b) (k := k' + 1) (by omega) (by omega)
      have hg := gn_next s (B := B) (k := k') (by rw [hq.2]; omega)
      rw [x_follow (1 + i0) _ _ σ hj v2, v1, h16 (k' + 1) (by omega)]
      exact key _ (fun q hq => wk_ne hq) (by rw [wk_0, hg]) (by rw [wk_1, hg])
/-- the class's rows for a coded wave -/
def Co (σ : Sg) (q : Nat) (s : Nat → Int32) (M B : Nat) : Prop := σ q 3 = nI (NB M B) ∧ (∀ b, b * B < M → σ (q + 3) b = s (199 + b) ∧ σ (q + 4) b = s (231 + b) ∧ σ (q + 5) b = s (263 + b)) ∧ ∀ k, k < M → σ (q + 6) k = s (71 + k) ∧ σ (q + 7) k = s (135 + k)
def Ba (σ : Sg) (q : Nat) (s : Nat → Int32) (M B : Nat) : Prop := σ q 0 = nI M ∧ σ (q + 2) 0 = nI B ∧ σ (q + 2) 1 = s 3 ∧ σ (q + 2) 2 = s 4 ∧ ∀ k, k < M → σ (q + 1) k = s (7 + k)
theorem x_db {s : Nat → Int32} {σ : Sg} {i0 M B b : Nat} (hM1 : M ≤ 64) (hB : 2 ≤ B) (hB2 : B ≤ 16) (hb : b * B < M) (hc : CdS s M B) (ha : Ba σ 10 s M B) (ho : Co σ 10 s M B) : ∃ σ', fX2_decodeBlock i0 0 (nI b) σ = some σ' ∧ (∀ q, ¬ dR i0 q → σ' q = σ q) ∧ (∀ i, i < b * B ∨ eo M B b ≤ i → σ' (86 + 3 * i0 + 1) i = σ (86 + 3 * i0 + 1) i ∧ σ' (86 + 3 * i0 + 2) i = σ (86 + 3 * i0 + 2) i) ∧ (∀ i, b * B ≤ i → i < eo M B b → σ' (86 + 3 * i0 + 1) i = (gn s B i).1 ∧ σ' (86 + 3 * i0 + 2) i = nI (gn s B i).2) := by
  obtain ⟨a1, a2, a3, a4, a5⟩ := ha
  obtain ⟨b1, b2, b3⟩ := ho
  obtain ⟨c1, c2, c3⟩ := b2 b hb
  obtain ⟨_, ⟨j, hj, ej⟩, _⟩ := hc.1 b hb
  have hb32 : b < 32 := by
    have := (nb_lt (M := M) (B := B) (b := b) (by omega)).mpr hb
    have := nb_le hB hM1
    omega
  have hq := kq (B := B) (b := b) (k := b * B) (Nat.le_refl _) (by omega)
  have hg := gn_first s (B := B) (k := b * B) (by rw [hq.2, Nat.sub_self])
  rw [hq.1] at hg
  unfold fX2_decodeBlock
  rw [x_so a2]
  simp only [bd_s]
  rw [gi hb32 (by decide), nI_clamp (show b < 2 ^ 31 by omega)]
  rw [gj hb32 (by decide)]
  simp only [Nat.mul_zero, Nat.add_zero, Nat.reduceAdd]
  have c1' : σ 13 b = s (199 + b) := c1
  have c2' : σ 14 b = nI j := c2.trans ej
  rw [c1', c2', x_begin]
  simp only [bd_s]
  obtain ⟨σ', d1, d2, d3, d4⟩ := x_dbL (i0 := i0) hM1 hB hB2 hb hc (eo M B b - b * B) 80 (b * B) (wk σ (1 + i0) (s (199 + b)) j) (by unfold eo; omega) (by unfold eo; omega) (Nat.le_refl _) (by rw [wk_ne (by omega)]; exact a1) (by rw [wk_ne (by omega)]; exact a2) (fun i hi => by rw [wk_ne (by omega)]; exact (b3 i hi).1) (fun _ => by rw [wk_0, wk_1, hg]; refine ⟨rfl, ?_⟩; show nI j = nI (s (231 + b)).toNatClampNeg; rw [ej, nI_clamp (by omega)]) (fun h => by omega)
  refine ⟨σ', d1, fun q hq => ?_, fun i hi => ?_, d4⟩
  · rw [d2 q hq, wk_ne (fun e => hq (Or.inl e))]
  · obtain ⟨e1, e2⟩ := d3 i hi
    rw [e1, e2, wk_ne (by omega), wk_ne (by omega)]
    exact ⟨rfl, rfl⟩
theorem x_fil {s : Nat → Int32} {σ : Sg} {i0 B b k : Nat} (hB : 2 ≤ B) (hB2 : B ≤ 16) (hk : k < 64) (h2 : σ 12 0 = nI B) (h4 : σ 12 2 = s 4) (hk1 : b * B ≤ k) (hk2 : k < b * B + B) : fX2_fillingOf i0 0 (nI b) (nI k) σ = some (fil s B (σ (86 + 3 * i0 + 1)) k) := by
  have hq := kq hk1 hk2
  have hb : b < 32 := by
    have := kb hB hk
    omega
  unfold fX2_fillingOf fil
  rw [hq.1, hq.2]
  simp only [nm_s, Nat.mul_zero, Nat.add_zero, Nat.reduceAdd, h4]
  by_cases h1 : b = 0
  · rw [if_pos ((z_nI (by omega)).mpr h1), if_pos (Or.inl h1)]
  · rw [if_neg (fun q => h1 ((z_nI (by omega)).mp q))]
    have hbB : B ≤ b * B := Nat.le_mul_of_pos_left B (by omega)
    by_cases h3 : s 4 = 1
    · rw [if_pos h3, if_pos (Or.inr h3)]
    · rw [if_neg h3, if_neg (show ¬ (b = 0 ∨ s 4 = 1) from fun q => q.elim h1 h3)]
      by_cases h4 : s 4 = 0
      · rw [if_pos h4, if_pos h4, x_so h2]
        simp only [bd_s]
        rw [show nI (b * B) - 1 = nI (b * B - 1) from pk_sub (b := 1) (by omega), gi (show b * B - 1 < 64 by omega) (by decide), nI_clamp (show b * B - 1 < 2 ^ 31 by omega), show k - (k - b * B) - 1 = b * B - 1 by omega]
      · rw [if_neg h4, if_neg h4, h2]
        rw [pk_sub (show B ≤ k by omega), gi (show k - B < 64 by omega) (by decide), nI_clamp (show k - B < 2 ^ 31 by omega)]
theorem x_fbL {s : Nat → Int32} {i0 M B b : Nat} (hM1 : M ≤ 64) (hB : 2 ≤ B) (hB2 : B ≤ 16) (hb : b * B < M) (hl : s (263 + b) = 1) : ∀ n f k (σ : Sg), n < f → k + n = eo M B b → b * B ≤ k → σ 10 0 = nI M → σ 12 0 = nI B → σ 12 2 = s 4 → (∀ i, i < k → σ (86 + 3 * i0 + 1) i = md s B i) → ∃ σ', fX2_fillBlock_L6 i0 0 (nI b) f (nI k) σ = some σ' ∧ (∀ q, ¬ dR i0 q → σ' q = σ q) ∧ (∀ i, i < k ∨ eo M B b ≤ i → σ' (86 + 3 * i0 + 1) i = σ (86 + 3 * i0 + 1) i ∧ σ' (86 + 3 * i0 + 2) i = σ (86 + 3 * i0 + 2) i) ∧ (∀ i, k ≤ i → i < eo M B b → σ' (86 + 3 * i0 + 1) i = md s B i ∧ σ' (86 + 3 * i0 + 2) i = -1) := by
  intro n
  induction n with
  | zero =>
    intro f k σ hf hk hbk hM h2 h4 hm
    obtain ⟨f, rfl⟩ := fu1 hf
    rw [fX2_fillBlock_L6, x_eo hM1 hB2 hM h2 hb]
    simp only [bd_s]
    have : eo M B b ≤ M := Nat.min_le_left _ _
    rw [if_pos (nI_le (show eo M B b ≤ k by omega) (by omega))]
    exact ⟨σ, rfl, fun _ _ => rfl, fun _ _ => ⟨rfl, rfl⟩, fun i h1 h2 => by omega⟩
  | succ n ih =>
    intro f k σ hf hk hbk hM h2 h4 hm
    obtain ⟨f, rfl⟩ := fu1 hf
    have he1 : eo M B b ≤ M := Nat.min_le_left _ _
    have he2 : eo M B b ≤ b * B + B := Nat.min_le_right _ _
    have hk64 : k < 64 := by omega
    rw [fX2_fillBlock_L6, x_eo hM1 hB2 hM h2 hb]
    simp only [bd_s]
    rw [if_neg (nI_ge (show k < eo M B b by omega) (by omega)), x_fil hB hB2 hk64 h2 h4 hbk (by omega)]
    simp only [bd_s]
    rw [gi hk64 (by decide), nI_clamp (show k < 2 ^ 31 by omega)]
    simp only [nm_s]
    rw [gj hk64 (by decide), nI_1]
    have hv : fil s B (σ (86 + 3 * i0 + 1)) k = md s B k := by
      rw [md_eq s hB, fil_congr s hB hm]
      unfold val
      rw [(kq (B := B) (b := b) hbk (by omega)).1, if_pos hl]
    rw [hv]
    have n10 : ∀ q, q < 82 → up2 (up2 σ (86 + 3 * i0 + 1) k (md s B k)) (86 + 3 * i0 + 2) k (-1) q = σ q := fun q hq => by rw [up2_ne (by omega), up2_ne (by omega)]
    have r1 : up2 (up2 σ (86 + 3 * i0 + 1) k (md s B k)) (86 + 3 * i0 + 2) k (-1) (86 + 3 * i0 + 1) = upd (σ (86 + 3 * i0 + 1)) k (md s B k) := by rw [up2_ne (by omega), up2_self]
    have r2 : up2 (up2 σ (86 + 3 * i0 + 1) k (md s B k)) (86 + 3 * i0 + 2) k (-1) (86 + 3 * i0 + 2) = upd (σ (86 + 3 * i0 + 2)) k (-1) := by rw [up2_self, up2_ne (by omega)]
    obtain ⟨σ', a1, a2, a3, a4⟩ := ih f (k + 1) (up2 (up2 σ (86 + 3 * i0 + 1) k (md s B k)) (86 + 3 * i0 + 2) k (-1)) (by omega) (by omega) (by omega) (by rw [n10 10 (by decide)]; exact hM) (by rw [n10 12 (by decide)]; exact h2) (by rw [n10 12 (by decide)]; exact h4) (fun i hi => by
      rw [r1]
      by_cases h : i = k
      · rw [h, pk_us]
      · rw [pk_un h]
        exact hm i (by omega))
    refine ⟨σ', a1, fun q hq => ?_, fun i hi => ?_, fun i hi1 hi2 => ?_⟩
    · have hq' := hq
      unfold dR at hq'
      rw [a2 q hq, up2_ne (by omega), up2_ne (by omega)]
    · obtain ⟨b1, b2⟩ := a3 i (by omega)
      rw [b1, b2, r1, r2, pk_un (by omega), pk_un (by omega)]
      exact ⟨rfl, rfl⟩
    · by_cases h : i = k
      · subst h
        obtain ⟨b1, b2⟩ := a3 i (by omega)
        rw [b1, b2, r1, r2, pk_us, pk_us]
        exact ⟨rfl, rfl⟩
      · exact a4 i (by omega) hi2
theorem Ba.fr {σ σ' : Sg} {s : Nat → Int32} {M B : Nat} (h : Ba σ 10 s M B) (hf : ∀ q, q < 82 → σ' q = σ q) : Ba σ' 10 s M B := by
  unfold Ba at h ⊢
  rw [hf 10 (by decide), hf (10 + 1) (by decide), hf (10 + 2) (by decide)]
  exact h
theorem Co.fr {σ σ' : Sg} {s : Nat → Int32} {M B : Nat} (h : Co σ 10 s M B) (hf : ∀ q, q < 82 → σ' q = σ q) : Co σ' 10 s M B := by
  unfold Co at h ⊢
  rw [hf 10 (by decide), hf (10 + 3) (by decide), hf (10 + 4) (by decide), hf (10 + 5) (by decide), hf (10 + 6) (by decide), hf (10 + 7) (by decide)]
  exact h
theorem x_decL {s : Nat → Int32} {i0 M B : Nat} (hM1 : M ≤ 64) (hB : 2 ≤ B) (hB2 : B ≤ 16) (hc : CdS s M B) : ∀ n f b (σ : Sg), n < f → b + n = NB M B → Ba σ 10 s M B → Co σ 10 s M B → (∀ i, i < b * B → i < M → σ (86 + 3 * i0 + 1) i = md s B i ∧ σ (86 + 3 * i0 + 2) i = nd s B i) → ∃ σ', fX2_decode_L10 i0 0 f (nI b) σ = some σ' ∧ (∀ q, ¬ dR i0 q → q ≠ 86 + 3 * i0 → σ' q = σ q) ∧ (∀ i, i < M → σ' (86 + 3 * i0 + 1) i = md s B i ∧ σ' (86 + 3 * i0 + 2) i = nd s B i) ∧ σ' (86 + 3 * i0) 3 = 1 := by
  intro n
  induction n with
  | zero =>
    intro f b σ hf hb ha ho hm
    obtain ⟨f, rfl⟩ := fu1 hf
    have hle := nb_le hB hM1
    rw [fX2_decode_L10]
    simp only [Nat.mul_zero, Nat.add_zero, Nat.reduceAdd]
    rw [show σ 10 3 = nI (NB M B) from ho.1, if_pos (nI_le (show NB M B ≤ b by omega) (by omega))]
    simp only [nm_s]
    refine ⟨_, rfl, fun q h1 h2 => up2_ne h2, fun i hi => ?_, by rw [up2_self]; rfl⟩
    rw [up2_ne (by omega), up2_ne (by omega)]
    refine hm i ?_ hi
    have hq : ¬ b * B < M := fun q => by
      have := (nb_lt (M := M) (B := B) (b := b) (by omega)).mpr q
      omega
    omega
  | succ n ih =>
    intro f b σ hf hb ha ho hm
    obtain ⟨f, rfl⟩ := fu1 hf
    have hle := nb_le hB hM1
    have hbM := (nb_lt (M := M) (B := B) (b := b) (by omega)).mp (by omega)
    have he1 : eo M B b ≤ M := Nat.min_le_left _ _
    have he2 : eo M B b ≤ b * B + B := Nat.min_le_right _ _
    have he3 : ∀ i, i < b * B + B → i < M → i < eo M B b := fun i h1 h2 => by unfold eo; omega
    have go : ∀ σ1 : Sg, (∀ q, ¬ dR i0 q → σ1 q = σ q) → (∀ i, i < b * B + B → i < M → σ1 (86 + 3 * i0 + 1) i = md s B i ∧ σ1 (86 + 3 * i0 + 2) i = nd s B i) → ∃ σ', fX2_decode_L10 i0 0 f (nI (b + 1)) σ1 = some σ' ∧ (∀ q, ¬ dR i0 q → q ≠ 86 + 3 * i0 → σ' q = σ q) ∧ (∀ i, i < M → σ' (86 + 3 * i0 + 1) i = md s B i ∧ σ' (86 + 3 * i0 + 2) i = nd s B i) ∧ σ' (86 + 3 * i0) 3 = 1 := by
      intro σ1 g1 g2
      obtain ⟨σ', d1, d2, d3, d4⟩ := ih f (b + 1) σ1 (by omega) (by omega) (ha.fr (fun q hq => g1 q (dR.n hq))) (ho.fr (fun q hq => g1 q (dR.n hq))) (fun i h1 h2 => g2 i (by rw [Nat.succ_mul] at h1; exact h1) h2)
      exact ⟨σ', d1, fun q h1 h2 => by rw [d2 q h1 h2, g1 q h1], d3, d4⟩
    rw [fX2_decode_L10]
    simp only [Nat.mul_zero, Nat.add_zero, Nat.reduceAdd]
    rw [show σ 10 3 = nI (NB M B) from ho.1, if_neg (nI_ge (show b < NB M B by omega) (by omega)), gi (show b < 32 by omega) (by decide), nI_clamp (show b < 2 ^ 31 by omega), show σ 15 b = s (263 + b) from (ho.2.1 b hbM).2.2]
    have h01 := (hc.1 b hbM).2.2
    by_cases h : s (263 + b) = 0
    · rw [if_pos h]
      obtain ⟨σ1, e1, e2, e3, e4⟩ := x_db (i0 := i0) hM1 hB hB2 hbM hc ha ho
      rw [e1]
      simp only [bd_s, nm_s, nI_1]
      refine go σ1 e2 (fun i h1 h2 => ?_)
      rcases Nat.lt_or_ge i (b * B) with q | q
      · obtain ⟨f1, f2⟩ := e3 i (Or.inl q)
        rw [f1, f2]
        exact hm i q h2
      · obtain ⟨f1, f2⟩ := e4 i q (he3 i h1 h2)
        have hq := kq (B := B) (b := b) q h1
        rw [f1, f2, md_eq s hB]
        unfold val nd
        rw [hq.1, h]
        exact ⟨rfl, rfl⟩
    · rw [if_neg h]
      have hl : s (263 + b) = 1 := h01.resolve_left h
      have hfb : ∃ σ', fX2_fillBlock i0 0 (nI b) σ = some σ' ∧ (∀ q, ¬ dR i0 q → σ' q = σ q) ∧ (∀ i, i < b * B ∨ eo M B b ≤ i → σ' (86 + 3 * i0 + 1) i = σ (86 + 3 * i0 + 1) i ∧ σ' (86 + 3 * i0 + 2) i = σ (86 + 3 * i0 + 2) i) ∧ (∀ i, b * B ≤ i → i < eo M B b → σ' (86 + 3 * i0 + 1) i = md s B i ∧ σ' (86 + 3 * i0 + 2) i = -1) := by
        unfold fX2_fillBlock
        rw [x_so ha.2.1]
        simp only [bd_s]
        exact x_fbL hM1 hB hB2 hbM hl (eo M B b - b * B) 80 (b * B) σ (by omega) (by unfold eo; omega) (Nat.le_refl _) ha.1 ha.2.1 ha.2.2.2.1 (fun i hi => (hm i hi (by omega)).1)
      obtain ⟨σ1, e1, e2, e3, e4⟩ := hfb
      rw [e1]
      simp only [bd_s, nm_s, nI_1]
      refine go σ1 e2 (fun i h1 h2 => ?_)
      rcases Nat.lt_or_ge i (b * B) with q | q
      · obtain ⟨f1, f2⟩ := e3 i (Or.inl q)
        rw [f1, f2]
        exact hm i q h2
      · obtain ⟨f1, f2⟩ := e4 i q (he3 i h1 h2)
        have hq := kq (B := B) (b := b) q h1
        rw [f1, f2]
        unfold nd
        rw [hq.1, if_pos hl]
        exact ⟨rfl, rfl⟩
theorem x_dec {s : Nat → Int32} {σ : Sg} {i0 M B : Nat} (hM1 : M ≤ 64) (hB : 2 ≤ B) (hB2 : B ≤ 16) (hc : CdS s M B) (ha : Ba σ 10 s M B) (ho : Co σ 10 s M B) (h0 : σ (86 + 3 * i0) 3 = 0) : ∃ σ', fX2_decode i0 0 σ = some σ' ∧ (∀ q, ¬ dR i0 q → q ≠ 86 + 3 * i0 → σ' q = σ q) ∧ (∀ i, i < M → σ' (86 + 3 * i0 + 1) i = md s B i ∧ σ' (86 + 3 * i0 + 2) i = nd s B i) ∧ σ' (86 + 3 * i0) 3 = 1 := by
  have hle := nb_le hB hM1
  unfold fX2_decode
  rw [if_pos h0, n0]
  exact x_decL hM1 hB hB2 hc (NB M B) 80 0 σ (by omega) (by omega) ha ho (fun i hi => by omega)
/-- decode, whether it is done already or not -/
def DOk (σ : Sg) (s : Nat → Int32) (i0 M B : Nat) : Prop := ∀ i, i < M → σ (86 + 3 * i0 + 1) i = md s B i ∧ σ (86 + 3 * i0 + 2) i = nd s B i
theorem x_dec2 {s : Nat → Int32} {σ : Sg} {i0 M B : Nat} (hM1 : M ≤ 64) (hB : 2 ≤ B) (hB2 : B ≤ 16) (hc : CdS s M B) (ha : Ba σ 10 s M B) (ho : Co σ 10 s M B) (h0 : σ (86 + 3 * i0) 3 = 0 ∨ (σ (86 + 3 * i0) 3 = 1 ∧ DOk σ s i0 M B)) : ∃ σ', fX2_decode i0 0 σ = some σ' ∧ (∀ q, ¬ dR i0 q → q ≠ 86 + 3 * i0 → σ' q = σ q) ∧ DOk σ' s i0 M B ∧ σ' (86 + 3 * i0) 3 = 1 := by
  rcases h0 with h0 | ⟨h0, h1⟩
  · exact x_dec hM1 hB hB2 hc ha ho h0
  · refine ⟨σ, ?_, fun _ _ _ => rfl, h1, h0⟩
    unfold fX2_decode
    rw [if_neg (by rw [h0]; decide)]
