/-! PURE: reading a block as a text, both sides -/
/-- what the model's reading leaves -/
def Fm (μ0 μ : Sg) : Prop := (∀ q, q ≠ 10 → q ≠ 20 → μ q = μ0 q) ∧ ∀ k, k ≠ 13 → k ≠ 14 → k ≠ 15 → k ≠ 16 → k ≠ 18 → μ 20 k = μ0 20 k
theorem Fm.rf (μ : Sg) : Fm μ μ := ⟨fun _ _ _ => rfl, fun _ _ _ _ _ _ => rfl⟩
theorem Fm.tr {a b c : Sg} (h : Fm a b) (h' : Fm b c) : Fm a c := ⟨fun q h1 h2 => by rw [h'.1 q h1 h2, h.1 q h1 h2], fun k h1 h2 h3 h4 h5 => by rw [h'.2 k h1 h2 h3 h4 h5, h.2 k h1 h2 h3 h4 h5]⟩
def Fx (σ0 σ : Sg) : Prop := (∀ q, q ≠ 5 → q ≠ 7 → σ q = σ0 q) ∧ σ 5 1 = σ0 5 1
theorem Fx.rf (σ : Sg) : Fx σ σ := ⟨fun _ _ _ => rfl, rfl⟩
theorem Fx.tr {a b c : Sg} (h : Fx a b) (h' : Fx b c) : Fx a c := ⟨fun q h1 h2 => by rw [h'.1 q h1 h2, h.1 q h1 h2], h'.2.trans h.2⟩
/-- where both stand: the same texts, the place p, nothing wrong so far -/
def Pl (σ μ : Sg) (L p : Nat) : Prop := L ≤ 40 ∧ p ≤ L ∧ σ 5 1 = nI L ∧ μ 20 7 = nI L ∧ (∀ k, k < L → σ 6 k = μ 4 k) ∧ μ 20 13 = nI p ∧ μ 20 14 = 0
theorem Pl.fr {σ μ σ' μ' : Sg} {L p p' : Nat} (h : Pl σ μ L p) (hx : Fx σ σ') (hm : Fm μ μ') (hp : p' ≤ L) (h13 : μ' 20 13 = nI p') (h14 : μ' 20 14 = 0) : Pl σ' μ' L p' := by
  obtain ⟨a1, a2, a3, a4, a5, a6, a7⟩ := h
  refine ⟨a1, hp, hx.2.trans a3, (hm.2 7 (by decide) (by decide) (by decide) (by decide) (by decide)).trans a4, fun k hk => ?_, h13, h14⟩
  rw [hx.1 6 (by decide) (by decide), hm.1 4 (by decide) (by decide)]
  exact a5 k hk
/-- wrong at p -/
def Wr (μ : Sg) (p : Nat) : Prop := μ 20 14 = 1 ∧ μ 20 13 = nI p
theorem x_rd {σ : Sg} {L p f : Nat} (hL : L ≤ 40) (h1 : σ 5 1 = nI L) (hp : p < L) : fX0_read_L21 (f + 1) (nI p) σ = bd2 (fX0_readsOn (σ 6 p) σ) fun r4 s5 => if r4 = 0 then some (nI p, s5) else fX0_read_L21 f (nI (p + 1)) s5 := by
  rw [fX0_read_L21, h1, if_neg (nI_ge hp (by omega)), gi (show p < 40 by omega) (by decide), nI_clamp (show p < 2 ^ 31 by omega)]
  simp only [nm_s, nI_1]
theorem x_rdE {σ : Sg} {L f : Nat} (hL : L ≤ 40) (h1 : σ 5 1 = nI L) : fX0_read_L21 (f + 1) (nI L) σ = some (nI L, σ) := by
  rw [fX0_read_L21, h1, if_pos (nI_le (Nat.le_refl L) (by omega))]
/-- a character is a digit, or none -/
theorem digit (c : Int32) : (∃ x, x < 10 ∧ c = nI (48 + x) ∧ ¬ c < 48 ∧ ¬ 57 < c) ∨ (¬ (48 ≤ c ∧ c ≤ 57) ∧ (c < 48 ∨ (¬ c < 48 ∧ 57 < c))) := by
  by_cases h : (48 : Int32) ≤ c ∧ c ≤ 57
  · obtain ⟨j, j1, j2, rfl⟩ := rng 48 57 (by decide) (by decide) h
    exact Or.inl ⟨j - 48, by omega, congrArg nI (by omega), nlt.mpr h.1, nlt.mpr h.2⟩
  · refine Or.inr ⟨h, ?_⟩
    rcases th_in h with q | q
    · exact Or.inl q
    · by_cases q0 : c < 48
      · exact Or.inl q0
      · exact Or.inr ⟨q0, nle.mp q⟩
def dgt (σ : Sg) (d : Nat) : Sg := up2 (up2 σ 5 9 (nI d)) 5 8 1
theorem dgt_5 (σ : Sg) (d k : Nat) (h8 : k ≠ 8) (h9 : k ≠ 9) : dgt σ d 5 k = σ 5 k := by
  unfold dgt
  rw [up2_self, pk_un h8, up2_self, pk_un h9]
theorem dgt_8 (σ : Sg) (d : Nat) : dgt σ d 5 8 = 1 := by
  unfold dgt
  rw [up2_self, pk_us]
theorem dgt_9 (σ : Sg) (d : Nat) : dgt σ d 5 9 = nI d := by
  unfold dgt
  rw [up2_self, pk_un (by decide), up2_self, pk_us]
theorem dgt_q (σ : Sg) (d : Nat) {q : Nat} (h : q ≠ 5) : dgt σ d q = σ q := by
  unfold dgt
  rw [up2_ne h, up2_ne h]
theorem dgt_x (σ : Sg) (d : Nat) : Fx σ (dgt σ d) := ⟨fun q h _ => dgt_q σ d h, dgt_5 σ d 1 (by decide) (by decide)⟩
theorem lng {d x : Nat} (hx : x < 10) (hd : d ≤ 2048) : 10 * nI d + nI (48 + x) - 48 = nI (10 * d + x) := by
  rw [show (10 : Int32) * nI d = nI (10 * d) from pk_mul 10 d, nI_add, show nI (10 * d + (48 + x)) - 48 = nI (10 * d + (48 + x) - 48) from pk_sub (b := 48) (by omega)]
  exact congrArg nI (by omega)
theorem x_dg0 {c : Int32} {m : Int32} {σ : Sg} (h : c < 48 ∨ (¬ c < 48 ∧ 57 < c)) : fX0_readsDigit c m σ = some (0, σ) := by
  have hb : ∀ k0, fX0_readsDigit_b19 c m k0 σ = some (0, σ) := by
    intro k0
    unfold fX0_readsDigit_b19
    rcases h with h | ⟨h, h2⟩
    · rw [if_pos h]
    · rw [if_neg h, if_pos h2]
  unfold fX0_readsDigit fX0_readsDigit_b18
  rw [hb, hb]
  split
  · rfl
  · split <;> rfl
theorem x_dg1 {x d m : Nat} {σ : Sg} (hx : x < 10) (hd : d ≤ 2048) (hm : m ≤ 2048) (h9 : σ 5 9 = nI d) (h8 : (σ 5 8 = 0 ∧ d = 0) ∨ (σ 5 8 = 1 ∧ d ≠ 0)) : fX0_readsDigit (nI (48 + x)) (nI m) σ = if 10 * d + x ≤ m then some (1, dgt σ (10 * d + x)) else some (0, σ) := by
  have hb : fX0_readsDigit_b19 (nI (48 + x)) (nI m) 0 σ = if 10 * d + x ≤ m then some (1, dgt σ (10 * d + x)) else some (0, σ) := by
    unfold fX0_readsDigit_b19
    rw [if_neg (show ¬ nI (48 + x) < 48 from nI_nlt (b := 48) (by omega) (by omega)), if_neg (show ¬ (57 : Int32) < nI (48 + x) from nI_nlt (a := 57) (by omega) (by decide)), if_pos rfl, nm_s, h9, lng hx hd]
    by_cases q : 10 * d + x ≤ m
    · rw [if_pos (nI_le q (by omega)), if_pos q, nm_s, nm_s]
      rfl
    · rw [if_neg (nI_ge (by omega) (by omega)), if_neg q]
  unfold fX0_readsDigit fX0_readsDigit_b18
  rcases h8 with ⟨h8, hd0⟩ | ⟨h8, hd0⟩
  · rw [h8, if_pos rfl]
    exact hb
  · rw [h8, if_neg (by decide), h9, if_neg (nI_ne0 (by omega) (by omega))]
    exact hb
theorem x_dgz {x m : Nat} {σ : Sg} (hx : x < 10) (h9 : σ 5 9 = 0) (h8 : σ 5 8 = 1) : fX0_readsDigit (nI (48 + x)) (nI m) σ = some (0, σ) := by
  unfold fX0_readsDigit fX0_readsDigit_b19
  rw [h8, if_neg (by decide), h9, if_pos rfl, if_neg (show ¬ nI (48 + x) < 48 from nI_nlt (b := 48) (by omega) (by omega)), if_neg (show ¬ (57 : Int32) < nI (48 + x) from nI_nlt (a := 57) (by omega) (by decide)), if_neg (by decide)]
theorem m_nx {μ : Sg} {L p : Nat} {σ : Sg} (h : Pl σ μ L p) (a b : Int32) : fX7_isNext a b μ = some (if p < L ∧ a ≤ σ 6 p ∧ σ 6 p ≤ b then 1 else 0) := by
  obtain ⟨a1, a2, a3, a4, a5, a6, a7⟩ := h
  unfold fX7_isNext
  rw [a7, if_pos rfl, a4, a6]
  by_cases hp : p < L
  · rw [if_neg (nI_ge hp (by omega)), gi (show p < 40 by omega) (by decide), nI_clamp (show p < 2 ^ 31 by omega), m_in, ← a5 p hp, bd_s]
    by_cases q : a ≤ σ 6 p ∧ σ 6 p ≤ b
    · rw [if_pos q, if_neg (by decide), if_pos ⟨hp, q⟩]
    · rw [if_neg q, if_pos rfl, if_neg (fun z => q z.2)]
  · rw [if_pos (nI_le (by omega) (by omega)), if_neg (fun z => hp z.1)]
theorem m_tk1 {μ : Sg} {L p : Nat} {σ : Sg} (h : Pl σ μ L p) {a b : Int32} (hp : p < L) (hin : a ≤ σ 6 p ∧ σ 6 p ≤ b) : ∃ μ', fX7_takes a b μ = some (σ 6 p - a, μ') ∧ Fm μ μ' ∧ (∀ q, q ≠ 20 → μ' q = μ q) ∧ (∀ k, k ≠ 13 → k ≠ 14 → μ' 20 k = μ 20 k) ∧ μ' 20 13 = nI (p + 1) ∧ μ' 20 14 = 0 := by
  obtain ⟨a1, a2, a3, a4, a5, a6, a7⟩ := h
  have hq : ∀ q, q ≠ 20 → up2 (up2 μ 20 14 0) 20 13 (nI (p + 1)) q = μ q := fun q hq => by rw [up2_ne hq, up2_ne hq]
  have hk : ∀ k, k ≠ 13 → k ≠ 14 → up2 (up2 μ 20 14 0) 20 13 (nI (p + 1)) 20 k = μ 20 k := fun k h1 h2 => by rw [up2_self, pk_un h1, up2_self, pk_un h2]
  refine ⟨up2 (up2 μ 20 14 0) 20 13 (nI (p + 1)), ?_, ⟨fun q _ h2 => hq q h2, fun k h1 h2 _ _ _ => hk k h1 h2⟩, hq, hk, by rw [up2_self, pk_us], by rw [up2_self, pk_un (by decide), up2_self, pk_us]⟩
  unfold fX7_takes fX7_takes_b24 fX7_takes_b47
  rw [a4, a6, if_neg (nI_ge hp (by omega)), gi (show p < 40 by omega) (by decide), nI_clamp (show p < 2 ^ 31 by omega), a7, if_pos rfl, m_in, ← a5 p hp, if_pos hin, bd_s, if_neg (by decide), gd_of (Or.inl rfl), nm_s, up2_self, pk_us, if_pos rfl, pk_un (show (13 : Nat) ≠ 14 by decide), a6, nI_1, nm_s]
theorem m_tk0 {μ : Sg} {L p : Nat} {σ : Sg} (h : Pl σ μ L p) {a b : Int32} (ha : 0 < a) (hin : ¬ (p < L ∧ a ≤ σ 6 p ∧ σ 6 p ≤ b)) : ∃ r μ', fX7_takes a b μ = some (r, μ') ∧ Fm μ μ' ∧ (∀ k, k ≠ 13 → k ≠ 14 → μ' 20 k = μ 20 k) ∧ Wr μ' p := by
  obtain ⟨a1, a2, a3, a4, a5, a6, a7⟩ := h
  have hk : ∀ k, k ≠ 13 → k ≠ 14 → up2 (up2 μ 20 14 1) 20 13 (nI p + 0) 20 k = μ 20 k := fun k h1 h2 => by rw [up2_self, pk_un h1, up2_self, pk_un h2]
  have hb : ∀ c, ¬ (a ≤ c ∧ c ≤ b) → fX7_takes_b24 a b c μ = some (c - a, up2 (up2 μ 20 14 1) 20 13 (nI p + 0)) := by
    intro c hc
    unfold fX7_takes_b24 fX7_takes_b42 fX7_takes_b47
    rw [a7, if_pos rfl, m_in, if_neg hc, bd_s, if_pos rfl, gd_of (Or.inr rfl), nm_s, up2_self, pk_us, if_neg (by decide), pk_un (show (13 : Nat) ≠ 14 by decide), a6, nm_s]
  have hw : Fm μ (up2 (up2 μ 20 14 1) 20 13 (nI p + 0)) ∧ (∀ k, k ≠ 13 → k ≠ 14 → up2 (up2 μ 20 14 1) 20 13 (nI p + 0) 20 k = μ 20 k) ∧ Wr (up2 (up2 μ 20 14 1) 20 13 (nI p + 0)) p := by
    refine ⟨⟨fun q _ h2 => by rw [up2_ne h2, up2_ne h2], fun k h1 h2 _ _ _ => hk k h1 h2⟩, hk, ?_, ?_⟩
    · rw [up2_self, pk_un (by decide), up2_self, pk_us]
    · rw [up2_self, pk_us, Int32.add_zero]
  unfold fX7_takes
  rw [a4, a6]
  by_cases hp : p < L
  · rw [if_neg (nI_ge hp (by omega)), gi (show p < 40 by omega) (by decide), nI_clamp (show p < 2 ^ 31 by omega), ← a5 p hp, hb _ (fun z => hin ⟨hp, z⟩)]
    exact ⟨_, _, rfl, hw⟩
  · rw [if_pos (nI_le (by omega) (by omega)), hb 0 (fun z => by
      rw [Int32.lt_iff_toInt_lt] at ha
      have z1 := z.1
      rw [Int32.le_iff_toInt_le] at z1
      omega)]
    exact ⟨_, _, rfl, hw⟩
/-! once wrong, always wrong -/
theorem w_tk {μ : Sg} {p : Nat} (h : Wr μ p) (h7 : ∃ L, L ≤ 40 ∧ μ 20 7 = nI L ∧ p ≤ L) (a b : Int32) : ∃ r μ', fX7_takes a b μ = some (r, μ') ∧ Fm μ μ' ∧ (∀ k, k ≠ 13 → k ≠ 14 → μ' 20 k = μ 20 k) ∧ Wr μ' p := by
  obtain ⟨h1, h2⟩ := h
  obtain ⟨L, l1, l2, l3⟩ := h7
  have hk : ∀ k, k ≠ 13 → k ≠ 14 → up2 (up2 μ 20 14 1) 20 13 (nI p + 0) 20 k = μ 20 k := fun k h1 h2 => by rw [up2_self, pk_un h1, up2_self, pk_un h2]
  have hb : ∀ c, fX7_takes_b24 a b c μ = some (c - a, up2 (up2 μ 20 14 1) 20 13 (nI p + 0)) := by
    intro c
    unfold fX7_takes_b24 fX7_takes_b42 fX7_takes_b47
    rw [h1, if_neg (by decide), gd_of (Or.inr rfl), nm_s, up2_self, pk_us, if_neg (by decide), pk_un (show (13 : Nat) ≠ 14 by decide), h2, nm_s]
  have hw : Fm μ (up2 (up2 μ 20 14 1) 20 13 (nI p + 0)) ∧ (∀ k, k ≠ 13 → k ≠ 14 → up2 (up2 μ 20 14 1) 20 13 (nI p + 0) 20 k = μ 20 k) ∧ Wr (up2 (up2 μ 20 14 1) 20 13 (nI p + 0)) p := by
    refine ⟨⟨fun q _ h2 => by rw [up2_ne h2, up2_ne h2], fun k h1 h2 _ _ _ => hk k h1 h2⟩, hk, ?_, ?_⟩
    · rw [up2_self, pk_un (by decide), up2_self, pk_us]
    · rw [up2_self, pk_us, Int32.add_zero]
  unfold fX7_takes
  rw [l2, h2]
  by_cases hp : p < L
  · rw [if_neg (nI_ge hp (by omega)), gi (show p < 40 by omega) (by decide), hb]
    exact ⟨_, _, rfl, hw⟩
  · rw [if_pos (nI_le (by omega) (by omega)), hb]
    exact ⟨_, _, rfl, hw⟩
theorem w_nx {μ : Sg} {p : Nat} (h : Wr μ p) (a b : Int32) : fX7_isNext a b μ = some 0 := by
  unfold fX7_isNext
  rw [h.1, if_neg (by decide)]
theorem b65_s (m v : Int32) (K : Int32 → Int32 → Sg → Option (Int32 × Sg)) (μ : Sg) : fX7_takesNumber_b65 m K v μ = K v 0 μ := by
  unfold fX7_takesNumber_b65 fX7_takesNumber_b66
  rw [if_pos rfl]
theorem w_nL {μ : Sg} {p : Nat} (h : Wr μ p) (m v x : Int32) (f : Nat) : ∃ r, fX7_takesNumber_L24 m (f + 1 + 1) v x μ = some (r, μ) := by
  by_cases hx : x = 0
  · rw [fX7_takesNumber_L24, if_pos hx]
    exact ⟨_, rfl⟩
  · rw [fX7_takesNumber_L24, if_neg hx, w_nx h, bd_s, if_pos rfl]
    rw [b65_s, fX7_takesNumber_L24, if_pos rfl]
    exact ⟨_, rfl⟩
theorem w_num {μ : Sg} {p : Nat} (h : Wr μ p) (h7 : ∃ L, L ≤ 40 ∧ μ 20 7 = nI L ∧ p ≤ L) (a m : Int32) : ∃ r μ', fX7_takesNumber a m μ = some (r, μ') ∧ Fm μ μ' ∧ (∀ k, k ≠ 13 → k ≠ 14 → μ' 20 k = μ 20 k) ∧ Wr μ' p := by
  obtain ⟨r, μ', e1, e2, e3, e4⟩ := w_tk h h7 (48 + a) 57
  obtain ⟨F, hF⟩ : ∃ F, F + 1 + 1 = 80 := ⟨78, rfl⟩
  unfold fX7_takesNumber
  rw [e1, bd2_s, nm_s, ← hF]
  by_cases q : a + r ≤ 0
  · rw [if_pos q]
    obtain ⟨r', hr⟩ := w_nL e4 m (a + r) 0 F
    exact ⟨r', μ', hr, e2, e3, e4⟩
  · rw [if_neg q]
    obtain ⟨r', hr⟩ := w_nL e4 m (a + r) 1 F
    exact ⟨r', μ', hr, e2, e3, e4⟩
theorem w_all {μ : Sg} {p : Nat} (h : Wr μ p) (f : Nat) : fX7_readAll_L99 (f + 1) μ = some μ := by
  rw [fX7_readAll_L99, h.1, if_neg (by decide)]
/-- a number's further digits: both come to the place behind the last one that fits -/
theorem num_L {part term g : Int32} {m : Nat} (hm : m ≤ 2048) (ht : ∀ x, x < 10 → nI (48 + x) ≠ term) (step : ∀ (c : Int32) (σ : Sg), σ 5 6 = part → σ 5 7 = g → σ 5 8 = 1 → c ≠ term → ∀ r s, fX0_readsDigit c (nI m) σ = some (r, s) → (r = 0 ∨ r = 1) → fX0_readsOn c σ = some (r, s)) : ∀ n f fm p d (σ μ : Sg) (L : Nat), n < f → n + 1 < fm → p + n = L → Pl σ μ L p → σ 5 6 = part → σ 5 7 = g → σ 5 8 = 1 → σ 5 9 = nI d → d ≤ m → ∃ p' d' f' σ' μ', fX0_read_L21 f (nI p) σ = fX0_read_L21 f' (nI p') σ' ∧ L < f' + p' ∧ fX7_takesNumber_L24 (nI m) fm (nI d) (if d = 0 then 0 else 1) μ = some (nI d', μ') ∧ Pl σ' μ' L p' ∧ σ' 5 6 = part ∧ σ' 5 8 = 1 ∧ σ' 5 9 = nI d' ∧ d' ≤ m ∧ Fx σ σ' ∧ (∀ k, k ≠ 8 → k ≠ 9 → σ' 5 k = σ 5 k) ∧ σ' 7 = σ 7 ∧ Fm μ μ' ∧ (∀ q, q ≠ 20 → μ' q = μ q) ∧ (∀ k, k ≠ 13 → k ≠ 14 → μ' 20 k = μ 20 k) ∧ (p' < L → σ' 6 p' ≠ term → fX0_readsOn (σ' 6 p') σ' = some (0, σ')) := by
  intro n
  induction n with
  | zero =>
    intro f fm p d σ μ L hf hfm hn hP h6 h7 h8 h9 hd
    obtain ⟨fm, rfl⟩ := fu1 hfm
    obtain ⟨fm, rfl⟩ := fu1 (show 0 < fm by omega)
    refine ⟨p, d, f, σ, μ, rfl, by omega, ?_, hP, h6, h8, h9, hd, Fx.rf σ, fun _ _ _ => rfl, rfl, Fm.rf μ, fun _ _ => rfl, fun _ _ _ => rfl, fun q => by omega⟩
    rw [fX7_takesNumber_L24]
    by_cases h0 : d = 0
    · rw [if_pos h0, if_pos rfl]
    · rw [if_neg h0, if_neg (by decide), m_nx hP, if_neg (by omega), bd_s, if_pos rfl]
      rw [b65_s, fX7_takesNumber_L24, if_pos rfl]
  | succ n ih =>
    intro f fm p d σ μ L hf hfm hn hP h6 h7 h8 h9 hd
    obtain ⟨f, rfl⟩ := fu1 hf
    obtain ⟨fm, rfl⟩ := fu1 hfm
    obtain ⟨fm, rfl⟩ := fu1 (show 0 < fm by omega)
    have hP' := hP
    obtain ⟨a1, a2, a3, a4, a5, a6, a7⟩ := hP'
    have hp : p < L := by omega
    have stay : ∀ (_ : fX7_takesNumber_L24 (nI m) (fm + 1 + 1) (nI d) (if d = 0 then 0 else 1) μ = some (nI d, μ)) (_ : σ 6 p ≠ term → fX0_readsOn (σ 6 p) σ = some (0, σ)), ∃ p' d' f' σ' μ', fX0_read_L21 (f + 1) (nI p) σ = fX0_read_L21 f' (nI p') σ' ∧ L < f' + p' ∧ fX7_takesNumber_L24 (nI m) (fm + 1 + 1) (nI d) (if d = 0 then 0 else 1) μ = some (nI d', μ') ∧ Pl σ' μ' L p' ∧ σ' 5 6 = part ∧ σ' 5 8 = 1 ∧ σ' 5 9 = nI d' ∧ d' ≤ m ∧ Fx σ σ' ∧ (∀ k, k ≠ 8 → k ≠ 9 → σ' 5 k = σ 5 k) ∧ σ' 7 = σ 7 ∧ Fm μ μ' ∧ (∀ q, q ≠ 20 → μ' q = μ q) ∧ (∀ k, k ≠ 13 → k ≠ 14 → μ' 20 k = μ 20 k) ∧ (p' < L → σ' 6 p' ≠ term → fX0_readsOn (σ' 6 p') σ' = some (0, σ')) := by
      intro e1 e2
      exact ⟨p, d, f + 1, σ, μ, rfl, by omega, e1, hP, h6, h8, h9, hd, Fx.rf σ, fun _ _ _ => rfl, rfl, Fm.rf μ, fun _ _ => rfl, fun _ _ _ => rfl, fun _ => e2⟩
    by_cases h0 : d = 0
    · refine stay ?_ (fun hne => ?_)
      · rw [fX7_takesNumber_L24, if_pos h0, if_pos rfl]
      · refine step _ σ h6 h7 h8 hne 0 σ ?_ (Or.inl rfl)
        rcases digit (σ 6 p) with ⟨x, hx, ex, _, _⟩ | ⟨_, q⟩
        · rw [ex]
          exact x_dgz hx (by rw [h9, h0]; rfl) h8
        · exact x_dg0 q
    · have hend : fX7_takesNumber_b65 (nI m) (fun x3 x4 μ => fX7_takesNumber_L24 (nI m) (fm + 1) x3 x4 μ) (nI d) μ = some (nI d, μ) := by
        rw [b65_s, fX7_takesNumber_L24, if_pos rfl]
      rcases digit (σ 6 p) with ⟨x, hx, ex, _, _⟩ | ⟨q1, q⟩
      · have hin : (48 : Int32) ≤ σ 6 p ∧ σ 6 p ≤ 57 := by
          rw [ex]
          exact ⟨nI_le (a := 48) (by omega) (by omega), nI_le (b := 57) (by omega) (by decide)⟩
        have hsd := x_dg1 (σ := σ) (m := m) hx (show d ≤ 2048 by omega) hm h9 (Or.inr ⟨h8, h0⟩)
        by_cases hle : 10 * d + x ≤ m
        · rw [if_pos hle, ← ex] at hsd
          have hon : fX0_readsOn (σ 6 p) σ = some (1, dgt σ (10 * d + x)) := step _ σ h6 h7 h8 (by rw [ex]; exact ht x hx) 1 _ hsd (Or.inr rfl)
          obtain ⟨μ1, t1, t2, t3, t4, t5, t6⟩ := m_tk1 hP hp hin
          have hP1 : Pl (dgt σ (10 * d + x)) μ1 L (p + 1) := hP.fr (dgt_x σ _) t2 (by omega) t5 t6
          obtain ⟨p', d', f', σ', μ', c1, c2, c3, c4, c5, c6, c7, c8, c9, c10, c11, c12, c13, c14, c15⟩ := ih f (fm + 1) (p + 1) (10 * d + x) (dgt σ (10 * d + x)) μ1 L (by omega) (by omega) (by omega) hP1 (by rw [dgt_5 _ _ _ (by decide) (by decide)]; exact h6) (by rw [dgt_5 _ _ _ (by decide) (by decide)]; exact h7) (dgt_8 _ _) (dgt_9 _ _) hle
          rw [if_neg (show ¬ 10 * d + x = 0 by omega)] at c3
          refine ⟨p', d', f', σ', μ', ?_, c2, ?_, c4, c5, c6, c7, c8, (dgt_x σ _).tr c9, fun k k8 k9 => by rw [c10 k k8 k9, dgt_5 _ _ _ k8 k9], by rw [c11, dgt_q _ _ (by decide)], t2.tr c12, fun q hq => by rw [c13 q hq, t3 q hq], fun k k1 k2 => by rw [c14 k k1 k2, t4 k k1 k2], c15⟩
          · rw [x_rd a1 a3 hp, hon, bd2_s, if_neg (by decide)]
            exact c1
          · rw [fX7_takesNumber_L24, if_neg h0, if_neg (by decide), m_nx hP, if_pos ⟨hp, hin⟩, bd_s, if_neg (by decide), a6, gi (show p < 40 by omega) (by decide), nI_clamp (show p < 2 ^ 31 by omega), ← a5 p hp, ex, lng hx (by omega), if_neg (nI_nlt hle (by omega))]
            unfold fX7_takesNumber_b66
            rw [if_neg (by decide), t1, bd2_s, nm_s, ex, show nI (48 + x) - 48 = nI (48 + x - 48) from pk_sub (b := 48) (by omega), show (10 : Int32) * nI d = nI (10 * d) from pk_mul 10 d, nI_add, show 10 * d + (48 + x - 48) = 10 * d + x by omega]
            exact c3
        · rw [if_neg hle, ← ex] at hsd
          refine stay ?_ (fun hne => step _ σ h6 h7 h8 hne 0 σ hsd (Or.inl rfl))
          rw [fX7_takesNumber_L24, if_neg h0, if_neg (by decide), m_nx hP, if_pos ⟨hp, hin⟩, bd_s, if_neg (by decide), a6, gi (show p < 40 by omega) (by decide), nI_clamp (show p < 2 ^ 31 by omega), ← a5 p hp, ex, lng hx (by omega), if_pos (nI_lt (by omega) (by omega))]
          exact hend
      · refine stay ?_ (fun hne => step _ σ h6 h7 h8 hne 0 σ (x_dg0 q) (Or.inl rfl))
        rw [fX7_takesNumber_L24, if_neg h0, if_neg (by decide), m_nx hP, if_neg (fun z => q1 z.2), bd_s, if_pos rfl]
        exact hend
/-- a number from its first digit on -/
theorem num_0 {part term g : Int32} {m lo : Nat} (hm : m ≤ 2048) (hm9 : 9 ≤ m) (hlo : lo < 10) (ht : ∀ x, x < 10 → nI (48 + x) ≠ term) (step : ∀ (c : Int32) (σ : Sg), σ 5 6 = part → σ 5 7 = g → σ 5 8 = 1 → c ≠ term → ∀ r s, fX0_readsDigit c (nI m) σ = some (r, s) → (r = 0 ∨ r = 1) → fX0_readsOn c σ = some (r, s)) {f p L : Nat} {σ μ : Sg} (hf : L < f + p) (hP : Pl σ μ L p) (h6 : σ 5 6 = part) (h7 : σ 5 7 = g) (h9 : σ 5 9 = 0) (first1 : ∀ x, x < 10 → lo ≤ x → p < L → σ 6 p = nI (48 + x) → fX0_readsOn (σ 6 p) σ = some (1, dgt σ x)) (first0 : p < L → (∀ x, x < 10 → lo ≤ x → σ 6 p ≠ nI (48 + x)) → fX0_readsOn (σ 6 p) σ = some (0, σ)) : (∃ r μ' σ' p', fX7_takesNumber (nI lo) (nI m) μ = some (r, μ') ∧ Wr μ' p' ∧ p' = p ∧ Fm μ μ' ∧ (∀ k, k ≠ 13 → k ≠ 14 → μ' 20 k = μ 20 k) ∧ fX0_read_L21 f (nI p) σ = some (nI p, σ') ∧ σ' = σ) ∨ (∃ p' d' f' σ' μ', fX0_read_L21 f (nI p) σ = fX0_read_L21 f' (nI p') σ' ∧ L < f' + p' ∧ fX7_takesNumber (nI lo) (nI m) μ = some (nI d', μ') ∧ Pl σ' μ' L p' ∧ σ' 5 6 = part ∧ σ' 5 8 = 1 ∧ σ' 5 9 = nI d' ∧ d' ≤ m ∧ Fx σ σ' ∧ (∀ k, k ≠ 8 → k ≠ 9 → σ' 5 k = σ 5 k) ∧ σ' 7 = σ 7 ∧ Fm μ μ' ∧ (∀ q, q ≠ 20 → μ' q = μ q) ∧ (∀ k, k ≠ 13 → k ≠ 14 → μ' 20 k = μ 20 k) ∧ (p' < L → σ' 6 p' ≠ term → fX0_readsOn (σ' 6 p') σ' = some (0, σ'))) := by
  have hP' := hP
  obtain ⟨a1, a2, a3, a4, a5, a6, a7⟩ := hP'
  have e48 : (48 : Int32) + nI lo = nI (48 + lo) := nI_add 48 lo
  have hpos : (0 : Int32) < nI (48 + lo) := nI_lt (a := 0) (by omega) (by omega)
  obtain ⟨F, hF⟩ : ∃ F, F + 1 + 1 = 80 := ⟨78, rfl⟩
  by_cases hin : p < L ∧ nI (48 + lo) ≤ σ 6 p ∧ σ 6 p ≤ 57
  · obtain ⟨hp, hin2⟩ := hin
    obtain ⟨j, j1, j2, ej⟩ := rng (48 + lo) 57 (nN _ (by omega)) (by decide) hin2
    obtain ⟨x, rfl⟩ : ∃ x, j = 48 + x := ⟨j - 48, by omega⟩
    obtain ⟨f, rfl⟩ := fu1 (show 0 < f by omega)
    obtain ⟨μ1, t1, t2, t3, t4, t5, t6⟩ := m_tk1 hP hp hin2
    have hon := first1 x (by omega) (by omega) hp ej
    have hP1 : Pl (dgt σ x) μ1 L (p + 1) := hP.fr (dgt_x σ _) t2 (by omega) t5 t6
    obtain ⟨p', d', f', σ', μ', c1, c2, c3, c4, c5, c6, c7, c8, c9, c10, c11, c12, c13, c14, c15⟩ := num_L hm ht step (L - (p + 1)) f 80 (p + 1) x (dgt σ x) μ1 L (by omega) (by omega) (by omega) hP1 (by rw [dgt_5 _ _ _ (by decide) (by decide)]; exact h6) (by rw [dgt_5 _ _ _ (by decide) (by decide)]; exact h7) (dgt_8 _ _) (dgt_9 _ _) (by omega)
    refine Or.inr ⟨p', d', f', σ', μ', ?_, c2, ?_, c4, c5, c6, c7, c8, (dgt_x σ _).tr c9, fun k k8 k9 => by rw [c10 k k8 k9, dgt_5 _ _ _ k8 k9], by rw [c11, dgt_q _ _ (by decide)], t2.tr c12, fun q hq => by rw [c13 q hq, t3 q hq], fun k k1 k2 => by rw [c14 k k1 k2, t4 k k1 k2], c15⟩
    · rw [x_rd a1 a3 hp, hon, bd2_s, if_neg (by decide)]
      exact c1
    · unfold fX7_takesNumber
      rw [e48, t1, bd2_s, nm_s, ej, pk_sub (show 48 + lo ≤ 48 + x by omega), nI_add, show lo + (48 + x - (48 + lo)) = x by omega]
      by_cases hx0 : x = 0
      · rw [if_pos hx0] at c3
        rw [hx0, if_pos (show nI 0 ≤ 0 by decide)]
        rw [hx0] at c3
        exact c3
      · rw [if_neg hx0] at c3
        rw [if_neg (nI_nle (by omega) (by omega))]
        exact c3
  · obtain ⟨r, μ1, t1, t2, t3, t4⟩ := m_tk0 hP hpos hin
    obtain ⟨r', hr⟩ : ∃ r', fX7_takesNumber (nI lo) (nI m) μ = some (r', μ1) := by
      unfold fX7_takesNumber
      rw [e48, t1, bd2_s, nm_s, ← hF]
      by_cases q : nI lo + r ≤ 0
      · rw [if_pos q]
        exact w_nL t4 _ _ _ F
      · rw [if_neg q]
        exact w_nL t4 _ _ _ F
    refine Or.inl ⟨r', μ1, σ, p, hr, t4, rfl, t2, t3, ?_, rfl⟩
    obtain ⟨f, rfl⟩ := fu1 (show 0 < f by omega)
    by_cases hp : p < L
    · rw [x_rd a1 a3 hp, first0 hp (fun x hx hlx q => hin ⟨hp, by rw [q]; exact ⟨nI_le (by omega) (by omega), nI_le (b := 57) (by omega) (by decide)⟩⟩), bd2_s, if_pos rfl]
    · obtain rfl : p = L := by omega
      exact x_rdE a1 a3
