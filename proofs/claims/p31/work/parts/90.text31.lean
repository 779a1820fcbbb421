/-! P31: a block as a text, written and read back -/
/-- the buffer holds the text l -/
def Bt (σ : Sg) (l : List Int32) : Prop := l.length ≤ 40 ∧ σ 5 1 = nI l.length ∧ ∀ k c, l[k]? = some c → σ 6 k = c
theorem Bt.put {σ : Sg} {l : List Int32} (h : Bt σ l) (hl : l.length < 40) (c : Int32) : ∃ σ', fX0_put c σ = some σ' ∧ Bt σ' (l ++ [c]) ∧ Gx σ σ' := by
  obtain ⟨h1, h2, h3⟩ := h
  obtain ⟨L, hL⟩ : ∃ L, L = l.length := ⟨_, rfl⟩
  rw [← hL] at h1 h2 hl
  refine ⟨up2 (up2 σ 6 L c) 5 1 (nI (L + 1)), ?_, ⟨by rw [List.length_append, ← hL]; exact hl, ?_, fun k x hk => ?_⟩, fun q h5 h6 => by rw [up2_ne h5, up2_ne h6], fun k hk => by rw [up2_self, pk_un hk, up2_ne (by decide)]⟩
  · unfold fX0_put fX0_isFull
    rw [h2, if_pos (show nI L < 40 from nI_lt (b := 40) hl (by decide)), bd_s, if_pos rfl, gi hl (by decide), nI_clamp (show L < 2 ^ 31 by omega), nm_s, nm_s, up2_ne (show 5 ≠ 6 by decide), h2, nI_1]
  · rw [up2_self, pk_us, List.length_append, ← hL]
    rfl
  · rw [up2_ne (by decide), up2_self]
    rcases Nat.lt_trichotomy k L with q | q | q
    · rw [List.getElem?_append_left (by omega)] at hk
      rw [pk_un (by omega)]
      exact h3 k x hk
    · rw [q, List.getElem?_append_right (by omega), hL, Nat.sub_self] at hk
      rw [q, pk_us]
      exact Option.some.inj hk
    · rw [List.getElem?_append_right (by omega), List.getElem?_eq_none (by show 1 ≤ k - l.length; omega)] at hk
      cases hk
/-- the character for the unit u of the number s, if it is written -/
def du (u s : Nat) : List Int32 := if u ≤ s ∨ u = 1 then [nI (48 + s / u % 10)] else []
theorem du_len (u s : Nat) : (du u s).length ≤ 1 := by
  unfold du
  split
  · exact Nat.le_refl 1
  · exact Nat.zero_le 1
def dg4 (s : Nat) : List Int32 := du 1000 s ++ (du 100 s ++ (du 10 s ++ du 1 s))
theorem dg4_len (s : Nat) : (dg4 s).length ≤ 4 := by
  have h1 := du_len 1000 s
  have h2 := du_len 100 s
  have h3 := du_len 10 s
  have h4 := du_len 1 s
  unfold dg4
  rw [List.length_append, List.length_append, List.length_append]
  omega
theorem pu_u {s u f : Nat} {σ : Sg} {l : List Int32} (h : Bt σ l) (hl : l.length < 40) (hu : 0 < u) (hu2 : u ≤ 1000) (hs : s ≤ 2048) : ∃ σ', fX0_putNumber_L19 (f + 1) (nI s) (nI u) σ = fX0_putNumber_L19 f (nI s) (nI (u / 10)) σ' ∧ Bt σ' (l ++ du u s) ∧ Gx σ σ' := by
  have hdiv : nI u / 10 = nI (u / 10) := pk_div (d := 10) (by omega) (by decide) (by decide)
  have hu0 : ¬ nI u = 0 := nI_ne0 hu (by omega)
  have hsu : s / u ≤ s := Nat.div_le_self s u
  unfold du
  by_cases hw : u ≤ s ∨ u = 1
  · rw [if_pos hw]
    obtain ⟨σ', e1, e2, e3⟩ := h.put hl (nI (48 + s / u % 10))
    have hb : fX0_putNumber_b33 (fun x2 x3 σ => fX0_putNumber_L19 f x2 x3 σ) (nI s) (nI u) σ = fX0_putNumber_L19 f (nI s) (nI (u / 10)) σ' := by
      unfold fX0_putNumber_b33
      rw [gd_of hu0, pk_div (by omega) hu (by omega), show nI (s / u) - nI (s / u) / 10 * 10 = nI (s / u % 10) from pk_rem (d := 10) (by omega) (by decide) (by decide), show (48 : Int32) + nI (s / u % 10) = nI (48 + s / u % 10) from nI_add 48 _, e1, bd_s, nm_s, hdiv]
    refine ⟨σ', ?_, e2, e3⟩
    rw [fX0_putNumber_L19, if_neg (nI_nle hu (by omega))]
    by_cases q : nI u ≤ nI s
    · rw [if_pos q, hb]
    · rw [if_neg q, if_pos (by
        rcases hw with z | z
        · exact absurd (nI_le z (by omega)) q
        · rw [z]; rfl), hb]
  · rw [if_neg hw, List.append_nil]
    have h1 : ¬ u ≤ s := fun z => hw (Or.inl z)
    have h2 : u ≠ 1 := fun z => hw (Or.inr z)
    refine ⟨σ, ?_, h, Gx.rf σ⟩
    rw [fX0_putNumber_L19, if_neg (nI_nle hu (by omega)), if_neg (nI_ge (by omega) (by omega)), if_neg (show ¬ nI u = 1 from fun q => h2 ((nI_eq (b := 1) (by omega) (by decide)).mp q)), nm_s, hdiv]
theorem pu_n {s : Nat} {σ : Sg} {l : List Int32} (h : Bt σ l) (hl : l.length + 4 ≤ 40) (hs : s ≤ 2048) : ∃ σ', fX0_putNumber_L19 80 (nI s) 1000 σ = some σ' ∧ Bt σ' (l ++ dg4 s) ∧ Gx σ σ' := by
  obtain ⟨F, hF⟩ : ∃ F, F + 1 + 1 + 1 + 1 + 1 = 80 := ⟨75, rfl⟩
  have l1 := du_len 1000 s
  have l2 := du_len 100 s
  have l3 := du_len 10 s
  obtain ⟨σ1, e1, h1, g1⟩ := pu_u (f := F + 1 + 1 + 1 + 1) (u := 1000) h (by omega) (by decide) (by decide) hs
  obtain ⟨σ2, e2, h2, g2⟩ := pu_u (f := F + 1 + 1 + 1) (u := 100) h1 (by rw [List.length_append]; omega) (by decide) (by decide) hs
  obtain ⟨σ3, e3, h3, g3⟩ := pu_u (f := F + 1 + 1) (u := 10) h2 (by rw [List.length_append, List.length_append]; omega) (by decide) (by decide) hs
  obtain ⟨σ4, e4, h4, g4⟩ := pu_u (f := F + 1) (u := 1) h3 (by rw [List.length_append, List.length_append, List.length_append]; omega) (by decide) (by decide) hs
  refine ⟨σ4, ?_, ?_, ((g1.tr g2).tr g3).tr g4⟩
  · rw [← hF, show (1000 : Int32) = nI 1000 from rfl, e1, show 1000 / 10 = 100 from rfl, e2, show 100 / 10 = 10 from rfl, e3, show 10 / 10 = 1 from rfl, e4, show 1 / 10 = 0 from rfl, fX0_putNumber_L19, if_pos (show nI 0 ≤ 0 by decide)]
  · unfold dg4
    rw [List.append_assoc, List.append_assoc, List.append_assoc] at h4
    exact h4
/-- a number with its sign -/
def sgn4 (v : Int32) : List Int32 := (if 0 ≤ v then [] else [45]) ++ dg4 (abI v).toNatClampNeg
theorem sgn4_len (v : Int32) : (sgn4 v).length ≤ 5 := by
  have := dg4_len (abI v).toNatClampNeg
  unfold sgn4
  rw [List.length_append]
  split
  · show 0 + _ ≤ 5
    omega
  · show 1 + _ ≤ 5
    omega
theorem pu_v {v : Int32} {σ : Sg} {l : List Int32} (hv : inV v) (h : Bt σ l) (hl : l.length + 5 ≤ 40) : ∃ σ', fX0_putNumber v σ = some σ' ∧ Bt σ' (l ++ sgn4 v) ∧ Gx σ σ' := by
  unfold fX0_putNumber sgn4
  rcases absN hv with ⟨q, s, s1, _, s3⟩ | ⟨q, s, s1, _, s3, _⟩
  · obtain ⟨σ', e1, e2, e3⟩ := pu_n h (by omega) (show s ≤ 2048 by omega)
    refine ⟨σ', ?_, ?_, e3⟩
    · rw [if_pos q, nm_s, s3]
      exact e1
    · rw [if_pos q, s3, nI_clamp (by omega), List.nil_append]
      exact e2
  · obtain ⟨σ1, d1, d2, d3⟩ := h.put (by omega) 45
    obtain ⟨σ', e1, e2, e3⟩ := pu_n d2 (by rw [List.length_append]; show l.length + 1 + 4 ≤ 40; omega) s1
    refine ⟨σ', ?_, ?_, d3.tr e3⟩
    · rw [if_neg q, d1, bd_s, nm_s, s3]
      exact e1
    · rw [if_neg q, s3, nI_clamp (by omega), ← List.append_assoc]
      exact e2
/-- a code's character -/
def chr (c : Int32) : Int32 := if 10 ≤ c then 97 + c - 10 else 48 + c
/-- the codes' characters from the k-th on -/
def cds (f : Nat → Int32) : Nat → Nat → List Int32
  | 0, _ => []
  | n + 1, k => chr (f k) :: cds f n (k + 1)
theorem cds_len (f : Nat → Int32) : ∀ n k, (cds f n k).length = n := by
  intro n
  induction n with
  | zero => intro k; rfl
  | succ n ih =>
    intro k
    show (cds f n (k + 1)).length + 1 = n + 1
    rw [ih]
theorem cds_congr {f g : Nat → Int32} : ∀ n k, (∀ i, k ≤ i → i < k + n → f i = g i) → cds f n k = cds g n k := by
  intro n
  induction n with
  | zero => intro k h; rfl
  | succ n ih =>
    intro k h
    rw [cds, cds, h k (Nat.le_refl k) (by omega), ih (k + 1) (fun i h1 h2 => h i (by omega) (by omega))]
theorem tl_L {M B b : Nat} (hM1 : M ≤ 64) (hB2 : B ≤ 16) (hb : b * B < M) : ∀ n f k (σ : Sg) (l : List Int32), n < f → k + n = eo M B b → l.length + n ≤ 40 → Bt σ l → σ 10 0 = nI M → σ 12 0 = nI B → ∃ σ', fX0_tell_L45 0 (nI b) f (nI k) σ = some σ' ∧ Bt σ' (l ++ cds (σ 16) n k) ∧ Gx σ σ' := by
  intro n
  induction n with
  | zero =>
    intro f k σ l hf hk hL hW h10 h12
    obtain ⟨f, rfl⟩ := fu1 hf
    have he : eo M B b ≤ M := Nat.min_le_left _ _
    refine ⟨σ, ?_, ?_, Gx.rf σ⟩
    · rw [fX0_tell_L45, x_eo hM1 hB2 h10 h12 hb, bd_s, if_pos (nI_le (by omega) (by omega))]
    · rw [cds, List.append_nil]
      exact hW
  | succ n ih =>
    intro f k σ l hf hk hL hW h10 h12
    obtain ⟨f, rfl⟩ := fu1 hf
    have he : eo M B b ≤ M := Nat.min_le_left _ _
    obtain ⟨σ1, e1, e2, e3⟩ := hW.put (by omega) (chr (σ 16 k))
    obtain ⟨σ', d1, d2, d3⟩ := ih f (k + 1) σ1 (l ++ [chr (σ 16 k)]) (by omega) (by omega) (by rw [List.length_append]; show l.length + 1 + n ≤ 40; omega) e2 (by rw [e3.1 10 (by decide) (by decide)]; exact h10) (by rw [e3.1 12 (by decide) (by decide)]; exact h12)
    refine ⟨σ', ?_, ?_, e3.tr d3⟩
    · rw [fX0_tell_L45, x_eo hM1 hB2 h10 h12 hb, bd_s, if_neg (nI_ge (by omega) (by omega)), gi (show k < 64 by omega) (by decide), nI_clamp (show k < 2 ^ 31 by omega)]
      simp only [nm_s, Nat.mul_zero, Nat.add_zero, Nat.reduceAdd]
      unfold chr at e1
      rw [nI_1]
      by_cases q : (10 : Int32) ≤ σ 16 k
      · rw [if_pos q] at e1 ⊢
        rw [e1, bd_s]
        exact d1
      · rw [if_neg q] at e1 ⊢
        rw [e1, bd_s]
        exact d1
    · rw [List.append_assoc, e3.1 16 (by decide) (by decide)] at d2
      exact d2
/-- a block as a text: its first sample, its start, its m codes from the k-th on -/
def tx (v j : Int32) (f : Nat → Int32) (m k : Nat) : List Int32 := sgn4 v ++ ([44] ++ (sgn4 j ++ ([58] ++ cds f m k)))
theorem tx_len (v j : Int32) (f : Nat → Int32) {m : Nat} (hm : m ≤ 15) (k : Nat) : (tx v j f m k).length ≤ 27 := by
  have h1 := sgn4_len v
  have h2 := sgn4_len j
  have h3 := cds_len f m k
  unfold tx
  rw [List.length_append, List.length_append, List.length_append, List.length_append, h3]
  show (sgn4 v).length + (1 + ((sgn4 j).length + (1 + m))) ≤ 27
  omega
theorem x_tell {M B b : Nat} {σ : Sg} {v j : Int32} (hM1 : M ≤ 64) (hB : 2 ≤ B) (hB2 : B ≤ 16) (hb : b * B < M) (h10 : σ 10 0 = nI M) (h12 : σ 12 0 = nI B) (h13 : σ 13 b = v) (h14 : σ 14 b = j) (hv : inV v) (hj : inV j) : ∃ σ', fX0_tell 0 (nI b) σ = some σ' ∧ Bt σ' (tx v j (σ 16) (eo M B b - (b * B + 1)) (b * B + 1)) ∧ Gx σ σ' := by
  have hb32 := b32 hM1 hB hb
  have he2 : b * B < eo M B b := by unfold eo; omega
  have he3 : eo M B b ≤ b * B + B := Nat.min_le_right _ _
  have v1 := sgn4_len v
  have v2 := sgn4_len j
  have e0 : Bt (up2 σ 5 1 0) [] := ⟨Nat.zero_le _, by rw [up2_self, pk_us]; rfl, fun k c hk => by cases hk⟩
  have g0 : Gx σ (up2 σ 5 1 0) := ⟨fun q h5 _ => up2_ne h5, fun k hk => by rw [up2_self, pk_un hk]⟩
  obtain ⟨σ1, a1, a2, a3⟩ := pu_v hv e0 (by decide)
  rw [List.nil_append] at a2
  have t1 := g0.tr a3
  obtain ⟨σ2, b1, b2, b3⟩ := a2.put (by omega) 44
  have t2 := t1.tr b3
  obtain ⟨σ3, c1, c2, c3⟩ := pu_v hj b2 (by rw [List.length_append]; show (sgn4 v).length + 1 + 5 ≤ 40; omega)
  have t3 := t2.tr c3
  obtain ⟨σ4, d1, d2, d3⟩ := c2.put (by rw [List.length_append, List.length_append]; show (sgn4 v).length + 1 + (sgn4 j).length < 40; omega) 58
  have t4 := t3.tr d3
  obtain ⟨σ5, f1, f2, f3⟩ := tl_L hM1 hB2 hb (eo M B b - (b * B + 1)) 80 (b * B + 1) σ4 _ (by omega) (by omega) (by rw [List.length_append, List.length_append, List.length_append]; show (sgn4 v).length + 1 + (sgn4 j).length + 1 + (eo M B b - (b * B + 1)) ≤ 40; omega) d2 (by rw [t4.1 10 (by decide) (by decide)]; exact h10) (by rw [t4.1 12 (by decide) (by decide)]; exact h12)
  refine ⟨σ5, ?_, ?_, t4.tr f3⟩
  · unfold fX0_tell
    simp only [gi hb32 (by decide), nm_s, Nat.mul_zero, Nat.add_zero, Nat.reduceAdd]
    rw [nI_clamp (show b < 2 ^ 31 by omega), up2_ne (show 13 ≠ 5 by decide), h13, a1, bd_s, b1, bd_s, t2.1 14 (by decide) (by decide), h14, c1, bd_s, d1, bd_s, x_so (show σ4 12 0 = nI B by rw [t4.1 12 (by decide) (by decide)]; exact h12), bd_s, nI_1]
    exact f1
  · rw [t4.1 16 (by decide) (by decide)] at f2
    unfold tx
    rw [List.append_assoc, List.append_assoc, List.append_assoc] at f2
    exact f2
/-! reading it back -/
/-- the reader takes all the characters -/
def Rn : List Int32 → Sg → Sg → Prop
  | [], σ, σ' => σ' = σ
  | c :: r, σ, σ' => ∃ σ1, fX0_readsOn c σ = some (1, σ1) ∧ Fx σ σ1 ∧ Rn r σ1 σ'
theorem Rn.app : ∀ {a b : List Int32} {σ σ1 σ2 : Sg}, Rn a σ σ1 → Rn b σ1 σ2 → Rn (a ++ b) σ σ2 := by
  intro a
  induction a with
  | nil =>
    intro b σ σ1 σ2 h1 h2
    have h : σ1 = σ := h1
    rw [h] at h2
    exact h2
  | cons c r ih =>
    intro b σ σ1 σ2 h1 h2
    obtain ⟨τ, e1, e2, e3⟩ := h1
    exact ⟨τ, e1, e2, ih e3 h2⟩
theorem Rn.fx : ∀ {a : List Int32} {σ σ1 : Sg}, Rn a σ σ1 → Fx σ σ1 := by
  intro a
  induction a with
  | nil =>
    intro σ σ1 h
    have h' : σ1 = σ := h
    rw [h']
    exact Fx.rf σ
  | cons c r ih =>
    intro σ σ1 h
    obtain ⟨τ, e1, e2, e3⟩ := h
    exact e2.tr (ih e3)
theorem Rn.one {c : Int32} {σ σ1 : Sg} (h : fX0_readsOn c σ = some (1, σ1)) (hx : Fx σ σ1) : Rn [c] σ σ1 := ⟨σ1, h, hx, rfl⟩
theorem Bt.fx {σ σ' : Sg} {l : List Int32} (h : Bt σ l) (hx : Fx σ σ') : Bt σ' l := by
  obtain ⟨h1, h2, h3⟩ := h
  exact ⟨h1, hx.2.trans h2, fun k c hk => by rw [hx.1 6 (by decide) (by decide)]; exact h3 k c hk⟩
theorem rn_L : ∀ (r : List Int32) (f p : Nat) (σ σ' : Sg) (l : List Int32), r.length < f → p + r.length = l.length → Bt σ l → (∀ k, r[k]? = l[p + k]?) → Rn r σ σ' → fX0_read_L21 f (nI p) σ = some (nI l.length, σ') := by
  intro r
  induction r with
  | nil =>
    intro f p σ σ' l hf hp hB hr hR
    obtain ⟨f, rfl⟩ := fu1 hf
    have h : σ' = σ := hR
    have hp' : p = l.length := hp
    rw [h, hp']
    exact x_rdE hB.1 hB.2.1
  | cons c r ih =>
    intro f p σ σ' l hf hp hB hr hR
    obtain ⟨f, rfl⟩ := fu1 (show r.length + 1 < f from hf)
    have hp' : p + (r.length + 1) = l.length := hp
    obtain ⟨τ, e1, e2, e3⟩ := hR
    have hc : σ 6 p = c := hB.2.2 p c (by
      have := hr 0
      rw [Nat.add_zero] at this
      rw [← this]
      rfl)
    rw [x_rd hB.1 hB.2.1 (show p < l.length by omega), hc, e1, bd2_s, if_neg (by decide)]
    refine ih f (p + 1) τ σ' l (by omega) (by omega) (hB.fx e2) (fun k => ?_) e3
    have := hr (k + 1)
    rw [show p + 1 + k = p + (k + 1) by omega, ← this]
    rfl
/-- where the digits of the number s stand behind the unit u -/
def Dg (σ : Sg) (u s : Nat) : Prop := σ 5 9 = nI (s / u) ∧ ((u ≤ s ∧ σ 5 8 = 1) ∨ (s < u ∧ σ 5 8 = 0))
theorem dg_u {part g : Int32} {m s u : Nat} (hm : m ≤ 2048) (hs : s ≤ m) (hu : 0 < u) (step : ∀ (x : Nat) (σ τ : Sg), x < 10 → σ 5 6 = part → σ 5 7 = g → (σ 5 8 = 0 → 1 ≤ s → 1 ≤ x) → fX0_readsDigit (nI (48 + x)) (nI m) σ = some (1, τ) → fX0_readsOn (nI (48 + x)) σ = some (1, τ)) {σ : Sg} (h6 : σ 5 6 = part) (h7 : σ 5 7 = g) (hD : Dg σ (10 * u) s) (hw : u ≤ s ∨ u = 1 ∨ s < u) : ∃ τ, Rn (du u s) σ τ ∧ (τ 5 9 = nI (s / u) ∧ ((u ≤ s ∧ τ 5 8 = 1) ∨ (u = 1 ∧ τ 5 8 = 1) ∨ (s < u ∧ u ≠ 1 ∧ τ 5 8 = 0))) ∧ τ 5 6 = part ∧ τ 5 7 = g ∧ τ 7 = σ 7 ∧ τ 5 2 = σ 5 2 ∧ τ 5 3 = σ 5 3 ∧ τ 5 5 = σ 5 5 := by
  obtain ⟨d1, d2⟩ := hD
  have hsu : s / u ≤ s := Nat.div_le_self s u
  have hrec : 10 * (s / (10 * u)) + s / u % 10 = s / u := by
    have e : s / (10 * u) = s / u / 10 := by rw [Nat.mul_comm, Nat.div_div_eq_div_mul]
    rw [e]
    omega
  unfold du
  by_cases h : u ≤ s ∨ u = 1
  · rw [if_pos h]
    have hx : s / u % 10 < 10 := Nat.mod_lt _ (by decide)
    have hd := x_dg1 (x := s / u % 10) (d := s / (10 * u)) (m := m) (σ := σ) hx (by omega) hm d1 (by
      rcases d2 with ⟨q, q8⟩ | ⟨q, q8⟩
      · refine Or.inr ⟨q8, ?_⟩
        have := (Nat.le_div_iff_mul_le (show 0 < 10 * u by omega)).mpr (show 1 * (10 * u) ≤ s by omega)
        omega
      · exact Or.inl ⟨q8, Nat.div_eq_of_lt q⟩)
    rw [hrec, if_pos (by omega)] at hd
    have hon := step (s / u % 10) σ (dgt σ (s / u)) hx h6 h7 (fun h8 hs1 => by
      rcases d2 with ⟨q, q8⟩ | ⟨q, q8⟩
      · rw [h8] at q8
        exact absurd q8 (by decide)
      · have z : s / (10 * u) = 0 := Nat.div_eq_of_lt q
        rw [z] at hrec
        rcases h with h | h
        · have := (Nat.le_div_iff_mul_le hu).mpr (show 1 * u ≤ s by omega)
          omega
        · subst h
          rw [Nat.div_one] at hrec ⊢
          omega) hd
    refine ⟨dgt σ (s / u), Rn.one hon (dgt_x σ _), ⟨dgt_9 _ _, ?_⟩, by rw [dgt_5 _ _ _ (by decide) (by decide)]; exact h6, by rw [dgt_5 _ _ _ (by decide) (by decide)]; exact h7, dgt_q _ _ (by decide), dgt_5 _ _ _ (by decide) (by decide), dgt_5 _ _ _ (by decide) (by decide), dgt_5 _ _ _ (by decide) (by decide)⟩
    rcases h with h | h
    · exact Or.inl ⟨h, dgt_8 _ _⟩
    · exact Or.inr (Or.inl ⟨h, dgt_8 _ _⟩)
  · rw [if_neg h]
    have h1 : s < u := by
      rcases Nat.lt_or_ge s u with z | z
      · exact z
      · exact absurd (Or.inl z) h
    have h8 : σ 5 8 = 0 := by
      rcases d2 with ⟨q, q8⟩ | ⟨q, q8⟩
      · omega
      · exact q8
    refine ⟨σ, rfl, ⟨?_, Or.inr (Or.inr ⟨h1, fun z => h (Or.inr z), h8⟩)⟩, h6, h7, rfl, rfl, rfl, rfl⟩
    rw [d1, Nat.div_eq_of_lt h1, Nat.div_eq_of_lt (by omega)]
theorem dg_n {part g : Int32} {m s : Nat} (hm : m ≤ 2048) (hs : s ≤ m) (step : ∀ (x : Nat) (σ τ : Sg), x < 10 → σ 5 6 = part → σ 5 7 = g → (σ 5 8 = 0 → 1 ≤ s → 1 ≤ x) → fX0_readsDigit (nI (48 + x)) (nI m) σ = some (1, τ) → fX0_readsOn (nI (48 + x)) σ = some (1, τ)) {σ : Sg} (h6 : σ 5 6 = part) (h7 : σ 5 7 = g) (h8 : σ 5 8 = 0) (h9 : σ 5 9 = 0) : ∃ τ, Rn (dg4 s) σ τ ∧ τ 5 9 = nI s ∧ τ 5 8 = 1 ∧ τ 5 6 = part ∧ τ 5 7 = g ∧ τ 7 = σ 7 ∧ τ 5 2 = σ 5 2 ∧ τ 5 3 = σ 5 3 ∧ τ 5 5 = σ 5 5 := by
  have nx : ∀ {u : Nat} {τ : Sg}, u ≠ 1 → τ 5 9 = nI (s / u) ∧ ((u ≤ s ∧ τ 5 8 = 1) ∨ (u = 1 ∧ τ 5 8 = 1) ∨ (s < u ∧ u ≠ 1 ∧ τ 5 8 = 0)) → Dg τ u s := by
    intro u τ hu h
    refine ⟨h.1, ?_⟩
    rcases h.2 with q | ⟨q, _⟩ | ⟨q, _, q8⟩
    · exact Or.inl q
    · exact absurd q hu
    · exact Or.inr ⟨q, q8⟩
  have tri : ∀ u : Nat, u ≤ s ∨ u = 1 ∨ s < u := fun u => by omega
  obtain ⟨σ1, a1, a2, a3, a4, a5, a6, a7, a8⟩ := dg_u (u := 1000) hm hs (by decide) step h6 h7 ⟨by rw [h9, Nat.div_eq_of_lt (by omega)]; rfl, Or.inr ⟨by omega, h8⟩⟩ (tri _)
  obtain ⟨σ2, b1, b2, b3, b4, b5, b6, b7, b8⟩ := dg_u (u := 100) hm hs (by decide) step a3 a4 (nx (by decide) a2) (tri _)
  obtain ⟨σ3, c1, c2, c3, c4, c5, c6, c7, c8⟩ := dg_u (u := 10) hm hs (by decide) step b3 b4 (nx (by decide) b2) (tri _)
  obtain ⟨σ4, d1, d2, d3, d4, d5, d6, d7, d8⟩ := dg_u (u := 1) hm hs (by decide) step c3 c4 (nx (by decide) c2) (tri _)
  refine ⟨σ4, a1.app (b1.app (c1.app d1)), by rw [d2.1, Nat.div_one], ?_, d3, d4, by rw [d5, c5, b5, a5], by rw [d6, c6, b6, a6], by rw [d7, c7, b7, a7], by rw [d8, c8, b8, a8]⟩
  rcases d2.2 with ⟨_, q⟩ | ⟨_, q⟩ | ⟨_, q, _⟩
  · exact q
  · exact q
  · exact absurd rfl q
theorem dch {x : Nat} (hx : x < 10) : nI (48 + x) ≠ 45 ∧ nI (48 + x) ≠ 44 ∧ nI (48 + x) ≠ 58 := by
  refine ⟨fun q => ?_, fun q => ?_, fun q => ?_⟩
  · have := (nI_eq (b := 45) (by omega) (by decide)).mp q
    omega
  · have := (nI_eq (b := 44) (by omega) (by decide)).mp q
    omega
  · have := (nI_eq (b := 58) (by omega) (by decide)).mp q
    omega
/-- the first part of a text: the first sample and the comma -/
theorem rn_A {v : Int32} {σ : Sg} (hv : inV v) (h6 : σ 5 6 = 0) (h7 : σ 5 7 = 0) (h8 : σ 5 8 = 0) (h9 : σ 5 9 = 0) : ∃ τ, Rn (sgn4 v ++ [44]) σ τ ∧ τ 5 2 = v ∧ τ 5 6 = 1 ∧ τ 5 8 = 0 ∧ τ 5 9 = 0 ∧ τ 7 = σ 7 ∧ τ 5 5 = σ 5 5 := by
  have comma : ∀ (σ : Sg) (k0 : Int32), σ 5 6 = 0 → σ 5 8 = 1 → (k0 = if σ 5 7 = 0 then σ 5 9 else -(σ 5 9)) → ∃ τ, Rn [44] σ τ ∧ τ 5 2 = k0 ∧ τ 5 6 = 1 ∧ τ 5 8 = 0 ∧ τ 5 9 = 0 ∧ τ 7 = σ 7 ∧ τ 5 5 = σ 5 5 := by
    intro σ k0 h6 h8 hk
    obtain ⟨τ, hτ⟩ : ∃ τ, τ = up2 (up2 (up2 (up2 σ 5 2 k0) 5 6 1) 5 9 0) 5 8 0 := ⟨_, rfl⟩
    have hb : fX0_readsFirst_b60 k0 σ = some (1, τ) := by
      unfold fX0_readsFirst_b60 fX0_beginDigits
      simp only [nm_s, bd_s]
      rw [hτ]
    have hon : fX0_readsOn 44 σ = some (1, τ) := by
      rw [on_0 h6]
      unfold fX0_readsFirst fX0_readsFirst_b27
      rw [if_neg (show ¬ (44 : Int32) = 45 by decide), if_pos rfl, h8, if_neg (show ¬ (1 : Int32) = 0 by decide)]
      by_cases q : σ 5 7 = 0
      · rw [if_pos q] at hk ⊢
        rw [← hk, hb, bd2_s, gd_of (Or.inr rfl)]
      · rw [if_neg q] at hk ⊢
        rw [← hk, hb, bd2_s, gd_of (Or.inr rfl)]
    have e5 : τ 5 = upd (upd (upd (upd (σ 5) 2 k0) 6 1) 9 0) 8 0 := by rw [hτ, up2_self, up2_self, up2_self, up2_self]
    have eq : ∀ q, q ≠ 5 → τ q = σ q := fun q hq => by rw [hτ, up2_ne hq, up2_ne hq, up2_ne hq, up2_ne hq]
    exact ⟨τ, Rn.one hon ⟨fun q hq _ => eq q hq, by rw [e5]; rfl⟩, by rw [e5]; rfl, by rw [e5]; rfl, by rw [e5]; rfl, by rw [e5]; rfl, eq 7 (by decide), by rw [e5]; rfl⟩
  have step : ∀ (g m s : Nat), ((g = 0 ∧ m = 2047) ∨ (g = 1 ∧ m = 2048)) → (g = 1 → 1 ≤ s) → ∀ (x : Nat) (σ τ : Sg), x < 10 → σ 5 6 = 0 → σ 5 7 = nI g → (σ 5 8 = 0 → 1 ≤ s → 1 ≤ x) → fX0_readsDigit (nI (48 + x)) (nI m) σ = some (1, τ) → fX0_readsOn (nI (48 + x)) σ = some (1, τ) := by
    intro g m s hg hs x σ τ hx h6 h7 h8 hd
    obtain ⟨n1, n2, n3⟩ := dch hx
    rw [on_0 h6, first_1 hg h7 (Or.inl n1) (Or.inl n2) (fun z => by
      have h1 := h8 z.2.1 (hs z.1)
      have := (nI_eq (b := 48) (by omega) (by decide)).mp z.2.2
      omega) hd (Or.inr rfl), bd2_s, gd_of (Or.inr rfl)]
  unfold sgn4
  rcases absN hv with ⟨q, s, s1, s2, s3⟩ | ⟨q, s, s1, s2, s3, _⟩
  · rw [if_pos q, s3, nI_clamp (by omega), List.nil_append]
    obtain ⟨σ1, a1, a2, a3, a4, a5, a6, a7, a8, a9⟩ := dg_n (part := 0) (g := nI 0) (m := 2047) (s := s) (by decide) s1 (step 0 2047 s (Or.inl ⟨rfl, rfl⟩) (fun z => absurd z (by decide))) h6 h7 h8 h9
    obtain ⟨τ, b1, b2, b3, b4, b5, b6, b7⟩ := comma σ1 v a4 a3 (by rw [a5, if_pos (show nI 0 = 0 from rfl), a2]; exact s2)
    exact ⟨τ, a1.app b1, b2, b3, b4, b5, by rw [b6, a6], by rw [b7, a9]⟩
  · rw [if_neg q, s3, nI_clamp (by omega)]
    obtain ⟨σ0, hσ0⟩ : ∃ σ0, σ0 = up2 σ 5 7 1 := ⟨_, rfl⟩
    have e5 : σ0 5 = upd (σ 5) 7 1 := by rw [hσ0, up2_self]
    have eq : ∀ q, q ≠ 5 → σ0 q = σ q := fun q hq => by rw [hσ0, up2_ne hq]
    have h0 : Rn [45] σ σ0 := by
      refine Rn.one ?_ ⟨fun q hq _ => eq q hq, by rw [e5]; rfl⟩
      rw [on_0 h6]
      unfold fX0_readsFirst
      rw [if_pos rfl, h7, if_pos rfl, h8, if_pos rfl, nm_s, bd2_s, gd_of (Or.inr rfl), hσ0]
    have hs1 : 1 ≤ s := by
      rcases Nat.eq_zero_or_pos s with z | z
      · exfalso
        rw [z] at s2
        apply q
        have hz : v = 0 := by
          have e : -(-v) = v := Int32.neg_neg
          rw [← e, s2]
          decide
        rw [hz]
        decide
      · exact z
    obtain ⟨σ1, a1, a2, a3, a4, a5, a6, a7, a8, a9⟩ := dg_n (part := 0) (g := nI 1) (m := 2048) (s := s) (σ := σ0) (by decide) s1 (step 1 2048 s (Or.inr ⟨rfl, rfl⟩) (fun _ => hs1)) (by rw [e5]; exact h6) (by rw [e5]; rfl) (by rw [e5]; exact h8) (by rw [e5]; exact h9)
    obtain ⟨τ, b1, b2, b3, b4, b5, b6, b7⟩ := comma σ1 v a4 a3 (by rw [a5, if_neg (show ¬ nI 1 = 0 by decide), a2, ← s2, Int32.neg_neg])
    refine ⟨τ, (h0.app a1).app b1, b2, b3, b4, b5, by rw [b6, a6, eq 7 (by decide)], ?_⟩
    rw [b7, a9, e5]
    rfl
/-- the second part: the start's number and the colon -/
theorem rn_B {j : Nat} {σ : Sg} (hj : j < 49) (h6 : σ 5 6 = 1) (h8 : σ 5 8 = 0) (h9 : σ 5 9 = 0) : ∃ τ, Rn (sgn4 (nI j) ++ [58]) σ τ ∧ τ 5 2 = σ 5 2 ∧ τ 5 3 = nI j ∧ τ 5 6 = 2 ∧ τ 7 = σ 7 ∧ τ 5 5 = σ 5 5 := by
  have hab : abI (nI j) = nI j := by
    unfold abI
    rw [if_pos (nI_pos' (by omega))]
  unfold sgn4
  rw [if_pos (nI_pos' (show j < 2 ^ 31 by omega)), hab, nI_clamp (by omega), List.nil_append]
  obtain ⟨σ1, a1, a2, a3, a4, a5, a6, a7, a8, a9⟩ := dg_n (part := 1) (g := σ 5 7) (m := 48) (s := j) (by decide) (by omega) (fun x σ τ hx h6 _ _ hd => by
    obtain ⟨_, _, n3⟩ := dch hx
    rw [on_1 h6]
    unfold fX0_readsNumber
    rw [if_neg n3, show (48 : Int32) = nI 48 from rfl, hd, bd2_s, gd_of (Or.inr rfl), bd2_s, gd_of (Or.inr rfl)]) h6 rfl h8 h9
  obtain ⟨τ, hτ⟩ : ∃ τ, τ = up2 (up2 σ1 5 3 (σ1 5 9)) 5 6 2 := ⟨_, rfl⟩
  have e5 : τ 5 = upd (upd (σ1 5) 3 (σ1 5 9)) 6 2 := by rw [hτ, up2_self, up2_self]
  have eq : ∀ q, q ≠ 5 → τ q = σ1 q := fun q hq => by rw [hτ, up2_ne hq, up2_ne hq]
  have hon : fX0_readsOn 58 σ1 = some (1, τ) := by
    rw [on_1 a4]
    unfold fX0_readsNumber
    rw [if_pos rfl, a3, if_neg (show ¬ (1 : Int32) = 0 by decide), nm_s, nm_s, bd2_s, gd_of (Or.inr rfl), hτ]
  refine ⟨τ, a1.app (Rn.one hon ⟨fun q hq _ => eq q hq, by rw [e5]; rfl⟩), ?_, ?_, by rw [e5]; rfl, by rw [eq 7 (by decide), a6], ?_⟩
  · rw [e5, ← a7]
    rfl
  · rw [e5, ← a2]
    rfl
  · rw [e5, ← a9]
    rfl
theorem chr_c {c : Int32} (h : c16 c) (σ : Sg) : ∃ x, x < 16 ∧ c = nI x ∧ fX0_readsCode (chr c) σ = fX0_readsCode_b42 (nI x) σ := by
  obtain ⟨x, hx, rfl⟩ := c16_nI h
  refine ⟨x, hx, rfl, ?_⟩
  unfold chr
  by_cases q : (10 : Int32) ≤ nI x
  · have hq : 10 ≤ x := (nI_leI (a := 10) (by decide) (by omega)).mp q
    have e : (97 : Int32) + nI x - 10 = nI (97 + x - 10) := by rw [show (97 : Int32) + nI x = nI (97 + x) from nI_add 97 x]; exact pk_sub (b := 10) (by omega)
    rw [if_pos q, e]
    unfold fX0_readsCode fX0_readsCode_b22
    rw [if_neg (show ¬ nI (97 + x - 10) < 48 from nI_nlt (b := 48) (by omega) (by omega)), if_pos (show (57 : Int32) < nI (97 + x - 10) from nI_lt (a := 57) (by omega) (by omega)), if_neg (show ¬ nI (97 + x - 10) < 97 from nI_nlt (b := 97) (by omega) (by omega)), if_neg (show ¬ (102 : Int32) < nI (97 + x - 10) from nI_nlt (a := 102) (by omega) (by omega)), nm_s, show nI (97 + x - 10) - 97 = nI (97 + x - 10 - 97) from pk_sub (b := 97) (by omega), show nI (97 + x - 10 - 97) + 10 = nI (97 + x - 10 - 97 + 10) from nI_add _ 10, show 97 + x - 10 - 97 + 10 = x by omega]
  · have hq : ¬ 10 ≤ x := fun z => q (nI_le (a := 10) z (by omega))
    rw [if_neg q, show (48 : Int32) + nI x = nI (48 + x) from nI_add 48 x]
    unfold fX0_readsCode
    rw [if_neg (show ¬ nI (48 + x) < 48 from nI_nlt (b := 48) (by omega) (by omega)), if_neg (show ¬ (57 : Int32) < nI (48 + x) from nI_nlt (a := 57) (by omega) (by omega)), nm_s, show nI (48 + x) - 48 = nI (48 + x - 48) from pk_sub (b := 48) (by omega), show 48 + x - 48 = x by omega]
/-- the codes -/
theorem rn_C {f : Nat → Int32} : ∀ n k c (σ : Sg), c + n ≤ 15 → (∀ i, i < n → c16 (f (k + i))) → σ 5 6 = 2 → σ 5 5 = nI c → ∃ τ, Rn (cds f n k) σ τ ∧ τ 5 6 = 2 ∧ τ 5 5 = nI (c + n) ∧ τ 5 2 = σ 5 2 ∧ τ 5 3 = σ 5 3 ∧ (∀ i, i < c → τ 7 i = σ 7 i) ∧ ∀ i, i < n → τ 7 (c + i) = f (k + i) := by
  intro n
  induction n with
  | zero =>
    intro k c σ hc hf h6 h5
    exact ⟨σ, rfl, h6, h5, rfl, rfl, fun _ _ => rfl, fun i hi => by omega⟩
  | succ n ih =>
    intro k c σ hc hf h6 h5
    obtain ⟨x, hx, ex, er⟩ := chr_c (hf 0 (by omega)) σ
    rw [Nat.add_zero] at ex er
    have e42 := code_42 (x := x) (c := c) (σ := σ) hx (by omega) h5
    obtain ⟨σ1, hσ1⟩ : ∃ σ1, σ1 = up2 (up2 σ 7 c (nI x)) 5 5 (nI (c + 1)) := ⟨_, rfl⟩
    rw [← hσ1] at e42
    have e5 : σ1 5 = upd (σ 5) 5 (nI (c + 1)) := by rw [hσ1, up2_self, up2_ne (by decide)]
    have e7 : σ1 7 = upd (σ 7) c (nI x) := by rw [hσ1, up2_ne (by decide), up2_self]
    have eq : ∀ q, q ≠ 5 → q ≠ 7 → σ1 q = σ q := fun q q5 q7 => by rw [hσ1, up2_ne q5, up2_ne q7]
    have hon : fX0_readsOn (chr (f k)) σ = some (1, σ1) := by
      rw [on_2 h6, er, e42, bd2_s, gd_of (Or.inr rfl)]
    obtain ⟨τ, b1, b2, b3, b4, b5, b6, b7⟩ := ih (k + 1) (c + 1) σ1 (by omega) (fun i hi => by rw [show k + 1 + i = k + (i + 1) by omega]; exact hf (i + 1) (by omega)) (by rw [e5]; exact h6) (by rw [e5, pk_us])
    refine ⟨τ, ⟨σ1, hon, ⟨eq, by rw [e5]; rfl⟩, b1⟩, b2, by rw [b3, show c + 1 + n = c + (n + 1) by omega], by rw [b4, e5]; rfl, by rw [b5, e5]; rfl, fun i hi => by rw [b6 i (by omega), e7, pk_un (by omega)], fun i hi => ?_⟩
    by_cases h : i = 0
    · rw [h, Nat.add_zero, Nat.add_zero, b6 c (by omega), e7, pk_us, ex]
    · have := b7 (i - 1) (by omega)
      rw [show c + 1 + (i - 1) = c + i by omega, show k + 1 + (i - 1) = k + i by omega] at this
      exact this
/-- a written block, read -/
theorem x_readT {σ : Sg} {v : Int32} {j m k : Nat} {f : Nat → Int32} (hv : inV v) (hj : j < 49) (hm : m ≤ 15) (hf : ∀ i, i < m → c16 (f (k + i))) (hB : Bt σ (tx v (nI j) f m k)) : ∃ τ, fX0_read σ = some (nI (tx v (nI j) f m k).length, τ) ∧ Fx σ τ ∧ τ 5 6 = 2 ∧ τ 5 2 = v ∧ τ 5 3 = nI j ∧ τ 5 5 = nI m ∧ ∀ i, i < m → τ 7 i = f (k + i) := by
  have hlen := tx_len v (nI j) f hm k
  obtain ⟨σ0, hσ0⟩ : ∃ σ0, σ0 = up2 (up2 (up2 (up2 (up2 σ 5 6 0) 5 7 0) 5 5 0) 5 9 0) 5 8 0 := ⟨_, rfl⟩
  have e5 : σ0 5 = upd (upd (upd (upd (upd (σ 5) 6 0) 7 0) 5 0) 9 0) 8 0 := by rw [hσ0, up2_self, up2_self, up2_self, up2_self, up2_self]
  have eq : ∀ q, q ≠ 5 → σ0 q = σ q := fun q hq => by rw [hσ0, up2_ne hq, up2_ne hq, up2_ne hq, up2_ne hq, up2_ne hq]
  have hx0 : Fx σ σ0 := ⟨fun q hq _ => eq q hq, by rw [e5]; rfl⟩
  obtain ⟨σ1, a1, a2, a3, a4, a5, a6, a7⟩ := rn_A (σ := σ0) hv (by rw [e5]; rfl) (by rw [e5]; rfl) (by rw [e5]; rfl) (by rw [e5]; rfl)
  obtain ⟨σ2, b1, b2, b3, b4, b5, b6⟩ := rn_B (σ := σ1) hj a3 a4 a5
  obtain ⟨σ3, c1, c2, c3, c4, c5, c6, c7⟩ := rn_C (f := f) m k 0 σ2 (by omega) hf b4 (by rw [b6, a7, e5]; rfl)
  have hR : Rn (tx v (nI j) f m k) σ0 σ3 := by
    have h := (a1.app b1).app c1
    rw [List.append_assoc, List.append_assoc, List.append_assoc] at h
    exact h
  refine ⟨σ3, ?_, hx0.tr hR.fx, c2, by rw [c4, b2, a2], by rw [c5, b3], by rw [c3, Nat.zero_add], fun i hi => by rw [← c7 i hi, Nat.zero_add]⟩
  unfold fX0_read fX0_beginDigits
  simp only [nm_s, bd_s]
  rw [← hσ0, show fX0_read_L21 80 0 σ0 = fX0_read_L21 80 (nI 0) σ0 from by rw [← n0]]
  exact rn_L _ 80 0 σ0 σ3 _ (by omega) (by omega) (hB.fx hx0) (fun i => by rw [Nat.zero_add]) hR
