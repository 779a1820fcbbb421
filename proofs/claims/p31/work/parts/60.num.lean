/-! PURE: numbers: steps, codes, guesses; both sides tied to one value -/
theorem i_add {a b : Int32} (h1 : -2147483648 ≤ a.toInt + b.toInt) (h2 : a.toInt + b.toInt < 2147483648) : (a + b).toInt = a.toInt + b.toInt := by
  rw [Int32.toInt_add]
  exact Int.bmod_eq_of_le (by omega) (by omega)
theorem i_sub {a b : Int32} (h1 : -2147483648 ≤ a.toInt - b.toInt) (h2 : a.toInt - b.toInt < 2147483648) : (a - b).toInt = a.toInt - b.toInt := by
  rw [Int32.toInt_sub]
  exact Int.bmod_eq_of_le (by omega) (by omega)
def inV (x : Int32) : Prop := -2048 ≤ x.toInt ∧ x.toInt ≤ 2047
def c16 (x : Int32) : Prop := 0 ≤ x.toInt ∧ x.toInt < 16
theorem gi {α : Type} {c N : Nat} {k : Option α} (h : c < N) (hN : N < 2 ^ 31) : gd (¬ (nI c < 0 ∨ N ≤ (nI c).toNatClampNeg)) k = k := gd_of (nI_in h hN) k
theorem gj {α : Type} {c N : Nat} {k : Option α} (h : c < N) (hN : N < 2 ^ 31) : gd (¬ (nI c < 0 ∨ N ≤ c)) k = k := gd_of (show ¬ (nI c < 0 ∨ N ≤ c) from fun q => q.elim (nI_pos (Nat.lt_trans h hN)) (fun q => by omega)) k
theorem bd_s {α β : Type} (a : α) (k : α → Option β) : bd (some a) k = k a := Eq.trans rfl rfl
theorem bd2_s {α β γ : Type} (a : α) (b : β) (k : α → β → Option γ) : bd2 (some (a, b)) k = k a b := Eq.trans rfl rfl
theorem bd3_s {α β γ δ : Type} (a : α) (b : β) (c : γ) (k : α → β → γ → Option δ) : bd3 (some (a, b, c)) k = k a b c := Eq.trans rfl rfl
theorem bo_s {α β S : Type} (a : α) (s : S) (k : α → S → Option β) : bo (some (Sum.inl a, s)) k = k a s := Eq.trans rfl rfl
theorem bx_s {α β S : Type} (a : α) (s : S) (k : α → S → Option ((β ⊕ Nat) × S)) : bx (some (Sum.inl a, s)) k = k a s := Eq.trans rfl rfl
theorem bx_e {α β S : Type} (e : Nat) (s : S) (k : α → S → Option ((β ⊕ Nat) × S)) : bx (some (Sum.inr e, s)) k = some (Sum.inr e, s) := Eq.trans rfl rfl
theorem nm_s {α β : Type} (e : α) (k : α → β) : nm e k = k e := Eq.trans rfl rfl
theorem n0 : (0 : Int32) = nI 0 := rfl
theorem n1 : (1 : Int32) = nI 1 := rfl
theorem n47 : (47 : Int32) = nI 47 := rfl
theorem n48 : (48 : Int32) = nI 48 := rfl
theorem o2 (k : Nat) : 2 + nI k = nI (2 + k) := nI_add 2 k
theorem o7 (k : Nat) : 7 + nI k = nI (7 + k) := nI_add 7 k
theorem o71 (k : Nat) : 71 + nI k = nI (71 + k) := nI_add 71 k
theorem o135 (k : Nat) : 135 + nI k = nI (135 + k) := nI_add 135 k
theorem o199 (k : Nat) : 199 + nI k = nI (199 + k) := nI_add 199 k
theorem o231 (k : Nat) : 231 + nI k = nI (231 + k) := nI_add 231 k
theorem o263 (k : Nat) : 263 + nI k = nI (263 + k) := nI_add 263 k
theorem o295 (k : Nat) : 295 + nI k = nI (295 + k) := nI_add 295 k
theorem m295 (k : Nat) : 295 * nI k = nI (295 * k) := pk_mul 295 k
def stp (j : Nat) : Int32 := stepsL.getD j 0
theorem stp_r : ∀ j, j < 49 → 7 ≤ (stp j).toInt ∧ (stp j).toInt ≤ 1165 := by decide +kernel
theorem so_j : ∀ j, j < 49 → fX5_stepOf (nI j) = some (stp j) := by decide +kernel
def cd4 (st l c : Int32) : Int32 := if l < st / 4 then c else c ||| 1
def cd2 (st l c : Int32) : Int32 := if l < st / 2 then cd4 st l c else cd4 st (l - st / 2) (c ||| 2)
def cd1 (st l c : Int32) : Int32 := if l < st then cd2 st l c else cd2 st (l - st) (c ||| 4)
/-- the code for a sample v, with a guess g and the step number j -/
def cdf (g : Int32) (j : Nat) (v : Int32) : Int32 := cd1 (stp j) (abI (v - g)) (if g ≤ v then 0 else 8)
theorem x_cd4 (st l c : Int32) (σ : Sg) : fX5_codeTowards_b68 st l c σ = some (cd4 st l c) := by
  unfold fX5_codeTowards_b68 cd4 nm
  split <;> rfl
theorem x_cd2 (st l c : Int32) (σ : Sg) : fX5_codeTowards_b49 st l c σ = some (cd2 st l c) := by
  unfold fX5_codeTowards_b49 cd2 nm
  split <;> exact x_cd4 _ _ _ _
theorem x_cd1 (st l c : Int32) (σ : Sg) : fX5_codeTowards_b32 st l c σ = some (cd1 st l c) := by
  unfold fX5_codeTowards_b32 cd1 nm
  split <;> exact x_cd2 _ _ _ _
theorem x_code (i j : Nat) (v : Int32) (σ : Sg) (hj : j < 49) (h : σ (82 + i) 1 = nI j) : fX5_codeTowards i v σ = some (cdf (σ (82 + i) 0) j v) := by
  unfold fX5_codeTowards cdf
  rw [h, so_j j hj]
  simp only [bd, nm]
  split
  · exact x_cd1 _ _ _ _
  · exact x_cd1 _ _ _ _
/-- the model's table -/
def Tbl (μ : Sg) : Prop := ∀ n, n < 49 → μ 5 n = stp n
theorem m_cd4 {μ : Sg} (T : Tbl μ) {j : Nat} (hj : j < 49) {l c : Int32} (hc : c + 1 = c ||| 1) : fX7_codeFor_b81 (nI j) l c μ = some (cd4 (stp j) l c) := by
  unfold fX7_codeFor_b81 cd4
  rw [gi hj (by decide), nI_clamp (by omega), T j hj, hc]
  split <;> rfl
theorem m_cd2 {μ : Sg} (T : Tbl μ) {j : Nat} (hj : j < 49) {l c : Int32} (h1 : c + 1 = c ||| 1) (h2 : c + 2 = c ||| 2) (h3 : (c ||| 2) + 1 = c ||| 2 ||| 1) : fX7_codeFor_b54 (nI j) l c μ = some (cd2 (stp j) l c) := by
  unfold fX7_codeFor_b54 cd2
  rw [gi hj (by decide), nI_clamp (by omega), T j hj]
  simp only [nm, h2]
  split
  · exact m_cd4 T hj h1
  · exact m_cd4 T hj h3
theorem m_cd1 {μ : Sg} (T : Tbl μ) {j : Nat} (hj : j < 49) {l c : Int32} (hc : c = 0 ∨ c = 8) : fX7_codeFor_b27 (nI j) l c μ = some (cd1 (stp j) l c) := by
  unfold fX7_codeFor_b27 cd1
  rw [gi hj (by decide), nI_clamp (by omega), T j hj]
  simp only [nm]
  rcases hc with rfl | rfl
  · split
    · exact m_cd2 T hj (by decide) (by decide) (by decide)
    · exact m_cd2 T hj (by decide) (by decide) (by decide)
  · split
    · exact m_cd2 T hj (by decide) (by decide) (by decide)
    · exact m_cd2 T hj (by decide) (by decide) (by decide)
theorem ab_eq {g v : Int32} (hg : inV g) (hv : inV v) : abI (v - g) = if g ≤ v then v - g else g - v := by
  unfold inV at hg hv
  have e1 : (v - g).toInt = v.toInt - g.toInt := i_sub (by omega) (by omega)
  have e2 : (g - v).toInt = g.toInt - v.toInt := i_sub (by omega) (by omega)
  have e3 : (0 - (v - g)).toInt = (0 : Int32).toInt - (v - g).toInt := i_sub (by rw [e1, Int32.toInt_zero]; omega) (by rw [e1, Int32.toInt_zero]; omega)
  rw [e1, Int32.toInt_zero] at e3
  unfold abI
  simp only [Int32.le_iff_toInt_le, e1, Int32.toInt_zero]
  by_cases h : g.toInt ≤ v.toInt
  · rw [if_pos h, if_pos (by omega)]
  · rw [if_neg h, if_neg (by omega)]
    apply Int32.toInt_inj.mp
    rw [e3, e2]
    omega
theorem m_code {μ : Sg} (T : Tbl μ) {g v : Int32} {j : Nat} (hj : j < 49) (hg : inV g) (hv : inV v) : fX7_codeFor g (nI j) v μ = some (cdf g j v) := by
  unfold fX7_codeFor fX7_codeFor_b14 cdf
  rw [ab_eq hg hv]
  by_cases h : g ≤ v
  · simp only [if_pos h]
    exact m_cd1 T hj (Or.inl rfl)
  · simp only [if_neg h]
    exact m_cd1 T hj (Or.inr rfl)
theorem cdf_r (g : Int32) (j : Nat) (v : Int32) : c16 (cdf g j v) := by
  unfold cdf cd1 cd2 cd4 c16
  repeat' split
  all_goals decide
def chg (st c : Int32) : Int32 := ((st / 8 + (if c &&& 4 = 0 then 0 else st)) + (if c &&& 2 = 0 then 0 else st / 2)) + (if c &&& 1 = 0 then 0 else st / 4)
def clp (x : Int32) : Int32 := mxI (-2048) (mnI 2047 x)
def nxg (g : Int32) (j : Nat) (c : Int32) : Int32 := clp (if c &&& 8 = 0 then g + chg (stp j) c else g - chg (stp j) c)
def nxnI (j b : Nat) : Int32 := mxI 0 (mnI 48 (if 4 ≤ nI b then nI j + 2 * ((nI b - 4) + 1) else nI j - 1))
def nxn (j : Nat) (c : Int32) : Nat := (nxnI j (c.toBitVec.toNat % 2 ^ 3)).toNatClampNeg
theorem nxnI_r : ∀ b, b < 8 → ∀ j, j < 49 → nI (nxnI j b).toNatClampNeg = nxnI j b ∧ (nxnI j b).toNatClampNeg < 49 := by decide +kernel
theorem a7 (c : Int32) : c &&& 7 = nI (c.toBitVec.toNat % 2 ^ 3) := pk_and c 3 (by decide)
theorem l8 (c : Int32) : c.toBitVec.toNat % 2 ^ 3 < 8 := Nat.mod_lt _ (by decide)
theorem nxn_lt {j : Nat} (c : Int32) (hj : j < 49) : nxn j c < 49 := (nxnI_r _ (l8 c) j hj).2
theorem nxn_I {j : Nat} (c : Int32) (hj : j < 49) : nI (nxn j c) = nxnI j (c.toBitVec.toNat % 2 ^ 3) := (nxnI_r _ (l8 c) j hj).1
theorem clp_r (x : Int32) : inV (clp x) := by
  have h1 : (-2048 : Int32).toInt = -2048 := by decide
  have h2 : (2047 : Int32).toInt = 2047 := by decide
  unfold inV clp mxI mnI
  simp only [Int32.lt_iff_toInt_lt]
  repeat' split
  all_goals omega
theorem clp_in {x : Int32} (h : inV x) : clp x = x := by
  have h1 : (-2048 : Int32).toInt = -2048 := by decide
  have h2 : (2047 : Int32).toInt = 2047 := by decide
  unfold inV at h
  apply Int32.toInt_inj.mp
  unfold clp mxI mnI
  simp only [Int32.lt_iff_toInt_lt]
  repeat' split
  all_goals omega
theorem m_clp (x : Int32) : fX7_clipped x = some (clp x) := by
  have h1 : (-2048 : Int32).toInt = -2048 := by decide
  have h2 : (2047 : Int32).toInt = 2047 := by decide
  have key : (if (-2048) ≤ x then (if x ≤ 2047 then x else 2047) else (-2048 : Int32)) = clp x := by
    apply Int32.toInt_inj.mp
    unfold clp mxI mnI
    simp only [Int32.lt_iff_toInt_lt, Int32.le_iff_toInt_le]
    repeat' split
    all_goals omega
  rw [← key]
  unfold fX7_clipped
  repeat' split
  all_goals rfl
theorem nxg_r (g : Int32) (j : Nat) (c : Int32) : inV (nxg g j c) := clp_r _
theorem x_chg (st c : Int32) : fX5_changeBy st c = some (chg st c) := by
  unfold fX5_changeBy fX5_changeBy_b15 fX5_changeBy_b27 chg nm
  repeat' split
  all_goals simp only [Int32.add_zero]
theorem x_clip (x : Int32) : fX6_clip x = some (clp x) := rfl
/-- a walk's place after a step -/
def wk (σ : Sg) (i : Nat) (g : Int32) (j : Nat) : Sg := up2 (up2 σ (82 + i) 0 g) (82 + i) 1 (nI j)
theorem wk_0 (σ : Sg) (i : Nat) (g : Int32) (j : Nat) : wk σ i g j (82 + i) 0 = g := by simp [wk, up2, upd]
theorem wk_1 (σ : Sg) (i : Nat) (g : Int32) (j : Nat) : wk σ i g j (82 + i) 1 = nI j := by simp [wk, up2, upd]
theorem wk_ne {σ : Sg} {i : Nat} {g : Int32} {j q : Nat} (h : q ≠ 82 + i) : wk σ i g j q = σ q := by simp [wk, up2, h]
theorem x_begin (i : Nat) (g : Int32) (j : Nat) (σ : Sg) : fX5_begin i g (nI j) σ = some (wk σ i g j) := rfl
theorem x_follow (i j : Nat) (c : Int32) (σ : Sg) (hj : j < 49) (h : σ (82 + i) 1 = nI j) : fX5_follow i c σ = some (wk σ i (nxg (σ (82 + i) 0) j c) (nxn j c)) := by
  have hb : ∀ x, fX5_follow_b35 i c x σ = some (wk σ i (clp x) (nxn j c)) := by
    intro x
    unfold fX5_follow_b35 fX5_follow_b72 wk
    simp only [x_clip, bd, nm, up2_self, pk_un (show (1 : Nat) ≠ 0 by decide), h, a7]
    rw [nxn_I c hj]
    unfold nxnI
    split <;> rfl
  unfold fX5_follow nxg
  rw [h, so_j j hj]
  simp only [bd, x_chg, hb]
  split <;> rfl
theorem m_guess {μ : Sg} (T : Tbl μ) {j : Nat} (hj : j < 49) (g c : Int32) : fX7_nextGuess g (nI j) c μ = some (nxg g j c) := by
  unfold fX7_nextGuess fX7_nextGuess_b29 fX7_nextGuess_b48 fX7_nextGuess_b67 nxg chg
  rw [gi hj (by decide), nI_clamp (by omega), T j hj]
  simp only [nm, m_clp, bd]
  repeat' split
  all_goals rfl
theorem nn_dec : ∀ b, b < 8 → ∀ j, j < 49 → (if 4 ≤ nI b then fX7_nextNumber_b23 (nI j + 2 * (nI b - 3)) else fX7_nextNumber_b23 (nI j - 1)) = some (nxnI j b) := by decide +kernel
theorem m_num {j : Nat} (hj : j < 49) (c : Int32) : fX7_nextNumber (nI j) c = some (nI (nxn j c)) := by
  unfold fX7_nextNumber nm
  rw [a7, nxn_I c hj]
  exact nn_dec _ (l8 c) j hj
theorem m_in (x a b : Int32) : fX7_in x a b = some (if a ≤ x ∧ x ≤ b then 1 else 0) := by
  unfold fX7_in
  simp only [Int32.lt_iff_toInt_lt, Int32.le_iff_toInt_le]
  by_cases h1 : x.toInt < a.toInt
  · rw [if_pos h1, if_neg (by omega)]
  · rw [if_neg h1]
    by_cases h2 : b.toInt < x.toInt
    · rw [if_pos h2, if_neg (by omega)]
    · rw [if_neg h2, if_pos (by omega)]
theorem x_isV (x : Int32) : fX6_isValue x = some (if -2048 ≤ x ∧ x ≤ 2047 then 1 else 0) := m_in x (-2048) 2047
theorem inV_iff (x : Int32) : (-2048 ≤ x ∧ x ≤ 2047) ↔ inV x := by
  have h1 : (-2048 : Int32).toInt = -2048 := by decide
  have h2 : (2047 : Int32).toInt = 2047 := by decide
  unfold inV
  simp only [Int32.le_iff_toInt_le, h1, h2]
theorem m_holds0 (μ : Sg) : fX7_holds 0 μ = some (1, up2 μ 20 0 0) := rfl
theorem m_holds {k : Int32} (hk : ¬ k = 0) (μ : Sg) : fX7_holds k μ = some (0, up2 μ 20 0 k) := by
  simp only [fX7_holds, nm, if_neg hk]
