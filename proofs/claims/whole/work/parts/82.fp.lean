/-! PURE: floating numbers: the bits that both sides build -/
theorem fq64 : FP.Core.b64.qmin = -1074 ∧ FP.Core.b64.qmax = 971 ∧ FP.Core.b64.tails = 2 ^ 52 ∧ FP.Core.b64.p = 53 := by decide
theorem fq32 : FP.Core.b32.qmin = -149 ∧ FP.Core.b32.qmax = 104 ∧ FP.Core.b32.tails = 2 ^ 23 ∧ FP.Core.b32.p = 24 := by decide
theorem fit64 {c : Nat} {q : Int} (h1 : 2 ^ 52 ≤ c) (h2 : c < 2 ^ 53) (h3 : -1074 ≤ q) (h4 : q ≤ 971) : FP.Core.fits FP.Core.b64 (FP.Core.Datum.fin false c q) := by
  obtain ⟨a1, a2, a3, a4⟩ := fq64
  refine ⟨by rw [a4]; exact h2, by rw [a1]; exact h3, by rw [a2]; exact h4, Or.inr (by rw [a3]; exact h1)⟩
theorem fit32 {c : Nat} {q : Int} (h1 : 2 ^ 23 ≤ c) (h2 : c < 2 ^ 24) (h3 : -149 ≤ q) (h4 : q ≤ 104) : FP.Core.fits FP.Core.b32 (FP.Core.Datum.fin false c q) := by
  obtain ⟨a1, a2, a3, a4⟩ := fq32
  refine ⟨by rw [a4]; exact h2, by rw [a1]; exact h3, by rw [a2]; exact h4, Or.inr (by rw [a3]; exact h1)⟩
theorem nn64 {x : UInt64} (h : FP.Core.val64 x ≠ FP.Core.Datum.nan) : x &&& 0x7fffffffffffffff ≤ 0x7ff0000000000000 := by
  rw [UInt64.le_iff_toNat_le, FP.Core.mask_toNat]
  exact (FP.Core.ne_nan x).mp h
theorem nn32 {x : UInt32} (h : FP.Core.val32 x ≠ FP.Core.Datum.nan) : x &&& 0x7fffffff ≤ 0x7f800000 := by
  rw [UInt32.le_iff_toNat_le, FP.Core.mask_toNat32]
  exact (FP.Core.ne_nan32 x).mp h
theorem fin_nn {s : Bool} {c : Nat} {q : Int} {d : FP.Core.Datum} (h : d = FP.Core.Datum.fin s c q) : d ≠ FP.Core.Datum.nan := by
  rw [h]
  intro z
  cases z
/-- a double of c times 2 to the q -/
def N64 (x : UInt64) (c : Nat) (q : Int) : Prop := FP.Core.val64 x = FP.Core.Datum.fin false c q ∧ 2 ^ 52 ≤ c ∧ c < 2 ^ 53
def N32 (x : UInt32) (c : Nat) (q : Int) : Prop := FP.Core.val32 x = FP.Core.Datum.fin false c q ∧ 2 ^ 23 ≤ c ∧ c < 2 ^ 24
theorem v64_2 : FP.Core.val64 4611686018427387904 = FP.Core.Datum.fin false (2 ^ 52) (-51) := by decide +kernel
theorem v64_h : FP.Core.val64 4602678819172646912 = FP.Core.Datum.fin false (2 ^ 52) (-53) := by decide +kernel
theorem v64_1 : FP.Core.val64 FP.dconst1 = FP.Core.Datum.fin false (2 ^ 52) (-52) := by decide +kernel
theorem v32_2 : FP.Core.val32 FP.fconst2 = FP.Core.Datum.fin false (2 ^ 23) (-22) := by decide +kernel
theorem v32_h : FP.Core.val32 1056964608 = FP.Core.Datum.fin false (2 ^ 23) (-24) := by decide +kernel
theorem v32_1 : FP.Core.val32 FP.fconst1 = FP.Core.Datum.fin false (2 ^ 23) (-23) := by decide +kernel
theorem N64.mul {x k : UInt64} {c : Nat} {q r : Int} (h : N64 x c q) (hk : FP.Core.val64 k = FP.Core.Datum.fin false (2 ^ 52) r) (h1 : -1074 ≤ q + r + 52) (h2 : q + r + 52 ≤ 971) : N64 (FP.dmul x k) c (q + r + 52) := by
  obtain ⟨a, b, d⟩ := h
  refine ⟨?_, b, d⟩
  show FP.Core.val64 (FP.Core.dmul x k) = _
  rw [FP.Core.val64_dmul, a, hk]
  show FP.Core.roundRatio FP.Core.b64 false (c * 2 ^ 52) 1 (q + r) = _
  refine FP.Core.roundRatio_exact FP.Core.good_b64 (by decide) (fit64 b d h1 h2) ?_
  rw [show (q + r - (q + r + 52)).toNat = 0 by omega, show (q + r + 52 - (q + r)).toNat = 52 by omega, Nat.pow_zero, Nat.mul_one, Nat.mul_one]
theorem N64.div2 {x : UInt64} {c : Nat} {q : Int} (h : N64 x c q) (h1 : -1074 ≤ q - 1) (h2 : q - 1 ≤ 971) : N64 (FP.ddiv x 4611686018427387904) c (q - 1) := by
  obtain ⟨a, b, d⟩ := h
  refine ⟨?_, b, d⟩
  show FP.Core.val64 (FP.Core.ddiv x 4611686018427387904) = _
  rw [FP.Core.val64_ddiv, a, v64_2]
  show (if (2 ^ 52 : Nat) = 0 then (if c = 0 then FP.Core.Datum.nan else FP.Core.Datum.inf false) else FP.Core.roundRatio FP.Core.b64 false c (2 ^ 52) (q - -51)) = _
  rw [if_neg (by decide)]
  refine FP.Core.roundRatio_exact FP.Core.good_b64 (by decide) (fit64 b d h1 h2) ?_
  rw [show (q - -51 - (q - 1)).toNat = 52 by omega, show (q - 1 - (q - -51)).toNat = 0 by omega, Nat.pow_zero, Nat.mul_one]
theorem N32.mul {x k : UInt32} {c : Nat} {q r : Int} (h : N32 x c q) (hk : FP.Core.val32 k = FP.Core.Datum.fin false (2 ^ 23) r) (h1 : -149 ≤ q + r + 23) (h2 : q + r + 23 ≤ 104) : N32 (FP.fmul x k) c (q + r + 23) := by
  obtain ⟨a, b, d⟩ := h
  refine ⟨?_, b, d⟩
  show FP.Core.val32 (FP.Core.fmul x k) = _
  rw [FP.Core.val32_fmul, a, hk]
  show FP.Core.roundRatio FP.Core.b32 false (c * 2 ^ 23) 1 (q + r) = _
  refine FP.Core.roundRatio_exact FP.Core.good_b32 (by decide) (fit32 b d h1 h2) ?_
  rw [show (q + r - (q + r + 23)).toNat = 0 by omega, show (q + r + 23 - (q + r)).toNat = 23 by omega, Nat.pow_zero, Nat.mul_one, Nat.mul_one]
theorem cmp_lt {p : Nat} {c : Nat} {q r : Int} (hc : c < 2 ^ (p + 1)) (h : q < r) : FP.Core.order (FP.Core.Datum.fin false c q) (FP.Core.Datum.fin false (2 ^ p) r) = some .lt := by
  show some (compare (FP.Core.signed false (c * 2 ^ (q - min q r).toNat)) (FP.Core.signed false (2 ^ p * 2 ^ (r - min q r).toNat))) = _
  rw [show (q - min q r).toNat = 0 by omega, Nat.pow_zero, Nat.mul_one, ← Nat.pow_add]
  have h2 : 2 ^ (p + 1) ≤ 2 ^ (p + (r - min q r).toNat) := Nat.pow_le_pow_right (by decide) (by omega)
  rw [(FP.Core.compare_lt_iff _ _).mpr]
  show (c : Int) < ((2 ^ (p + (r - min q r).toNat) : Nat) : Int)
  omega
theorem cmp_ge {p : Nat} {c : Nat} {q r : Int} (hc : 2 ^ p ≤ c) (h : r ≤ q) : FP.Core.order (FP.Core.Datum.fin false c q) (FP.Core.Datum.fin false (2 ^ p) r) = some .eq ∨ FP.Core.order (FP.Core.Datum.fin false c q) (FP.Core.Datum.fin false (2 ^ p) r) = some .gt := by
  have e : FP.Core.order (FP.Core.Datum.fin false c q) (FP.Core.Datum.fin false (2 ^ p) r) = some (compare (FP.Core.signed false (c * 2 ^ (q - min q r).toNat)) (FP.Core.signed false (2 ^ p * 2 ^ (r - min q r).toNat))) := rfl
  rw [e, show (r - min q r).toNat = 0 by omega, Nat.pow_zero, Nat.mul_one]
  have h2 : c ≤ c * 2 ^ (q - min q r).toNat := Nat.le_mul_of_pos_right c (Nat.two_pow_pos _)
  by_cases z : 2 ^ p = c * 2 ^ (q - min q r).toNat
  · refine Or.inl (congrArg some ((FP.Core.compare_eq_iff _ _).mpr ?_))
    show ((c * 2 ^ (q - min q r).toNat : Nat) : Int) = ((2 ^ p : Nat) : Int)
    omega
  · refine Or.inr (congrArg some ((FP.Core.compare_gt_iff _ _).mpr ?_))
    show ((2 ^ p : Nat) : Int) < ((c * 2 ^ (q - min q r).toNat : Nat) : Int)
    omega
/-! comparisons as the branches have them -/
theorem d_lt {x k : UInt64} {c : Nat} {q r : Int} (h : N64 x c q) (hk : FP.Core.val64 k = FP.Core.Datum.fin false (2 ^ 52) r) (hl : q < r) : FP.dcmp x k = some .lt := by
  show FP.Core.order (FP.Core.val64 x) (FP.Core.val64 k) = _
  rw [h.1, hk]
  exact cmp_lt h.2.2 hl
theorem d_ge {x k : UInt64} {c : Nat} {q r : Int} (h : N64 x c q) (hk : FP.Core.val64 k = FP.Core.Datum.fin false (2 ^ 52) r) (hl : r ≤ q) : FP.dcmp x k = some .eq ∨ FP.dcmp x k = some .gt := by
  have e : FP.dcmp x k = FP.Core.order (FP.Core.val64 x) (FP.Core.val64 k) := rfl
  rw [e, h.1, hk]
  exact cmp_ge h.2.1 hl
theorem f_lt {x k : UInt32} {c : Nat} {q r : Int} (h : N32 x c q) (hk : FP.Core.val32 k = FP.Core.Datum.fin false (2 ^ 23) r) (hl : q < r) : FP.fcmp x k = some .lt := by
  show FP.Core.order (FP.Core.val32 x) (FP.Core.val32 k) = _
  rw [h.1, hk]
  exact cmp_lt h.2.2 hl
theorem f_ge {x k : UInt32} {c : Nat} {q r : Int} (h : N32 x c q) (hk : FP.Core.val32 k = FP.Core.Datum.fin false (2 ^ 23) r) (hl : r ≤ q) : FP.fcmp x k = some .eq ∨ FP.fcmp x k = some .gt := by
  have e : FP.fcmp x k = FP.Core.order (FP.Core.val32 x) (FP.Core.val32 k) := rfl
  rw [e, h.1, hk]
  exact cmp_ge h.2.1 hl
theorem N64.nn {x : UInt64} {c : Nat} {q : Int} (h : N64 x c q) : x &&& 0x7fffffffffffffff ≤ 0x7ff0000000000000 := nn64 (fin_nn h.1)
theorem N32.nn {x : UInt32} {c : Nat} {q : Int} (h : N32 x c q) : x &&& 0x7fffffff ≤ 0x7f800000 := nn32 (fin_nn h.1)
theorem N64.same {x y : UInt64} {c : Nat} {q : Int} (h : N64 x c q) (h' : N64 y c q) : x = y := FP.Core.val64_inj (fin_nn h.1) (h.1.trans h'.1.symm)
/-! the class's loops -/
theorem x_down {a2 a3 : Int32} {c : Nat} {A : Nat} (hA : a3 = nI A) (hA2 : A < 2000) : ∀ (n f : Nat) (x : UInt64) (x6 : Int32) (q : Int) (m : Nat), n < f → q + n = -52 → -900 ≤ q → N64 x c q → x6 + a3 = nI (m + n) → 2 ≤ m → m + n < 4000 → ∃ X, fX6_bitsOf_L35 a2 a3 f x x6 = fX6_bitsOf_b64 a2 a3 X (nI m - a3) ∧ N64 X c (-52) := by
  intro n
  induction n with
  | zero =>
    intro f x x6 q m hf hq hq2 h hx hm hm2
    obtain ⟨f, rfl⟩ := fu1 hf
    have e6 : x6 = nI m - a3 := by
      rw [← Nat.add_zero m, ← hx, Int32.add_sub_cancel]
    obtain rfl : q = -52 := by omega
    refine ⟨x, ?_, h⟩
    rw [fX6_bitsOf_L35]
    rcases d_ge h v64_1 (by decide) with z | z
    · rw [z, if_pos (by decide), e6]
    · rw [z, if_pos (by decide), e6]
  | succ n ih =>
    intro f x x6 q m hf hq hq2 h hx hm hm2
    obtain ⟨f, rfl⟩ := fu1 hf
    have h2 := h.mul v64_2 (by omega) (by omega)
    rw [show q + -51 + 52 = q + 1 by omega] at h2
    have hx' : x6 + (-1) + a3 = nI (m + n) := by
      rw [Int32.add_assoc, Int32.add_comm (-1) a3, ← Int32.add_assoc, hx, show m + (n + 1) = (m + n) + 1 by omega, pk_m1]
    have e6 : x6 = nI (m + (n + 1)) - nI A := by rw [← hx, hA, Int32.add_sub_cancel]
    have hng : ¬ x6 ≤ 1 - a3 := by
      rw [e6, hA, Int32.le_iff_toInt_le, pk_sub_toInt (by omega) (by omega), show (1 : Int32) = nI 1 from rfl, pk_sub_toInt (by omega) (by omega)]
      omega
    obtain ⟨X, g1, g2⟩ := ih f (FP.dmul x 4611686018427387904) (x6 + (-1)) (q + 1) m (by omega) (by omega) (by omega) h2 hx' hm (by omega)
    refine ⟨X, ?_, g2⟩
    rw [fX6_bitsOf_L35, d_lt h v64_1 (by omega), if_neg (show ¬ (0 : Int32) ≤ Op.cmpValue (some .lt) .g by decide), if_neg hng, gd_of h2.nn, nm_s, nm_s]
    exact g1
theorem x_up {a2 a3 : Int32} {c : Nat} {A : Nat} (hA : a3 = nI A) (hA2 : A < 1024) : ∀ (n f : Nat) (x : UInt64) (q : Int) (e : Nat), n < f → q = -52 + n → N64 x c q → e + n + 3 < A → ∃ X, fX6_bitsOf_L6 a2 a3 f x (nI e) = fX6_bitsOf_b64 a2 a3 X (nI (A + e + n) - a3) ∧ N64 X c (-52) := by
  intro n
  induction n with
  | zero =>
    intro f x q e hf hq h he
    obtain ⟨f, rfl⟩ := fu1 hf
    obtain rfl : q = -52 := by omega
    obtain ⟨X, g1, g2⟩ := x_down (a2 := a2) hA (by omega) 0 80 x (nI e) (-52) (A + e) (by decide) (by decide) (by decide) h (by rw [hA, nI_add]; exact congrArg nI (by omega)) (by omega) (by omega)
    refine ⟨X, ?_, g2⟩
    rw [fX6_bitsOf_L6, d_lt h v64_2 (by decide), if_pos (show Op.cmpValue (some .lt) .l < 0 by decide)]
    exact g1
  | succ n ih =>
    intro f x q e hf hq h he
    obtain ⟨f, rfl⟩ := fu1 hf
    have h2 := h.div2 (by omega) (by omega)
    obtain ⟨X, g1, g2⟩ := ih f (FP.ddiv x 4611686018427387904) (q - 1) (e + 1) (by omega) (by omega) h2 (by omega)
    refine ⟨X, ?_, g2⟩
    have hng : ¬ a3 ≤ nI e := by
      rw [hA]
      exact nI_ge (by omega) (by omega)
    have hcmp : ¬ Op.cmpValue (FP.dcmp x 4611686018427387904) .l < 0 := by
      rcases d_ge h v64_2 (by omega) with z | z
      · rw [z]; decide
      · rw [z]; decide
    rw [fX6_bitsOf_L6, if_neg hcmp, if_neg hng, gd_of h2.nn, nm_s, nm_s, nI_1, show A + e + (n + 1) = A + (e + 1) + n by omega]
    exact g1
/-- the class's bits: the exponent K + A, and what is left of the number -/
theorem x_bits {a2 a3 : Int32} {c A : Nat} (hA : a3 = nI A) (hA2 : A < 1024) (hA3 : 120 ≤ A) {x : UInt64} {q : Int} (h : N64 x c q) (h1 : -130 ≤ q) (h2 : q ≤ 20) (h1' : -52 - q < 79) (h2' : q + 52 < 79) : ∃ X m, fX6_bitsOf x a2 a3 = fX6_bitsOf_b64 a2 a3 X (nI m - a3) ∧ N64 X c (-52) ∧ (m : Int) = A + (q + 52) := by
  unfold fX6_bitsOf
  by_cases hq : -52 ≤ q
  · obtain ⟨X, g1, g2⟩ := x_up (a2 := a2) hA hA2 (q + 52).toNat 80 x q 0 (by omega) (by omega) h (by omega)
    exact ⟨X, A + 0 + (q + 52).toNat, g1, g2, by omega⟩
  · obtain ⟨X, g1, g2⟩ := x_down (a2 := a2) hA (by omega) (-52 - q).toNat 80 x 0 q (A - (-52 - q).toNat) (by omega) (by omega) (by omega) h (by rw [hA, Int32.zero_add]; exact congrArg nI (by omega)) (by omega) (by omega)
    refine ⟨X, A - (-52 - q).toNat, ?_, g2, by omega⟩
    obtain ⟨F, hF⟩ : ∃ F, F + 1 = 80 := ⟨79, rfl⟩
    rw [show fX6_bitsOf_L6 a2 a3 80 x 0 = fX6_bitsOf_L6 a2 a3 (F + 1) x 0 by rw [hF], fX6_bitsOf_L6, d_lt h v64_2 (by omega), if_pos (show Op.cmpValue (some .lt) .l < 0 by decide)]
    exact g1
/-! the model's loops -/
theorem m_up {c : Nat} : ∀ (n f : Nat) (x : UInt64) (q : Int) (e : Nat), n < f → q = -52 + n → N64 x c q → n < 900 → ∃ X, fX7_bitsOf_L37 f (lN e) x = (gd ((FP.dsub X FP.dconst1) &&& 0x7fffffffffffffff ≤ 0x7ff0000000000000) <| gd ((FP.dmul (FP.dsub X FP.dconst1) 4841369599423283200) &&& 0x7fffffffffffffff ≤ 0x7ff0000000000000) <| some ((lN (e + n) * 4503599627370496) + (FP.d2l (FP.dmul (FP.dsub X FP.dconst1) 4841369599423283200)))) ∧ N64 X c (-52) := by
  intro n
  induction n with
  | zero =>
    intro f x q e hf hq h hn
    obtain ⟨f, rfl⟩ := fu1 hf
    obtain rfl : q = -52 := by omega
    refine ⟨x, ?_, h⟩
    rw [fX7_bitsOf_L37, d_lt h v64_2 (by decide), if_pos (show Op.cmpValue (some .lt) .l < 0 by decide)]
    rfl
  | succ n ih =>
    intro f x q e hf hq h hn
    obtain ⟨f, rfl⟩ := fu1 hf
    have h2 := h.mul v64_h (by omega) (by omega)
    rw [show q + -53 + 52 = q - 1 by omega] at h2
    obtain ⟨X, g1, g2⟩ := ih f (FP.dmul x 4602678819172646912) (q - 1) (e + 1) (by omega) (by omega) h2 (by omega)
    have hcmp : ¬ Op.cmpValue (FP.dcmp x 4611686018427387904) .l < 0 := by
      rcases d_ge h v64_2 (by omega) with z | z
      · rw [z]; decide
      · rw [z]; decide
    refine ⟨X, ?_, g2⟩
    rw [fX7_bitsOf_L37, if_neg hcmp, gd_of h2.nn, nm_s, nm_s, lN_1, show e + (n + 1) = e + 1 + n by omega]
    exact g1
theorem lN_m1 (n : Nat) : lN (n + 1) - 1 = lN n := by
  rw [← lN_1, Int64.add_sub_cancel]
theorem m_down {c : Nat} : ∀ (n f : Nat) (x : UInt64) (q : Int) (m : Nat), n < f → q + n = -52 → -900 ≤ q → N64 x c q → ∃ X, fX7_bitsOf_L15 f (lN (m + n)) x = fX7_bitsOf_L37 80 (lN m) X ∧ N64 X c (-52) := by
  intro n
  induction n with
  | zero =>
    intro f x q m hf hq hq2 h
    obtain ⟨f, rfl⟩ := fu1 hf
    obtain rfl : q = -52 := by omega
    refine ⟨x, ?_, h⟩
    rw [fX7_bitsOf_L15]
    rcases d_ge h v64_1 (by decide) with z | z
    · rw [z, if_pos (by decide), Nat.add_zero]
    · rw [z, if_pos (by decide), Nat.add_zero]
  | succ n ih =>
    intro f x q m hf hq hq2 h
    obtain ⟨f, rfl⟩ := fu1 hf
    have h2 := h.mul v64_2 (by omega) (by omega)
    rw [show q + -51 + 52 = q + 1 by omega] at h2
    obtain ⟨X, g1, g2⟩ := ih f (FP.dmul x 4611686018427387904) (q + 1) m (by omega) (by omega) (by omega) h2
    refine ⟨X, ?_, g2⟩
    rw [fX7_bitsOf_L15, d_lt h v64_1 (by omega), if_neg (show ¬ (0 : Int32) ≤ Op.cmpValue (some .lt) .g by decide), gd_of h2.nn, nm_s, nm_s, show m + (n + 1) = m + n + 1 by omega, lN_m1]
    exact g1
