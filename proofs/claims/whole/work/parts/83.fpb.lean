/-! PURE: floating numbers: what both tell of the mean and of the loudness -/
theorem log2_r {A P : Nat} (h1 : 2 ^ P ≤ A) (h2 : A < 2 ^ (P + 1)) : A.log2 = P := by
  have hA : A ≠ 0 := by
    have := Nat.two_pow_pos P
    omega
  have l1 : 2 ^ A.log2 ≤ A := Nat.log2_self_le hA
  have l2 : A < 2 ^ (A.log2 + 1) := Nat.lt_log2_self
  have a : A.log2 < P + 1 := (Nat.pow_lt_pow_iff_right (by decide : 1 < 2)).mp (Nat.lt_of_le_of_lt l1 h2)
  have b : P < A.log2 + 1 := (Nat.pow_lt_pow_iff_right (by decide : 1 < 2)).mp (Nat.lt_of_le_of_lt h1 l2)
  omega
theorem rrN {f : FP.Core.Fmt} (hf : FP.Core.Good f) {A B : Nat} {e L : Int} (hA : 0 < A) (hB : 0 < B) (hL : L = (A.log2 : Int) - (B.log2 : Int)) (h1 : f.qmin < L - 1 + e - ((f.p : Int) - 1)) (h2 : L + e - ((f.p : Int) - 1) + 1 ≤ f.qmax) : ∃ c q, FP.Core.roundRatio f false A B e = FP.Core.Datum.fin false c q ∧ f.tails ≤ c ∧ c < 2 ^ f.p ∧ L - 1 + e - ((f.p : Int) - 1) ≤ q ∧ q ≤ L + e - ((f.p : Int) - 1) + 1 := by
  have hlead : FP.Core.leading A B = L ∨ FP.Core.leading A B = L - 1 := by
    unfold FP.Core.leading
    rw [hL]
    show (if _ then _ else _) = _ ∨ (if _ then _ else _) = _
    split
    · exact Or.inl rfl
    · exact Or.inr rfl
  have hq : FP.Core.quantum f A B e = L + e - ((f.p : Int) - 1) ∨ FP.Core.quantum f A B e = L - 1 + e - ((f.p : Int) - 1) := by
    unfold FP.Core.quantum
    rcases hlead with z | z
    · rw [z]; omega
    · rw [z]; omega
  have hfit := FP.Core.roundRatio_fits hf false A hB e
  have hrr : FP.Core.roundRatio f false A B e = FP.Core.settle f false (FP.Core.nearest (FP.Core.unitsNum A e (FP.Core.quantum f A B e)) (FP.Core.unitsDen B e (FP.Core.quantum f A B e))) (FP.Core.quantum f A B e) := by
    unfold FP.Core.roundRatio FP.Core.roundAt
    rw [if_neg (by omega)]
  have hfin : ∃ c q, FP.Core.roundRatio f false A B e = FP.Core.Datum.fin false c q ∧ (q = FP.Core.quantum f A B e ∨ q = FP.Core.quantum f A B e + 1) := by
    rw [hrr]
    unfold FP.Core.settle FP.Core.bound
    split
    · rw [if_pos (by omega)]
      exact ⟨_, _, rfl, Or.inl rfl⟩
    · rw [if_pos (by omega)]
      exact ⟨_, _, rfl, Or.inr rfl⟩
  obtain ⟨c, q, e1, e2⟩ := hfin
  rw [e1] at hfit
  obtain ⟨f1, f2, f3, f4⟩ := hfit
  refine ⟨c, q, e1, ?_, f1, by omega, by omega⟩
  rcases f4 with z | z
  · omega
  · exact z
theorem i2d_N {n : Nat} (h1 : 0 < n) (h2 : n < 2 ^ 31) : ∃ c q, N64 (FP.i2d (nI n)) c q ∧ -53 ≤ q ∧ q ≤ (n.log2 : Int) - 51 := by
  obtain ⟨a1, a2, a3, a4⟩ := fq64
  have hl : n.log2 < 31 := (Nat.pow_lt_pow_iff_right (by decide : 1 < 2)).mp (Nat.lt_of_le_of_lt (Nat.log2_self_le (by omega)) h2)
  obtain ⟨c, q, e1, e2, e3, e4, e5⟩ := rrN (f := FP.Core.b64) FP.Core.good_b64 (A := n) (B := 1) (e := 0) (L := n.log2) h1 (by decide) (by rw [show Nat.log2 1 = 0 by decide]; omega) (by rw [a1, a4]; omega) (by rw [a2, a4]; omega)
  rw [a4] at e3 e4 e5
  rw [a3] at e2
  refine ⟨c, q, ⟨?_, e2, e3⟩, by omega, by omega⟩
  show FP.Core.val64 (FP.Core.i2d (nI n)) = _
  rw [FP.Core.val64_i2d, nI_toInt (by omega)]
  show FP.Core.roundRatio FP.Core.b64 (decide ((n : Int) < 0)) ((n : Int)).natAbs 1 0 = _
  rw [show decide ((n : Int) < 0) = false from decide_eq_false (by omega), Int.natAbs_natCast]
  exact e1
theorem i2f_N {n : Nat} (h1 : 0 < n) (h2 : n < 2 ^ 31) : ∃ c q, N32 (FP.i2f (nI n)) c q ∧ -24 ≤ q ∧ q ≤ 8 := by
  obtain ⟨a1, a2, a3, a4⟩ := fq32
  have hl : n.log2 < 31 := (Nat.pow_lt_pow_iff_right (by decide : 1 < 2)).mp (Nat.lt_of_le_of_lt (Nat.log2_self_le (by omega)) h2)
  obtain ⟨c, q, e1, e2, e3, e4, e5⟩ := rrN (f := FP.Core.b32) FP.Core.good_b32 (A := n) (B := 1) (e := 0) (L := n.log2) h1 (by decide) (by rw [show Nat.log2 1 = 0 by decide]; omega) (by rw [a1, a4]; omega) (by rw [a2, a4]; omega)
  rw [a4] at e3 e4 e5
  rw [a3] at e2
  refine ⟨c, q, ⟨?_, e2, e3⟩, by omega, by omega⟩
  show FP.Core.val32 (FP.Core.i2f (nI n)) = _
  rw [FP.Core.val32_i2f, nI_toInt (by omega)]
  show FP.Core.roundRatio FP.Core.b32 (decide ((n : Int) < 0)) ((n : Int)).natAbs 1 0 = _
  rw [show decide ((n : Int) < 0) = false from decide_eq_false (by omega), Int.natAbs_natCast]
  exact e1
theorem ddiv_N {x y : UInt64} {c d : Nat} {q r : Int} (hx : N64 x c q) (hy : N64 y d r) (h1 : -900 ≤ q - r) (h2 : q - r ≤ 900) : ∃ c' q', N64 (FP.ddiv x y) c' q' ∧ q - r - 53 ≤ q' ∧ q' ≤ q - r - 51 := by
  obtain ⟨a1, a2, a3, a4⟩ := fq64
  obtain ⟨x1, x2, x3⟩ := hx
  obtain ⟨y1, y2, y3⟩ := hy
  obtain ⟨c', q', e1, e2, e3, e4, e5⟩ := rrN (f := FP.Core.b64) FP.Core.good_b64 (A := c) (B := d) (e := q - r) (L := 0) (by omega) (by omega) (by rw [log2_r (P := 52) x2 x3, log2_r (P := 52) y2 y3]; omega) (by rw [a1, a4]; omega) (by rw [a2, a4]; omega)
  rw [a4] at e3 e4 e5
  rw [a3] at e2
  refine ⟨c', q', ⟨?_, e2, e3⟩, by omega, by omega⟩
  show FP.Core.val64 (FP.Core.ddiv x y) = _
  rw [FP.Core.val64_ddiv, x1, y1]
  show (if d = 0 then (if c = 0 then FP.Core.Datum.nan else FP.Core.Datum.inf false) else FP.Core.roundRatio FP.Core.b64 false c d (q - r)) = _
  rw [if_neg (by omega)]
  exact e1
theorem fdiv_N {x y : UInt32} {c d : Nat} {q r : Int} (hx : N32 x c q) (hy : N32 y d r) (h1 : -100 ≤ q - r) (h2 : q - r ≤ 100) : ∃ c' q', N32 (FP.fdiv x y) c' q' ∧ q - r - 24 ≤ q' ∧ q' ≤ q - r - 22 := by
  obtain ⟨a1, a2, a3, a4⟩ := fq32
  obtain ⟨x1, x2, x3⟩ := hx
  obtain ⟨y1, y2, y3⟩ := hy
  obtain ⟨c', q', e1, e2, e3, e4, e5⟩ := rrN (f := FP.Core.b32) FP.Core.good_b32 (A := c) (B := d) (e := q - r) (L := 0) (by omega) (by omega) (by rw [log2_r (P := 23) x2 x3, log2_r (P := 23) y2 y3]; omega) (by rw [a1, a4]; omega) (by rw [a2, a4]; omega)
  rw [a4] at e3 e4 e5
  rw [a3] at e2
  refine ⟨c', q', ⟨?_, e2, e3⟩, by omega, by omega⟩
  show FP.Core.val32 (FP.Core.fdiv x y) = _
  rw [FP.Core.val32_fdiv, x1, y1]
  show (if d = 0 then (if c = 0 then FP.Core.Datum.nan else FP.Core.Datum.inf false) else FP.Core.roundRatio FP.Core.b32 false c d (q - r)) = _
  rw [if_neg (by omega)]
  exact e1
theorem f2d_N {x : UInt32} {c : Nat} {q : Int} (h : N32 x c q) (h1 : -149 ≤ q) (h2 : q ≤ 104) : N64 (FP.f2d x) (c * 2 ^ 29) (q - 29) := by
  obtain ⟨a, b, d⟩ := h
  have hn : FP.Core.fIsNaN x = false := (FP.Core.notNaN_iff32 x).mpr (fin_nn a)
  have e : FP.f2d x = FP.Core.f2d x := by
    unfold FP.f2d
    rw [hn]
    rfl
  refine ⟨?_, by omega, by omega⟩
  rw [e, FP.Core.val64_f2d, a]
  show FP.Core.roundRatio FP.Core.b64 false c 1 q = _
  refine FP.Core.roundRatio_exact FP.Core.good_b64 (by decide) (fit64 (by omega) (by omega) (by omega) (by omega)) ?_
  rw [show (q - (q - 29)).toNat = 29 by omega, show (q - 29 - q).toNat = 0 by omega, Nat.pow_zero, Nat.mul_one, Nat.mul_one]
theorem d_0 : FP.Core.val64 FP.dconst0 = FP.Core.Datum.fin false 0 (-1074) := by decide +kernel
theorem f_0 : FP.Core.val32 FP.fconst0 = FP.Core.Datum.fin false 0 (-149) := by decide +kernel
theorem gt0 {c : Nat} {q r : Int} (hc : 0 < c) : FP.Core.order (FP.Core.Datum.fin false c q) (FP.Core.Datum.fin false 0 r) = some .gt := by
  show some (compare (FP.Core.signed false (c * 2 ^ (q - min q r).toNat)) (FP.Core.signed false (0 * 2 ^ (r - min q r).toNat))) = _
  refine congrArg some ((FP.Core.compare_gt_iff _ _).mpr ?_)
  rw [Nat.zero_mul]
  show ((0 : Nat) : Int) < ((c * 2 ^ (q - min q r).toNat : Nat) : Int)
  have := Nat.mul_pos hc (Nat.two_pow_pos (q - min q r).toNat)
  omega
theorem N64.pos {x : UInt64} {c : Nat} {q : Int} (h : N64 x c q) : FP.dcmp x FP.dconst0 = some .gt := by
  show FP.Core.order (FP.Core.val64 x) (FP.Core.val64 FP.dconst0) = _
  rw [h.1, d_0]
  exact gt0 (by have := h.2.1; omega)
theorem N32.pos {x : UInt32} {c : Nat} {q : Int} (h : N32 x c q) : FP.fcmp x FP.fconst0 = some .gt := by
  show FP.Core.order (FP.Core.val32 x) (FP.Core.val32 FP.fconst0) = _
  rw [h.1, f_0]
  exact gt0 (by have := h.2.1; omega)
/-- one taken off a number from 1 to 2 -/
theorem sub1_64 {X : UInt64} {c : Nat} (h : N64 X c (-52)) : ∃ c' q', FP.Core.val64 (FP.dsub X FP.dconst1) = FP.Core.Datum.fin false c' q' ∧ -1074 ≤ q' ∧ c' * 2 ^ (q' - -1074).toNat = (c - 2 ^ 52) * 2 ^ 1022 := by
  obtain ⟨a1, a2, a3, a4⟩ := fq64
  obtain ⟨x1, x2, x3⟩ := h
  have hs : FP.Core.exactSum (FP.Core.Datum.fin false c (-52)) (FP.Core.negate (FP.Core.Datum.fin false (2 ^ 52) (-52))) = FP.Core.Datum.fin false (c - 2 ^ 52) (-52) := by
    show FP.Core.Datum.fin (FP.Core.sumSign false true (FP.Core.sumUnits false c (-52) true (2 ^ 52) (-52) (min (-52) (-52)))) (FP.Core.sumUnits false c (-52) true (2 ^ 52) (-52) (min (-52) (-52))).natAbs (min (-52) (-52)) = _
    have hu : FP.Core.sumUnits false c (-52) true (2 ^ 52) (-52) (min (-52) (-52)) = (c : Int) - 2 ^ 52 := by
      show ((c * 2 ^ ((-52 : Int) - min (-52) (-52)).toNat : Nat) : Int) + -((2 ^ 52 * 2 ^ ((-52 : Int) - min (-52) (-52)).toNat : Nat) : Int) = _
      rw [show ((-52 : Int) - min (-52) (-52)).toNat = 0 by decide, Nat.pow_zero, Nat.mul_one, Nat.mul_one]
      omega
    rw [hu]
    have hsg : FP.Core.sumSign false true ((c : Int) - 2 ^ 52) = false := by
      unfold FP.Core.sumSign
      split
      · rfl
      · exact decide_eq_false (by omega)
    rw [hsg, show ((c : Int) - 2 ^ 52).natAbs = c - 2 ^ 52 by omega]
    rfl
  obtain ⟨c', q', e1, e2⟩ := FP.Core.round_exact (f := FP.Core.b64) FP.Core.good_b64 false (c := c - 2 ^ 52) (q := -52) (by rw [a4]; omega) (by rw [a1]; decide) (by rw [a2]; decide)
  have hv : FP.Core.val64 (FP.dsub X FP.dconst1) = FP.Core.Datum.fin false c' q' := by
    show FP.Core.val64 (FP.Core.dsub X FP.dconst1) = _
    rw [FP.Core.val64_dsub, x1, v64_1, hs, e1]
  have hfit := FP.Core.val64_fits (FP.dsub X FP.dconst1)
  rw [hv] at hfit
  have hq := hfit.2.1
  rw [a1] at hq e2
  exact ⟨c', q', hv, hq, e2⟩
theorem sub1_32 {X : UInt32} {c : Nat} (h : N32 X c (-23)) : ∃ c' q', FP.Core.val32 (FP.fsub X FP.fconst1) = FP.Core.Datum.fin false c' q' ∧ -149 ≤ q' ∧ c' * 2 ^ (q' - -149).toNat = (c - 2 ^ 23) * 2 ^ 126 := by
  obtain ⟨a1, a2, a3, a4⟩ := fq32
  obtain ⟨x1, x2, x3⟩ := h
  have hs : FP.Core.exactSum (FP.Core.Datum.fin false c (-23)) (FP.Core.negate (FP.Core.Datum.fin false (2 ^ 23) (-23))) = FP.Core.Datum.fin false (c - 2 ^ 23) (-23) := by
    show FP.Core.Datum.fin (FP.Core.sumSign false true (FP.Core.sumUnits false c (-23) true (2 ^ 23) (-23) (min (-23) (-23)))) (FP.Core.sumUnits false c (-23) true (2 ^ 23) (-23) (min (-23) (-23))).natAbs (min (-23) (-23)) = _
    have hu : FP.Core.sumUnits false c (-23) true (2 ^ 23) (-23) (min (-23) (-23)) = (c : Int) - 2 ^ 23 := by
      show ((c * 2 ^ ((-23 : Int) - min (-23) (-23)).toNat : Nat) : Int) + -((2 ^ 23 * 2 ^ ((-23 : Int) - min (-23) (-23)).toNat : Nat) : Int) = _
      rw [show ((-23 : Int) - min (-23) (-23)).toNat = 0 by decide, Nat.pow_zero, Nat.mul_one, Nat.mul_one]
      omega
    rw [hu]
    have hsg : FP.Core.sumSign false true ((c : Int) - 2 ^ 23) = false := by
      unfold FP.Core.sumSign
      split
      · rfl
      · exact decide_eq_false (by omega)
    rw [hsg, show ((c : Int) - 2 ^ 23).natAbs = c - 2 ^ 23 by omega]
    rfl
  obtain ⟨c', q', e1, e2⟩ := FP.Core.round_exact (f := FP.Core.b32) FP.Core.good_b32 false (c := c - 2 ^ 23) (q := -23) (by rw [a4]; omega) (by rw [a1]; decide) (by rw [a2]; decide)
  have hv : FP.Core.val32 (FP.fsub X FP.fconst1) = FP.Core.Datum.fin false c' q' := by
    show FP.Core.val32 (FP.Core.fsub X FP.fconst1) = _
    rw [FP.Core.val32_fsub, x1, v32_1, hs, e1]
  have hfit := FP.Core.val32_fits (FP.fsub X FP.fconst1)
  rw [hv] at hfit
  have hq := hfit.2.1
  rw [a1] at hq e2
  exact ⟨c', q', hv, hq, e2⟩
theorem mulp_64 {y k : UInt64} {c : Nat} {q r : Int} (hy : FP.Core.val64 y = FP.Core.Datum.fin false c q) (hk : FP.Core.val64 k = FP.Core.Datum.fin false (2 ^ 52) r) : FP.Core.val64 (FP.dmul y k) = FP.Core.round FP.Core.b64 (FP.Core.Datum.fin false (c * 2 ^ 52) (q + r)) := by
  show FP.Core.val64 (FP.Core.dmul y k) = _
  rw [FP.Core.val64_dmul, hy, hk]
  rfl
theorem mulp_32 {y k : UInt32} {c : Nat} {q r : Int} (hy : FP.Core.val32 y = FP.Core.Datum.fin false c q) (hk : FP.Core.val32 k = FP.Core.Datum.fin false (2 ^ 23) r) : FP.Core.val32 (FP.fmul y k) = FP.Core.round FP.Core.b32 (FP.Core.Datum.fin false (c * 2 ^ 23) (q + r)) := by
  show FP.Core.val32 (FP.Core.fmul y k) = _
  rw [FP.Core.val32_fmul, hy, hk]
  rfl
theorem rnd_nn {f : FP.Core.Fmt} {c : Nat} {q : Int} : FP.Core.round f (FP.Core.Datum.fin false c q) ≠ FP.Core.Datum.nan := FP.Core.roundRatio_ne_nan f false c 1 q
theorem pw {c t u a k b : Nat} (h : c * 2 ^ u = t * 2 ^ a) (hb : a + k = b) : c * 2 ^ k * 2 ^ (u - b) = t * 2 ^ (b - u) := by
  rcases Nat.lt_or_ge u b with q | q
  · rw [show u - b = 0 by omega, Nat.pow_zero, Nat.mul_one]
    refine Nat.eq_of_mul_eq_mul_right (Nat.two_pow_pos u) ?_
    rw [Nat.mul_assoc, Nat.mul_comm (2 ^ k), ← Nat.mul_assoc, h, Nat.mul_assoc, Nat.mul_assoc, ← Nat.pow_add, ← Nat.pow_add, hb, show b - u + u = b by omega]
  · rw [show b - u = 0 by omega, Nat.pow_zero, Nat.mul_one]
    refine Nat.eq_of_mul_eq_mul_right (Nat.two_pow_pos a) ?_
    rw [← h, Nat.mul_assoc, Nat.mul_assoc, ← Nat.pow_add, ← Nat.pow_add, show k + (u - b + a) = u by omega]
theorem k52 : FP.Core.val64 4841369599423283200 = FP.Core.Datum.fin false (2 ^ 52) 0 := by decide +kernel
theorem l2d_23 : FP.Core.val64 (FP.l2d 8388608) = FP.Core.Datum.fin false (2 ^ 52) (-29) := by decide +kernel
theorem k23 : FP.Core.val32 1258291200 = FP.Core.Datum.fin false (2 ^ 23) 0 := by decide +kernel
theorem l2d_52 : FP.l2d 4503599627370496 = 4841369599423283200 := by decide +kernel
theorem sh52 : (1 : Int64) <<< ((52 : Int32).toInt64 &&& 63) = 4503599627370496 := by decide +kernel
theorem sh23 : (1 : Int64) <<< ((23 : Int32).toInt64 &&& 63) = 8388608 := by decide +kernel
/-- the bits of the double, both sides -/
theorem bits_d {x : UInt64} {c : Nat} {q : Int} (h : N64 x c q) (h1 : -90 ≤ q) (h2 : q ≤ 20) : ∃ v, fX6_bitsOfDouble x = some v ∧ fX7_bitsOf x = some v := by
  obtain ⟨X, m, g1, g2, g3⟩ := x_bits (a2 := 52) (a3 := 1023) (A := 1023) rfl (by decide) (by decide) h (by omega) (by omega) (by omega) (by omega)
  obtain ⟨c', q', s1, s2, s3⟩ := sub1_64 g2
  have n1 : (FP.dsub X FP.dconst1) &&& 0x7fffffffffffffff ≤ 0x7ff0000000000000 := nn64 (fin_nn s1)
  have n2 : (FP.dmul (FP.dsub X FP.dconst1) 4841369599423283200) &&& 0x7fffffffffffffff ≤ 0x7ff0000000000000 := nn64 (by rw [mulp_64 s1 k52]; exact rnd_nn)
  refine ⟨lN m * 4503599627370496 + FP.d2l (FP.dmul (FP.dsub X FP.dconst1) 4841369599423283200), ?_, ?_⟩
  · unfold fX6_bitsOfDouble
    rw [h.pos, if_neg (show ¬ Op.cmpValue (some .gt) .l ≤ 0 by decide), g1]
    unfold fX6_bitsOf_b64
    rw [nm_s, sh52, l2d_52, gd_of n1, gd_of n2, bd_s, show nI m - 1023 + 1023 = nI m from Int32.sub_add_cancel _ _, nI_l (by omega)]
  · have hp : ¬ Op.cmpValue (FP.dcmp x FP.dconst0) .l = 0 := by rw [h.pos]; decide
    unfold fX7_bitsOf
    rw [if_neg hp]
    by_cases hq : -52 ≤ q
    · obtain ⟨Y, y1, y2⟩ := m_up (c := c) (q + 52).toNat 80 x q 1023 (by omega) (by omega) h (by omega)
      obtain rfl := y2.same g2
      obtain ⟨F, hF⟩ : ∃ F, F + 1 = 80 := ⟨79, rfl⟩
      have hc : fX7_bitsOf_L15 (F + 1) 1023 x = fX7_bitsOf_L37 80 1023 x := by
        rw [fX7_bitsOf_L15]
        rcases d_ge h v64_1 hq with z | z
        · rw [z, if_pos (by decide)]
        · rw [z, if_pos (by decide)]
      rw [← hF, hc, show (1023 : Int64) = lN 1023 from rfl, y1, gd_of n1, gd_of n2, show 1023 + (q + 52).toNat = m by omega]
    · obtain ⟨Z, z1, z2⟩ := m_down (c := c) (-52 - q).toNat 80 x q m (by omega) (by omega) (by omega) h
      obtain ⟨Y, y1, y2⟩ := m_up (c := c) 0 80 Z (-52) m (by decide) (by decide) z2 (by decide)
      obtain rfl := y2.same g2
      rw [show (1023 : Int64) = lN (m + (-52 - q).toNat) from by rw [show m + (-52 - q).toNat = 1023 by omega]; rfl, z1, y1, gd_of n1, gd_of n2, Nat.add_zero]
