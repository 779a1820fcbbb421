/-! PURE: floating numbers: what both tell of the mean and of the loudness -/
theorem log2_r {A P : Nat} (h1 : 2 ^ P ≤ A) (h2 : A < 2 ^ (P + 1)) : A.log2 = P := by
  have hA : A ≠ 0 := by
    have := Nat.two_pow_pos P
    omega
  have l1 : 2 ^ A.log2 ≤ A := Nat.log2_self_le hA
  have l2 : A < 2 ^ (A.log2 + 1) := Nat.lt_log2_self
  have a : A.log2 < P + 1 := (Nat.pow_lt_pow_iff_right (by decide : 1 < 2)).mp (Nat.lt_of_le_of_lt l1 h2)
  have b : P < A.log2 + 1 := (Nat.pow_lt_pow_iff_right (by decide : 1 < 2)).mp (Nat.lt_of_le_of_lt h1 l2)
  omega
theorem rrN {f : FP.Core.Fmt} (hf : FP.Core.Good f) {A B : Nat} {e L : Int} (hA : 0 < A) (hB : 0 < B) (hL : L = (A.log2 : Int) - (B.log2 : Int)) (h1 : f.qmin < L - 1 + e - ((f.p : Int) - 1)) (h2 : L + e - ((f.p : Int) - 1) + 1 ≤ f.qmax) : ∃ c q, FP.Core.roundRatio f false A B e = FP.Core.Datum.fin false c q ∧ f.tails ≤ c ∧ c < 2 ^ f.p ∧ L - 1 + e - ((f.p : Int) - 1) ≤ q ∧ q ≤ L + e - ((f.p : Int) - 1) + 1 := by
  have hlead : FP.Core.leading A B = L ∨ FP.Core.leading A B = L - 1 := by
    unfold FP.Core.leading
    rw [hL]
    show (if _ then _ else _) = _ ∨ (if _ then _ else _) = _
    split
    · exact Or.inl rfl
    · exact Or.inr rfl
  have hq : FP.Core.quantum f A B e = L + e - ((f.p : Int) - 1) ∨ FP.Core.quantum f A B e = L - 1 + e - ((f.p : Int) - 1) := by
    unfold FP.Core.quantum
    rcases hlead with z | z
    · rw [z]; omega
    · rw [z]; omega
  have hfit := FP.Core.roundRatio_fits hf false A hB e
  have hrr : FP.Core.roundRatio f false A B e = FP.Core.settle f false (FP.Core.nearest (FP.Core.unitsNum A e (FP.Core.quantum f A B e)) (FP.Core.unitsDen B e (FP.Core.quantum f A B e))) (FP.Core.quantum f A B e) := by
    unfold FP.Core.roundRatio FP.Core.roundAt
    rw [if_neg (by omega)]
  have hfin : ∃ c q, FP.Core.roundRatio f false A B e = FP.Core.Datum.fin false c q ∧ (q = FP.Core.quantum f A B e ∨ q = FP.Core.quantum f A B e + 1) := by
    rw [hrr]
    unfold FP.Core.settle FP.Core.bound
    split
    · rw [if_pos (by omega)]
      exact ⟨_, _, rfl, Or.inl rfl⟩
    · rw [if_pos (by omega)]
      exact ⟨_, _, rfl, Or.inr rfl⟩
  obtain ⟨c, q, e1, e2⟩ := hfin
  rw [e1] at hfit
  obtain ⟨f1, f2, f3, f4⟩ := hfit
  refine ⟨c, q, e1, ?_, f1, by omega, by omega⟩
  rcases f4 with z | z
  · omega
  · exact z
theorem i2d_N {n : Nat} (h1 : 0 < n) (h2 : n < 2 ^ 31) : ∃ c q, N64 (FP.i2d (nI n)) c q ∧ -53 ≤ q ∧ q ≤ (n.log2 : Int) - 51 := by
  obtain ⟨a1, a2, a3, a4⟩ := fq64
  have hl : n.log2 < 31 := (Nat.pow_lt_pow_iff_right (by decide : 1 < 2)).mp (Nat.lt_of_le_of_lt (Nat.log2_self_le (by omega)) h2)
  obtain ⟨c, q, e1, e2, e3, e4, e5⟩ := rrN (f := FP.Core.b64) FP.Core.good_b64 (A := n) (B := 1) (e := 0) (L := n.log2) h1 (by decide) (by rw [show Nat.log2 1 = 0 by decide]; omega) (by rw [a1, a4]; omega) (by rw [a2, a4]; omega)
  rw [a4] at e3 e4 e5
  rw [a3] at e2
  refine ⟨c, q, ⟨?_, e2, e3⟩, by omega, by omega⟩
  show FP.Core.val64 (FP.Core.i2d (nI n)) = _
  rw [FP.Core.val64_i2d, nI_toInt (by omega)]
  show FP.Core.roundRatio FP.Core.b64 (decide ((n : Int) < 0)) ((n : Int)).natAbs 1 0 = _
  rw [show decide ((n : Int) < 0) = false from decide_eq_false (by omega), Int.natAbs_natCast]
  exact e1
theorem i2f_N {n : Nat} (h1 : 0 < n) (h2 : n < 2 ^ 31) : ∃ c q, N32 (FP.i2f (nI n)) c q ∧ -24 ≤ q ∧ q ≤ 8 := by
  obtain ⟨a1, a2, a3, a4⟩ := fq32
  have hl : n.log2 < 31 := (Nat.pow_lt_pow_iff_right (by decide : 1 < 2)).mp (Nat.lt_of_le_of_lt (Nat.log2_self_le (by omega)) h2)
  obtain ⟨c, q, e1, e2, e3, e4, e5⟩ := rrN (f := FP.Core.b32) FP.Core.good_b32 (A := n) (B := 1) (e := 0) (L := n.log2) h1 (by decide) (by rw [show Nat.log2 1 = 0 by decide]; omega) (by rw [a1, a4]; omega) (by rw [a2, a4]; omega)
  rw [a4] at e3 e4 e5
  rw [a3] at e2
  refine ⟨c, q, ⟨?_, e2, e3⟩, by omega, by omega⟩
  show FP.Core.val32 (FP.Core.i2f (nI n)) = _
  rw [FP.Core.val32_i2f, nI_toInt (by omega)]
  show FP.Core.roundRatio FP.Core.b32 (decide ((n : Int) < 0)) ((n : Int)).natAbs 1 0 = _
  rw [show decide ((n : Int) < 0) = false from decide_eq_false (by omega), Int.natAbs_natCast]
  exact e1
theorem ddiv_N {x y : UInt64} {c d : Nat} {q r : Int} (hx : N64 x c q) (hy : N64 y d r) (h1 : -900 ≤ q - r) (h2 : q - r ≤ 900) : ∃ c' q', N64 (FP.ddiv x y) c' q' ∧ q - r - 53 ≤ q' ∧ q' ≤ q - r - 51 := by
  obtain ⟨a1, a2, a3, a4⟩ := fq64
  obtain ⟨x1, x2, x3⟩ := hx
  obtain ⟨y1, y2, y3⟩ := hy
  obtain ⟨c', q', e1, e2, e3, e4, e5⟩ := rrN (f := FP.Core.b64) FP.Core.good_b64 (A := c) (B := d) (e := q - r) (L := 0) (by omega) (by omega) (by rw [log2_r (P := 52) x2 x3, log2_r (P := 52) y2 y3]; omega) (by rw [a1, a4]; omega) (by rw [a2, a4]; omega)
  rw [a4] at e3 e4 e5
  rw [a3] at e2
  refine ⟨c', q', ⟨?_, e2, e3⟩, by omega, by omega⟩
  show FP.Core.val64 (FP.Core.ddiv x y) = _
  rw [FP.Core.val64_ddiv, x1, y1]
  show (if d = 0 then (if c = 0 then FP.Core.Datum.nan else FP.Core.Datum.inf false) else FP.Core.roundRatio FP.Core.b64 false c d (q - r)) = _
  rw [if_neg (by omega)]
  exact e1
theorem fdiv_N {x y : UInt32} {c d : Nat} {q r : Int} (hx : N32 x c q) (hy : N32 y d r) (h1 : -100 ≤ q - r) (h2 : q - r ≤ 100) : ∃ c' q', N32 (FP.fdiv x y) c' q' ∧ q - r - 24 ≤ q' ∧ q' ≤ q - r - 22 := by
  obtain ⟨a1, a2, a3, a4⟩ := fq32
  obtain ⟨x1, x2, x3⟩ := hx
  obtain ⟨y1, y2, y3⟩ := hy
  obtain ⟨c', q', e1, e2, e3, e4, e5⟩ := rrN (f := FP.Core.b32) FP.Core.good_b32 (A := c) (B := d) (e := q - r) (L := 0) (by omega) (by omega) (by rw [log2_r (P := 23) x2 x3, log2_r (P := 23) y2 y3]; omega) (by rw [a1, a4]; omega) (by rw [a2, a4]; omega)
  rw [a4] at e3 e4 e5
  rw [a3] at e2
  refine ⟨c', q', ⟨?_, e2, e3⟩, by omega, by omega⟩
  show FP.Core.val32 (FP.Core.fdiv x y) = _
  rw [FP.Core.val32_fdiv, x1, y1]
  show (if d = 0 then (if c = 0 then FP.Core.Datum.nan else FP.Core.Datum.inf false) else FP.Core.roundRatio FP.Core.b32 false c d (q - r)) = _
  rw [if_neg (by omega)]
  exact e1
theorem f2d_N {x : UInt32} {c : Nat} {q : Int} (h : N32 x c q) (h1 : -149 ≤ q) (h2 : q ≤ 104) : N64 (FP.f2d x) (c * 2 ^ 29) (q - 29) := by
  obtain ⟨a, b, d⟩ := h
  have hn : FP.Core.fIsNaN x = false := (FP.Core.notNaN_iff32 x).mpr (fin_nn a)
  have e : FP.f2d x = FP.Core.f2d x := by
    unfold FP.f2d
    rw [hn]
    rfl
  refine ⟨?_, by omega, by omega⟩
  rw [e, FP.Core.val64_f2d, a]
  show FP.Core.roundRatio FP.Core.b64 false c 1 q = _
  refine FP.Core.roundRatio_exact FP.Core.good_b64 (by decide) (fit64 (by omega) (by omega) (by omega) (by omega)) ?_
  rw [show (q - (q - 29)).toNat = 29 by omega, show (q - 29 - q).toNat = 0 by omega, Nat.pow_zero, Nat.mul_one, Nat.mul_one]
theorem d_0 : FP.Core.val64 FP.dconst0 = FP.Core.Datum.fin false 0 (-1074) := by decide +kernel
theorem f_0 : FP.Core.val32 FP.fconst0 = FP.Core.Datum.fin false 0 (-149) := by decide +kernel
theorem gt0 {c : Nat} {q r : Int} (hc : 0 < c) : FP.Core.order (FP.Core.Datum.fin false c q) (FP.Core.Datum.fin false 0 r) = some .gt := by
  show some (compare (FP.Core.signed false (c * 2 ^ (q - min q r).toNat)) (FP.Core.signed false (0 * 2 ^ (r - min q r).toNat))) = _
  refine congrArg some ((FP.Core.compare_gt_iff _ _).mpr ?_)
  rw [Nat.zero_mul]
  show ((0 : Nat) : Int) < ((c * 2 ^ (q - min q r).toNat : Nat) : Int)
  have := Nat.mul_pos hc (Nat.two_pow_pos (q - min q r).toNat)
  omega
theorem N64.pos {x : UInt64} {c : Nat} {q : Int} (h : N64 x c q) : FP.dcmp x FP.dconst0 = some .gt := by
  show FP.Core.order (FP.Core.val64 x) (FP.Core.val64 FP.dconst0) = _
  rw [h.1, d_0]
  exact gt0 (by have := h.2.1; omega)
theorem N32.pos {x : UInt32} {c : Nat} {q : Int} (h : N32 x c q) : FP.fcmp x FP.fconst0 = some .gt := by
  show FP.Core.order (FP.Core.val32 x) (FP.Core.val32 FP.fconst0) = _
  rw [h.1, f_0]
  exact gt0 (by have := h.2.1; omega)
/-- one taken off a number from 1 to 2 -/
theorem sub1_64 {X : UInt64} {c : Nat} (h : N64 X c (-52)) : ∃ c' q', FP.Core.val64 (FP.dsub X FP.dconst1) = FP.Core.Datum.fin false c' q' ∧ -1074 ≤ q' ∧ c' * 2 ^ (q' - -1074).toNat = (c - 2 ^ 52) * 2 ^ 1022 := by
  obtain ⟨a1, a2, a3, a4⟩ := fq64
  obtain ⟨x1, x2, x3⟩ := h
  have hs : FP.Core.exactSum (FP.Core.Datum.fin false c (-52)) (FP.Core.negate (FP.Core.Datum.fin false (2 ^ 52) (-52))) = FP.Core.Datum.fin false (c - 2 ^ 52) (-52) := by
    show FP.Core.Datum.fin (FP.Core.sumSign false true (FP.Core.sumUnits false c (-52) true (2 ^ 52) (-52) (min (-52) (-52)))) (FP.Core.sumUnits false c (-52) true (2 ^ 52) (-52) (min (-52) (-52))).natAbs (min (-52) (-52)) = _
    have hu : FP.Core.sumUnits false c (-52) true (2 ^ 52) (-52) (min (-52) (-52)) = (c : Int) - 2 ^ 52 := by
      show ((c * 2 ^ ((-52 : Int) - min (-52) (-52)).toNat : Nat) : Int) + -((2 ^ 52 * 2 ^ ((-52 : Int) - min (-52) (-52)).toNat : Nat) : Int) = _
      rw [show ((-52 : Int) - min (-52) (-52)).toNat = 0 by decide, Nat.pow_zero, Nat.mul_one, Nat.mul_one]
      omega
    rw [hu]
    have hsg : FP.Core.sumSign false true ((c : Int) - 2 ^ 52) = false := by
      unfold FP.Core.sumSign
      split
      · rfl
      · exact decide_eq_false (by omega)
    have hab : Int.natAbs ((c : Int) - 2 ^ 52) = c - 2 ^ 52 := by omega
    rw [hsg, hab]
    rfl
  obtain ⟨c', q', e1, e2⟩ := FP.Core.round_exact (f := FP.Core.b64) FP.Core.good_b64 false (c := c - 2 ^ 52) (q := -52) (by rw [a4]; omega) (by rw [a1]; decide) (by rw [a2]; decide)
  have hv : FP.Core.val64 (FP.dsub X FP.dconst1) = FP.Core.Datum.fin false c' q' := by
    show FP.Core.val64 (FP.Core.dsub X FP.dconst1) = _
    rw [FP.Core.val64_dsub, x1, v64_1, hs, e1]
  have hfit := FP.Core.val64_fits (FP.dsub X FP.dconst1)
  rw [hv] at hfit
  have hq := hfit.2.1
  rw [a1] at hq e2
  exact ⟨c', q', hv, hq, e2⟩
theorem sub1_32 {X : UInt32} {c : Nat} (h : N32 X c (-23)) : ∃ c' q', FP.Core.val32 (FP.fsub X FP.fconst1) = FP.Core.Datum.fin false c' q' ∧ -149 ≤ q' ∧ c' * 2 ^ (q' - -149).toNat = (c - 2 ^ 23) * 2 ^ 126 := by
  obtain ⟨a1, a2, a3, a4⟩ := fq32
  obtain ⟨x1, x2, x3⟩ := h
  have hs : FP.Core.exactSum (FP.Core.Datum.fin false c (-23)) (FP.Core.negate (FP.Core.Datum.fin false (2 ^ 23) (-23))) = FP.Core.Datum.fin false (c - 2 ^ 23) (-23) := by
    show FP.Core.Datum.fin (FP.Core.sumSign false true (FP.Core.sumUnits false c (-23) true (2 ^ 23) (-23) (min (-23) (-23)))) (FP.Core.sumUnits false c (-23) true (2 ^ 23) (-23) (min (-23) (-23))).natAbs (min (-23) (-23)) = _
    have hu : FP.Core.sumUnits false c (-23) true (2 ^ 23) (-23) (min (-23) (-23)) = (c : Int) - 2 ^ 23 := by
      show ((c * 2 ^ ((-23 : Int) - min (-23) (-23)).toNat : Nat) : Int) + -((2 ^ 23 * 2 ^ ((-23 : Int) - min (-23) (-23)).toNat : Nat) : Int) = _
      rw [show ((-23 : Int) - min (-23) (-23)).toNat = 0 by decide, Nat.pow_zero, Nat.mul_one, Nat.mul_one]
      omega
    rw [hu]
    have hsg : FP.Core.sumSign false true ((c : Int) - 2 ^ 23) = false := by
      unfold FP.Core.sumSign
      split
      · rfl
      · exact decide_eq_false (by omega)
    have hab : Int.natAbs ((c : Int) - 2 ^ 23) = c - 2 ^ 23 := by omega
    rw [hsg, hab]
    rfl
  obtain ⟨c', q', e1, e2⟩ := FP.Core.round_exact (f := FP.Core.b32) FP.Core.good_b32 false (c := c - 2 ^ 23) (q := -23) (by rw [a4]; omega) (by rw [a1]; decide) (by rw [a2]; decide)
  have hv : FP.Core.val32 (FP.fsub X FP.fconst1) = FP.Core.Datum.fin false c' q' := by
    show FP.Core.val32 (FP.Core.fsub X FP.fconst1) = _
    rw [FP.Core.val32_fsub, x1, v32_1, hs, e1]
  have hfit := FP.Core.val32_fits (FP.fsub X FP.fconst1)
  rw [hv] at hfit
  have hq := hfit.2.1
  rw [a1] at hq e2
  exact ⟨c', q', hv, hq, e2⟩
theorem mulp_64 {y k : UInt64} {c : Nat} {q r : Int} (hy : FP.Core.val64 y = FP.Core.Datum.fin false c q) (hk : FP.Core.val64 k = FP.Core.Datum.fin false (2 ^ 52) r) : FP.Core.val64 (FP.dmul y k) = FP.Core.round FP.Core.b64 (FP.Core.Datum.fin false (c * 2 ^ 52) (q + r)) := by
  show FP.Core.val64 (FP.Core.dmul y k) = _
  rw [FP.Core.val64_dmul, hy, hk]
  rfl
theorem mulp_32 {y k : UInt32} {c : Nat} {q r : Int} (hy : FP.Core.val32 y = FP.Core.Datum.fin false c q) (hk : FP.Core.val32 k = FP.Core.Datum.fin false (2 ^ 23) r) : FP.Core.val32 (FP.fmul y k) = FP.Core.round FP.Core.b32 (FP.Core.Datum.fin false (c * 2 ^ 23) (q + r)) := by
  show FP.Core.val32 (FP.Core.fmul y k) = _
  rw [FP.Core.val32_fmul, hy, hk]
  rfl
theorem rnd_nn {f : FP.Core.Fmt} {c : Nat} {q : Int} : FP.Core.round f (FP.Core.Datum.fin false c q) ≠ FP.Core.Datum.nan := FP.Core.roundRatio_ne_nan f false c 1 q
theorem pwf {c t u a k b : Nat} (h : c * 2 ^ u = t * 2 ^ a) (hb : a + k = b) : c * 2 ^ k * 2 ^ (u - b) = t * 2 ^ (b - u) := by
  rcases Nat.lt_or_ge u b with q | q
  · rw [show u - b = 0 by omega, Nat.pow_zero, Nat.mul_one]
    refine Nat.eq_of_mul_eq_mul_right (Nat.two_pow_pos u) ?_
    rw [Nat.mul_assoc, Nat.mul_comm (2 ^ k), ← Nat.mul_assoc, h, Nat.mul_assoc, Nat.mul_assoc, ← Nat.pow_add, ← Nat.pow_add, hb, show b - u + u = b by omega]
  · rw [show b - u = 0 by omega, Nat.pow_zero, Nat.mul_one]
    refine Nat.eq_of_mul_eq_mul_right (Nat.two_pow_pos a) ?_
    rw [← h, Nat.mul_assoc, Nat.mul_assoc, ← Nat.pow_add, ← Nat.pow_add, show k + (u - b + a) = u by omega]
theorem k52 : FP.Core.val64 4841369599423283200 = FP.Core.Datum.fin false (2 ^ 52) 0 := by decide +kernel
theorem l2d_23 : FP.Core.val64 (FP.l2d 8388608) = FP.Core.Datum.fin false (2 ^ 52) (-29) := by decide +kernel
theorem k23 : FP.Core.val32 1258291200 = FP.Core.Datum.fin false (2 ^ 23) 0 := by decide +kernel
theorem l2d_52 : FP.l2d 4503599627370496 = 4841369599423283200 := by decide +kernel
theorem sh52 : (1 : Int64) <<< ((52 : Int32).toInt64 &&& 63) = 4503599627370496 := by decide +kernel
theorem sh23 : (1 : Int64) <<< ((23 : Int32).toInt64 &&& 63) = 8388608 := by decide +kernel
/-- the bits of the double, both sides -/
theorem bits_d {x : UInt64} {c : Nat} {q : Int} (h : N64 x c q) (h1 : -90 ≤ q) (h2 : q ≤ 20) : ∃ v, fX6_bitsOfDouble x = some v ∧ fX7_bitsOf x = some v := by
  obtain ⟨X, m, g1, g2, g3⟩ := x_bits (a2 := 52) (a3 := 1023) (A := 1023) rfl (by decide) (by decide) h (by omega) (by omega) (by omega) (by omega)
  obtain ⟨c', q', s1, s2, s3⟩ := sub1_64 g2
  have n1 : (FP.dsub X FP.dconst1) &&& 0x7fffffffffffffff ≤ 0x7ff0000000000000 := nn64 (fin_nn s1)
  have n2 : (FP.dmul (FP.dsub X FP.dconst1) 4841369599423283200) &&& 0x7fffffffffffffff ≤ 0x7ff0000000000000 := nn64 (by rw [mulp_64 s1 k52]; exact rnd_nn)
  refine ⟨lN m * 4503599627370496 + FP.d2l (FP.dmul (FP.dsub X FP.dconst1) 4841369599423283200), ?_, ?_⟩
  · unfold fX6_bitsOfDouble
    rw [h.pos, if_neg (show ¬ Op.cmpValue (some .gt) .l ≤ 0 by decide), g1]
    unfold fX6_bitsOf_b64
    rw [nm_s, sh52, l2d_52, gd_of n1, gd_of n2, bd_s, show nI m - 1023 + 1023 = nI m from Int32.sub_add_cancel _ _, nI_l (by omega)]
  · have hp : ¬ Op.cmpValue (FP.dcmp x FP.dconst0) .l = 0 := by rw [h.pos]; decide
    unfold fX7_bitsOf
    rw [if_neg hp]
    by_cases hq : -52 ≤ q
    · obtain ⟨Y, y1, y2⟩ := m_up (c := c) (q + 52).toNat 80 x q 1023 (by omega) (by omega) h (by omega)
      obtain rfl := y2.same g2
      obtain ⟨F, hF⟩ : ∃ F, F + 1 = 80 := ⟨79, rfl⟩
      have hc : fX7_bitsOf_L15 (F + 1) 1023 x = fX7_bitsOf_L37 80 1023 x := by
        rw [fX7_bitsOf_L15]
        rcases d_ge h v64_1 hq with z | z
        · rw [z, if_pos (by decide)]
        · rw [z, if_pos (by decide)]
      rw [← hF, hc, show (1023 : Int64) = lN 1023 from rfl, y1, gd_of n1, gd_of n2, show 1023 + (q + 52).toNat = m by omega]
    · obtain ⟨Z, z1, z2⟩ := m_down (c := c) (-52 - q).toNat 80 x q m (by omega) (by omega) (by omega) h
      obtain ⟨Y, y1, y2⟩ := m_up (c := c) 0 80 Z (-52) m (by decide) (by decide) z2 (by decide)
      obtain rfl := y2.same g2
      rw [show (1023 : Int64) = lN (m + (-52 - q).toNat) from by rw [show m + (-52 - q).toNat = 1023 by omega]; rfl, z1, y1, gd_of n1, gd_of n2, Nat.add_zero]
/-! the float's loops in the model -/
theorem lf_up {a0 : UInt32} {c : Nat} : ∀ (n f : Nat) (x : UInt32) (q : Int) (e : Nat), n < f → q = -23 + n → N32 x c q → n < 90 → ∃ X, fX7_floatBitsOf_L40 a0 f (nI e) x = (gd ((FP.fsub X FP.fconst1) &&& 0x7fffffff ≤ 0x7f800000) <| gd ((FP.fmul (FP.fsub X FP.fconst1) 1258291200) &&& 0x7fffffff ≤ 0x7f800000) <| nm ((nI (e + n) * 8388608) + (FP.f2i (FP.fmul (FP.fsub X FP.fconst1) 1258291200))) fun x3_4 => if 0 ≤ (Op.cmpValue (FP.fcmp a0 FP.fconst0) .g) then (some x3_4) else (some (x3_4 ||| (-2147483648)))) ∧ N32 X c (-23) := by
  intro n
  induction n with
  | zero =>
    intro f x q e hf hq h hn
    obtain ⟨f, rfl⟩ := fu1 hf
    obtain rfl : q = -23 := by omega
    refine ⟨x, ?_, h⟩
    rw [fX7_floatBitsOf_L40, f_lt h v32_2 (by decide), if_pos (show Op.cmpValue (some .lt) .l < 0 by decide)]
    rfl
  | succ n ih =>
    intro f x q e hf hq h hn
    obtain ⟨f, rfl⟩ := fu1 hf
    have h2 := h.mul v32_h (by omega) (by omega)
    rw [show q + -24 + 23 = q - 1 by omega] at h2
    obtain ⟨X, g1, g2⟩ := ih f (FP.fmul x 1056964608) (q - 1) (e + 1) (by omega) (by omega) h2 (by omega)
    have hcmp : ¬ Op.cmpValue (FP.fcmp x FP.fconst2) .l < 0 := by
      rcases f_ge h v32_2 (by omega) with z | z
      · rw [z]; decide
      · rw [z]; decide
    refine ⟨X, ?_, g2⟩
    rw [fX7_floatBitsOf_L40, if_neg hcmp, gd_of h2.nn, nm_s, nm_s, nI_1, show e + (n + 1) = e + 1 + n by omega]
    exact g1
theorem lf_down {a0 : UInt32} {c : Nat} : ∀ (n f : Nat) (x : UInt32) (q : Int) (m : Nat), n < f → q + n = -23 → -140 ≤ q → N32 x c q → ∃ X, fX7_floatBitsOf_L24 a0 f (nI (m + n)) x = fX7_floatBitsOf_L40 a0 80 (nI m) X ∧ N32 X c (-23) := by
  intro n
  induction n with
  | zero =>
    intro f x q m hf hq hq2 h
    obtain ⟨f, rfl⟩ := fu1 hf
    obtain rfl : q = -23 := by omega
    refine ⟨x, ?_, h⟩
    rw [fX7_floatBitsOf_L24]
    rcases f_ge h v32_1 (by decide) with z | z
    · rw [z, if_pos (by decide), Nat.add_zero]
    · rw [z, if_pos (by decide), Nat.add_zero]
  | succ n ih =>
    intro f x q m hf hq hq2 h
    obtain ⟨f, rfl⟩ := fu1 hf
    have h2 := h.mul v32_2 (by omega) (by omega)
    rw [show q + -22 + 23 = q + 1 by omega] at h2
    obtain ⟨X, g1, g2⟩ := ih f (FP.fmul x FP.fconst2) (q + 1) m (by omega) (by omega) (by omega) h2
    refine ⟨X, ?_, g2⟩
    rw [fX7_floatBitsOf_L24, f_lt h v32_1 (by omega), if_neg (show ¬ (0 : Int32) ≤ Op.cmpValue (some .lt) .g by decide), gd_of h2.nn, nm_s, nm_s, show m + (n + 1) = m + n + 1 by omega, pk_m1]
    exact g1
theorem N32.same {x y : UInt32} {c : Nat} {q : Int} (h : N32 x c q) (h' : N32 y c q) : x = y := FP.Core.val32_inj (fin_nn h.1) (h.1.trans h'.1.symm)
theorem lf_all {x : UInt32} {c : Nat} {q : Int} (h : N32 x c q) (h1 : -80 ≤ q) (h2 : q ≤ 30) : ∃ X m, fX7_floatBitsOf x = (gd ((FP.fsub X FP.fconst1) &&& 0x7fffffff ≤ 0x7f800000) <| gd ((FP.fmul (FP.fsub X FP.fconst1) 1258291200) &&& 0x7fffffff ≤ 0x7f800000) <| some ((nI m * 8388608) + (FP.f2i (FP.fmul (FP.fsub X FP.fconst1) 1258291200)))) ∧ N32 X c (-23) ∧ (m : Int) = 127 + (q + 23) := by
  have hp : ¬ Op.cmpValue (FP.fcmp x FP.fconst0) .l = 0 := by rw [h.pos]; decide
  have hp2 : (0 : Int32) ≤ Op.cmpValue (FP.fcmp x FP.fconst0) .g := by rw [h.pos]; decide
  unfold fX7_floatBitsOf
  rw [if_neg hp, if_pos hp2]
  by_cases hq : -23 ≤ q
  · obtain ⟨Y, y1, y2⟩ := lf_up (a0 := x) (c := c) (q + 23).toNat 80 x q 127 (by omega) (by omega) h (by omega)
    obtain ⟨F, hF⟩ : ∃ F, F + 1 = 80 := ⟨79, rfl⟩
    have hc : fX7_floatBitsOf_L24 x (F + 1) 127 x = fX7_floatBitsOf_L40 x 80 127 x := by
      rw [fX7_floatBitsOf_L24]
      rcases f_ge h v32_1 hq with z | z
      · rw [z, if_pos (by decide)]
      · rw [z, if_pos (by decide)]
    refine ⟨Y, 127 + (q + 23).toNat, ?_, y2, by omega⟩
    rw [← hF, hc, show (127 : Int32) = nI 127 from rfl, y1, nm_s, if_pos hp2]
  · obtain ⟨Z, z1, z2⟩ := lf_down (a0 := x) (c := c) (-23 - q).toNat 80 x q (127 - (-23 - q).toNat) (by omega) (by omega) (by omega) h
    obtain ⟨Y, y1, y2⟩ := lf_up (a0 := x) (c := c) 0 80 Z (-23) (127 - (-23 - q).toNat) (by decide) (by decide) z2 (by decide)
    refine ⟨Y, 127 - (-23 - q).toNat, ?_, y2, by omega⟩
    rw [show (127 : Int32) = nI (127 - (-23 - q).toNat + (-23 - q).toNat) from by rw [show 127 - (-23 - q).toNat + (-23 - q).toNat = 127 by omega]; rfl, z1, y1, nm_s, if_pos hp2, Nat.add_zero]
theorem mant_64 {X : UInt64} {c : Nat} (h : N64 X (c * 2 ^ 29) (-52)) (hc1 : 2 ^ 23 ≤ c) (hc2 : c < 2 ^ 24) : (FP.dsub X FP.dconst1) &&& 0x7fffffffffffffff ≤ 0x7ff0000000000000 ∧ (FP.dmul (FP.dsub X FP.dconst1) (FP.l2d 8388608)) &&& 0x7fffffffffffffff ≤ 0x7ff0000000000000 ∧ FP.d2l (FP.dmul (FP.dsub X FP.dconst1) (FP.l2d 8388608)) = lN (c - 2 ^ 23) := by
  obtain ⟨c', q', s1, s2, s3⟩ := sub1_64 h
  have hv := mulp_64 s1 l2d_23
  refine ⟨nn64 (fin_nn s1), nn64 (by rw [hv]; exact rnd_nn), ?_⟩
  have hW : FP.Core.Whole ((c - 2 ^ 23 : Nat) : Int) (FP.Core.Datum.fin false (c' * 2 ^ 52) (q' + -29)) := by
    show ((c' * 2 ^ 52 * 2 ^ (q' + -29).toNat : Nat) : Int) = ((c - 2 ^ 23 : Nat) : Int) * ((2 ^ (-(q' + -29)).toNat : Nat) : Int)
    have hp := pwf (c := c') (t := c - 2 ^ 23) (u := (q' - -1074).toNat) (a := 1051) (k := 52) (b := 1103) (by
      rw [s3, show c * 2 ^ 29 - 2 ^ 52 = (c - 2 ^ 23) * 2 ^ 29 by omega, Nat.mul_assoc, ← Nat.pow_add]) (by decide)
    rw [show (q' - -1074).toNat - 1103 = (q' + -29).toNat by omega, show 1103 - (q' - -1074).toNat = (-(q' + -29)).toNat by omega] at hp
    rw [hp, Int.natCast_mul]
  have hWr := FP.Core.whole_round FP.Core.good_b64 FP.Core.wide_b64 (i := ((c - 2 ^ 23 : Nat) : Int)) (by rw [fq64.2.2.2, Int.natAbs_natCast]; omega) hW
  rw [← hv] at hWr
  exact FP.Core.d2l_int (a := lN (c - 2 ^ 23)) (by rw [lN_toInt (by omega)]; exact hWr)
theorem mant_32 {X : UInt32} {c : Nat} (h : N32 X c (-23)) : (FP.fsub X FP.fconst1) &&& 0x7fffffff ≤ 0x7f800000 ∧ (FP.fmul (FP.fsub X FP.fconst1) 1258291200) &&& 0x7fffffff ≤ 0x7f800000 ∧ FP.f2i (FP.fmul (FP.fsub X FP.fconst1) 1258291200) = nI (c - 2 ^ 23) := by
  have hc2 := h.2.2
  obtain ⟨c', q', s1, s2, s3⟩ := sub1_32 h
  have hv := mulp_32 s1 k23
  refine ⟨nn32 (fin_nn s1), nn32 (by rw [hv]; exact rnd_nn), ?_⟩
  have hW : FP.Core.Whole ((c - 2 ^ 23 : Nat) : Int) (FP.Core.Datum.fin false (c' * 2 ^ 23) (q' + 0)) := by
    show ((c' * 2 ^ 23 * 2 ^ (q' + 0).toNat : Nat) : Int) = ((c - 2 ^ 23 : Nat) : Int) * ((2 ^ (-(q' + 0)).toNat : Nat) : Int)
    have hp := pwf (c := c') (t := c - 2 ^ 23) (u := (q' - -149).toNat) (a := 126) (k := 23) (b := 149) s3 (by decide)
    rw [show (q' - -149).toNat - 149 = (q' + 0).toNat by omega, show 149 - (q' - -149).toNat = (-(q' + 0)).toNat by omega] at hp
    rw [hp, Int.natCast_mul]
  have hWr := FP.Core.whole_round FP.Core.good_b32 FP.Core.wide_b32 (i := ((c - 2 ^ 23 : Nat) : Int)) (by rw [fq32.2.2.2, Int.natAbs_natCast]; omega) hW
  rw [← hv] at hWr
  exact FP.Core.f2i_int (a := nI (c - 2 ^ 23)) (by rw [nI_toInt (by omega)]; exact hWr)
/-- the bits of the float, both sides -/
theorem bits_f {x : UInt32} {c : Nat} {q : Int} (h : N32 x c q) (h1 : -60 ≤ q) (h2 : q ≤ 20) : ∃ v, fX6_bitsOfFloat x = some v ∧ fX7_floatBitsOf x = some v := by
  have hd := f2d_N h (by omega) (by omega)
  obtain ⟨X, m, g1, g2, g3⟩ := x_bits (a2 := 23) (a3 := 127) (A := 127) rfl (by decide) (by decide) hd (by omega) (by omega) (by omega) (by omega)
  obtain ⟨Y, m', y1, y2, y3⟩ := lf_all h (by omega) (by omega)
  obtain ⟨n1, n2, n3⟩ := mant_64 g2 h.2.1 h.2.2
  obtain ⟨k1, k2, k3⟩ := mant_32 y2
  have hc2 := h.2.2
  have hmm : m' = m := by omega
  refine ⟨nI (m * 8388608 + (c - 2 ^ 23)), ?_, ?_⟩
  · have hp : ¬ Op.cmpValue (FP.fcmp x FP.fconst0) .l ≤ 0 := by rw [h.pos]; decide
    have hp2 : (0 : Int32) ≤ Op.cmpValue (FP.fcmp x FP.fconst0) .g := by rw [h.pos]; decide
    unfold fX6_bitsOfFloat
    rw [if_pos hp2, if_neg hp, gd_of hd.nn, g1]
    unfold fX6_bitsOf_b64
    rw [nm_s, sh23, gd_of n1, gd_of n2, n3, bd_s, show nI m - 127 + 127 = nI m from Int32.sub_add_cancel _ _, nI_l (by omega), show (8388608 : Int64) = lN 8388608 from rfl, lN_mul, lN_add, lN_i]
  · rw [y1, gd_of k1, gd_of k2, k3, hmm, show (8388608 : Int32) = nI 8388608 from rfl, pk_mul, nI_add]
theorem bits_d0 : fX6_bitsOfDouble 0 = some 0 ∧ fX7_bitsOf 0 = some 0 := by decide +kernel
theorem bits_f0 : fX6_bitsOfFloat 0 = some 0 ∧ fX7_floatBitsOf 0 = some 0 := by decide +kernel
theorem bits_f1 : ∃ v, fX6_bitsOfFloat 3212836864 = some v ∧ fX7_floatBitsOf 3212836864 = some v := ⟨-1082130432, by decide +kernel, by decide +kernel⟩
theorem sf_0 : vf_n64 (FP.f2d 0) ∧ Op.cmpValue (FP.dcmp (FP.f2d 0) (FP.f2d 0)) .l = 0 := by
  unfold vf_n64
  decide +kernel
theorem sf_1 : vf_n64 (FP.f2d 3212836864) ∧ Op.cmpValue (FP.dcmp (FP.f2d 3212836864) (FP.f2d 3212836864)) .l = 0 := by
  unfold vf_n64
  decide +kernel
theorem sd_0 : Op.cmpValue (FP.dcmp 0 0) .l = 0 := by decide +kernel
/-- what is known of a mean -/
def Pm (r : UInt64) : Prop := Op.cmpValue (FP.dcmp r r) .l = 0 ∧ ∃ v, fX6_bitsOfDouble r = some v ∧ fX7_bitsOf r = some v
def Pl32 (r : UInt32) : Prop := (vf_n64 (FP.f2d r) ∧ Op.cmpValue (FP.dcmp (FP.f2d r) (FP.f2d r)) .l = 0) ∧ ∃ v, fX6_bitsOfFloat r = some v ∧ fX7_floatBitsOf r = some v
theorem self_d {x : UInt64} {c : Nat} {q : Int} (h : N64 x c q) : Op.cmpValue (FP.dcmp x x) .l = 0 := by
  rw [show FP.dcmp x x = some .eq from FP.Core.dcmp_self (fin_nn h.1)]
  rfl
theorem Pm_0 : Pm 0 := ⟨sd_0, 0, bits_d0⟩
theorem Pl_0 : Pl32 0 := ⟨sf_0, 0, bits_f0⟩
theorem Pl_1 : Pl32 3212836864 := ⟨sf_1, bits_f1⟩
theorem i2d_0 : FP.Core.val64 (FP.i2d (nI 0)) = FP.Core.Datum.fin false 0 (-1074) := by decide +kernel
theorem i2f_0 : FP.Core.val32 (FP.i2f (nI 0)) = FP.Core.Datum.fin false 0 (-149) := by decide +kernel
theorem mean_P {e M : Nat} (he : e < 2 ^ 31) (hM1 : 1 ≤ M) (hM2 : M ≤ 64) : vf_n64 (FP.ddiv (FP.i2d (nI e)) (FP.i2d (nI M))) ∧ Pm (FP.ddiv (FP.i2d (nI e)) (FP.i2d (nI M))) := by
  obtain ⟨d, r, y1, y2, y3⟩ := i2d_N (n := M) (by omega) (by omega)
  have hlM : M.log2 < 7 := (Nat.pow_lt_pow_iff_right (by decide : 1 < 2)).mp (Nat.lt_of_le_of_lt (Nat.log2_self_le (by omega)) (show M < 2 ^ 7 by omega))
  rcases Nat.eq_zero_or_pos e with rfl | hp
  · have h0 : FP.ddiv (FP.i2d (nI 0)) (FP.i2d (nI M)) = 0 := by
      have e1 : FP.Core.val64 (FP.ddiv (FP.i2d (nI 0)) (FP.i2d (nI M))) = FP.Core.Datum.fin false 0 (-1074) := by
        show FP.Core.val64 (FP.Core.ddiv (FP.i2d (nI 0)) (FP.i2d (nI M))) = _
        rw [FP.Core.val64_ddiv, i2d_0, y1.1]
        show (if d = 0 then (if (0 : Nat) = 0 then FP.Core.Datum.nan else FP.Core.Datum.inf false) else FP.Core.roundRatio FP.Core.b64 false 0 d (-1074 - r)) = _
        rw [if_neg (by have := y1.2.1; omega)]
        unfold FP.Core.roundRatio
        rw [if_pos rfl, fq64.1]
      exact FP.Core.val64_inj (fin_nn e1) (e1.trans d_0.symm)
    rw [h0]
    exact ⟨by unfold vf_n64; decide +kernel, Pm_0⟩
  · obtain ⟨c, q, x1, x2, x3⟩ := i2d_N hp he
    have hle : e.log2 < 31 := (Nat.pow_lt_pow_iff_right (by decide : 1 < 2)).mp (Nat.lt_of_le_of_lt (Nat.log2_self_le (by omega)) he)
    obtain ⟨c', q', z1, z2, z3⟩ := ddiv_N x1 y1 (by omega) (by omega)
    exact ⟨z1.nn, self_d z1, bits_d z1 (by omega) (by omega)⟩
theorem loud_P {s e : Nat} (hs : s < 2 ^ 31) (he1 : 0 < e) (he : e < 2 ^ 31) : vf_n32 (FP.fdiv (FP.i2f (nI s)) (FP.i2f (nI e))) ∧ Pl32 (FP.fdiv (FP.i2f (nI s)) (FP.i2f (nI e))) := by
  obtain ⟨d, r, y1, y2, y3⟩ := i2f_N he1 he
  rcases Nat.eq_zero_or_pos s with rfl | hp
  · have h0 : FP.fdiv (FP.i2f (nI 0)) (FP.i2f (nI e)) = 0 := by
      have e1 : FP.Core.val32 (FP.fdiv (FP.i2f (nI 0)) (FP.i2f (nI e))) = FP.Core.Datum.fin false 0 (-149) := by
        show FP.Core.val32 (FP.Core.fdiv (FP.i2f (nI 0)) (FP.i2f (nI e))) = _
        rw [FP.Core.val32_fdiv, i2f_0, y1.1]
        show (if d = 0 then (if (0 : Nat) = 0 then FP.Core.Datum.nan else FP.Core.Datum.inf false) else FP.Core.roundRatio FP.Core.b32 false 0 d (-149 - r)) = _
        rw [if_neg (by have := y1.2.1; omega)]
        unfold FP.Core.roundRatio
        rw [if_pos rfl, fq32.1]
      exact FP.Core.val32_inj (fin_nn e1) (e1.trans f_0.symm)
    rw [h0]
    exact ⟨by unfold vf_n32; decide +kernel, Pl_0⟩
  · obtain ⟨c, q, x1, x2, x3⟩ := i2f_N hp hs
    obtain ⟨c', q', z1, z2, z3⟩ := fdiv_N x1 y1 (by omega) (by omega)
    have hd := f2d_N z1 (by omega) (by omega)
    exact ⟨z1.nn, ⟨hd.nn, self_d hd⟩, bits_f z1 (by omega) (by omega)⟩
