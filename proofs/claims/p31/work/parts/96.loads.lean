/-! P31: a block written, read back, put in another's place -/
theorem gn_two {s s' : Nat → Int32} {B b o n : Nat} (hB : 2 ≤ B) (hn : n ≤ B) (h1 : s' (199 + o) = s (199 + b)) (h2 : s' (231 + o) = s (231 + b)) (h3 : ∀ i, 1 ≤ i → i < n → s' (71 + (o * B + i)) = s (71 + (b * B + i))) : ∀ t, t < n → gn s' B (o * B + t) = gn s B (b * B + t) := by
  intro t
  induction t with
  | zero =>
    intro ht
    obtain ⟨q1, q2⟩ := kq (B := B) (b := o) (k := o * B + 0) (by omega) (by omega)
    obtain ⟨q3, q4⟩ := kq (B := B) (b := b) (k := b * B + 0) (by omega) (by omega)
    rw [gn_first s' (k := o * B + 0) (by omega), gn_first s (k := b * B + 0) (by omega), q1, q3, h1, h2]
  | succ t ih =>
    intro ht
    obtain ⟨q1, q2⟩ := kq (B := B) (b := o) (k := o * B + t + 1) (by omega) (by omega)
    obtain ⟨q3, q4⟩ := kq (B := B) (b := b) (k := b * B + t + 1) (by omega) (by omega)
    have h : s' (71 + (o * B + t + 1)) = s (71 + (b * B + t + 1)) := h3 (t + 1) (by omega) ht
    show gn s' B (o * B + t + 1) = gn s B (b * B + t + 1)
    rw [gn_next s' (k := o * B + t) (by omega), gn_next s (k := b * B + t) (by omega), ih (by omega), h]
theorem tb_cp {s : Nat → Int32} {M B b : Nat} (hM : M ≤ 64) (hB : 2 ≤ B) (hb : b * B < M) : tb (cpS s M B b b) M B b = tb s M B b := by
  obtain ⟨c1, c2, c3⟩ := cp_at (s := s) (b := b) hM hB hb
  have hb32 := b32 hM hB hb
  have he1 : eo M B b ≤ M := Nat.min_le_left _ _
  unfold tb
  rw [(c3 b hb32).1, if_pos rfl, (c3 b hb32).2.1, if_pos rfl]
  refine tx_congr (fun i h1 h2 => ?_)
  show cpS s M B b b (71 + i) = s (71 + i)
  rw [c2 i (by omega), if_pos (by omega), show 71 + (b * B + 1 + (i - (b * B + 1))) = 71 + i by omega]
theorem cp_ag {s : Nat → Int32} {M B b : Nat} (hM : M ≤ 64) (hB : 2 ≤ B) (hb : b * B < M) (h : s (263 + b) = 0) : Ag s (cpS s M B b b) M B := by
  obtain ⟨c1, c2, c3⟩ := cp_at (s := s) (b := b) hM hB hb
  refine ⟨c1 4 (by decide), fun i hi => ?_, fun i hi _ => ?_⟩
  · obtain ⟨q1, q2, q3⟩ := c3 i (b32 hM hB hi)
    rw [q1, q2, q3]
    by_cases q : i = b
    · rw [if_pos q, if_pos q, if_pos q, q, h]
      exact ⟨rfl, rfl, rfl⟩
    · rw [if_neg q, if_neg q, if_neg q]
      exact ⟨rfl, rfl, rfl⟩
  · rw [c2 i (by omega)]
    by_cases q : b * B + 1 ≤ i ∧ i < eo M B b
    · rw [if_pos q, show 71 + (b * B + 1 + (i - (b * B + 1))) = 71 + i by omega]
    · rw [if_neg q]
theorem md_cp {s : Nat → Int32} {M B b o : Nat} (hM : M ≤ 64) (hB : 2 ≤ B) (hb : b * B < M) (ho : o * B < M) (hsame : eo M B o - o * B = eo M B b - b * B) (h : s (263 + b) = 0) : ∀ t, t < eo M B b - b * B → md (cpS s M B b o) B (b * B + t) = md (cpS s M B b o) B (o * B + t) := by
  intro t ht
  obtain ⟨c1, c2, c3⟩ := cp_at (s := s) (b := b) hM hB ho
  have hb32 := b32 hM hB hb
  have ho32 := b32 hM hB ho
  have he1 : eo M B b ≤ M := Nat.min_le_left _ _
  have he2 : eo M B o ≤ M := Nat.min_le_left _ _
  have he3 : eo M B b ≤ b * B + B := Nat.min_le_right _ _
  have he4 : eo M B o ≤ o * B + B := Nat.min_le_right _ _
  obtain ⟨s2, hs2⟩ : ∃ s2, s2 = cpS s M B b o := ⟨_, rfl⟩
  rw [← hs2] at c1 c2 c3 ⊢
  obtain ⟨q1, _⟩ := kq (B := B) (b := o) (k := o * B + t) (by omega) (by omega)
  obtain ⟨q3, _⟩ := kq (B := B) (b := b) (k := b * B + t) (by omega) (by omega)
  obtain ⟨x1, x2, x3⟩ := c3 o ho32
  obtain ⟨y1, y2, y3⟩ := c3 b hb32
  rw [if_pos rfl] at x1 x2 x3
  have g1 : ∀ t, t < eo M B o - o * B → gn s2 B (o * B + t) = gn s B (b * B + t) := gn_two hB (by omega) x1 x2 (fun i i1 i2 => by
    rw [c2 (o * B + i) (by omega), if_pos (by omega), show 71 + (b * B + 1 + (o * B + i - (o * B + 1))) = 71 + (b * B + i) by omega])
  have g2 : gn s2 B (b * B + t) = gn s B (b * B + t) := by
    by_cases q : b = o
    · have z := g1 t (by omega)
      rw [← q] at z
      exact z
    · rw [if_neg q] at y1 y2
      refine gn_two hB (show eo M B b - b * B ≤ B by omega) y1 y2 (fun i i1 i2 => ?_) t ht
      rw [c2 (b * B + i) (by omega), if_neg]
      rcases Nat.lt_or_ge b o with z | z
      · have := mulS B z
        omega
      · have := mulS B (show o < b by omega)
        omega
  have y3' : s2 (263 + b) = 0 := by
    rw [y3]
    split
    · rfl
    · exact h
  rw [md_nl hB (by rw [q3]; exact y3'), md_nl hB (by rw [q1]; exact x3), g1 t (by omega), g2]
theorem ld_184 {μ : Sg} {M B b o : Nat} (hm : MS (μ 0) M B) (h1 : μ 0 1 = 1) (hb : b * B < M) (ho : o * B < M) (hsame : eo M B o - o * B = eo M B b - b * B) (heq : ∀ t, t < eo M B b - b * B → md (μ 0) B (b * B + t) = md (μ 0) B (o * B + t)) : ∀ n f k (σ : Sg), n < f → k + n = eo M B b - b * B → Rl σ μ 0 → ∃ σ', fL_loads_L184 (nI b) (nI o) f (nI B) 1 (nI k) σ = some (1, σ') ∧ Rl σ' μ 0 := by
  have hm' := hm
  obtain ⟨m1, m2, m3, m4, _⟩ := hm'
  have he1 : eo M B b ≤ M := Nat.min_le_left _ _
  have he2 : eo M B o ≤ M := Nat.min_le_left _ _
  have n10 : ¬ (1 : Int32) = 0 := by decide
  intro n
  induction n with
  | zero =>
    intro f k σ hf hk hR
    obtain ⟨f, rfl⟩ := fu1 hf
    refine ⟨σ, ?_, hR⟩
    rw [fL_loads_L184, lk_b0 hR hm h1 hb, bo_s, if_pos (nI_le (by omega) (by omega)), gd_of (Or.inr rfl)]
  | succ n ih =>
    intro f k σ hf hk hR
    obtain ⟨f, rfl⟩ := fu1 hf
    obtain ⟨σ1, e1, l1⟩ := lk_s1 (k := b * B + k) hR hm h1 (by omega)
    obtain ⟨σ2, e2, l2⟩ := lk_s1 (k := o * B + k) l1.1 hm h1 (by omega)
    obtain ⟨σ3, e3, R3⟩ := ih f (k + 1) σ2 (by omega) (by omega) l2.1
    refine ⟨σ3, ?_, R3⟩
    have i1 : nI B * nI b + nI k = nI (b * B + k) := by rw [pk_mul, nI_add, Nat.mul_comm]
    have i2 : nI B * nI o + nI k = nI (o * B + k) := by rw [pk_mul, nI_add, Nat.mul_comm]
    rw [fL_loads_L184, lk_b0 hR hm h1 hb, bo_s, if_neg (nI_ge (show k < eo M B b - b * B by omega) (by omega)), if_neg n10, i1, i2, e1, bo_s, e2, bo_s, if_pos (by rw [heq k (by omega)]), nm_s, nI_1]
    exact e3
theorem ld_136 {σ μ : Sg} {M B b o : Nat} (hR : Rl σ μ 0) (hm : MS (μ 0) M B) (h1 : μ 0 1 = 1) (hb : b * B < M) (ho : o * B < M) (h : μ 0 (263 + b) = 0) : ∃ σ' μ', fL_loads_b136 (nI b) (nI o) (nI B) (nI (tb (μ 0) M B b).length) 1 σ = some (1, σ') ∧ Rl σ' μ' 0 := by
  have hm' := hm
  obtain ⟨m1, m2, m3, m4, _⟩ := hm'
  have he1 : eo M B b ≤ M := Nat.min_le_left _ _
  have he2 : eo M B o ≤ M := Nat.min_le_left _ _
  have n10 : ¬ (1 : Int32) = 0 := by decide
  by_cases q : eo M B o - o * B = eo M B b - b * B
  · obtain ⟨σ1, μ1, w1, R1, E1, B1⟩ := lk_wr hR hm h1 hb
    obtain ⟨σ2, μ2, g1, R2, E2, hm2, h12, z2⟩ := ch_load (o := o) R1 (by rw [E1]; exact hm) (by rw [E1]; exact h1) hb ho q (by rw [E1]; exact B1)
    obtain ⟨r, hr, er⟩ := cnt_nn (md (cpS (μ1 0) M B b o) B) (md (μ1 0) B) M 0 0
    rw [← n0] at er
    rw [er] at g1
    obtain ⟨σ3, e3, R3⟩ := ld_184 hm2 h12 hb ho q (by rw [E2, E1]; exact md_cp m2 m3 hb ho q h) (eo M B b - b * B) 80 0 σ2 (by omega) (by omega) R2
    refine ⟨σ3, μ2, ?_, R3⟩
    unfold fL_loads_b136
    rw [if_neg n10, lk_b0 hR hm h1 ho, bo_s, lk_b0 hR hm h1 hb, bo_s, if_pos (by rw [q]), w1, bo_s, if_pos rfl, g1, bo_s, if_neg (nI_pos (by omega))]
    rw [show fL_loads_L184 (nI b) (nI o) 80 (nI B) 1 0 σ2 = fL_loads_L184 (nI b) (nI o) 80 (nI B) 1 (nI 0) σ2 from by rw [← n0]]
    exact e3
  · refine ⟨σ, μ, ?_, hR⟩
    unfold fL_loads_b136
    rw [if_neg n10, lk_b0 hR hm h1 ho, bo_s, lk_b0 hR hm h1 hb, bo_s, if_neg (fun z => q ((nI_eq (by omega) (by omega)).mp z)), gd_of (Or.inr rfl)]
theorem loads_ok {σ μ : Sg} {M B b o : Nat} (hR : Rl σ μ 0) (hm : MS (μ 0) M B) (h1 : μ 0 1 = 1) (hb : b * B < M) (ho : o * B < M) : ∃ σ' μ', fL_loads (nI b) (nI o) σ = some (1, σ') ∧ Rl σ' μ' 0 := by
  have hm' := hm
  obtain ⟨m1, m2, m3, m4, _⟩ := hm'
  have n10 : ¬ (1 : Int32) = 0 := by decide
  have hb32 := b32 m2 m3 hb
  obtain ⟨e0, _, _⟩ := lk_st hR hm
  have e3 := lk_b3 hR hm h1 hb
  obtain ⟨_, hd⟩ := hR.co hm h1
  have hfl := (hd.1 b hb).2.2
  obtain ⟨σ1, μ1, w1, R1, E1, B1⟩ := lk_wr hR hm h1 hb
  have hm1 : MS (μ1 0) M B := by rw [E1]; exact hm
  have h11 : μ1 0 1 = 1 := by rw [E1]; exact h1
  obtain ⟨σ2, f1, R2, B2⟩ := lk_fe R1 hm1 h11 hb (by rw [E1]; exact B1)
  obtain ⟨σ3, μ3, g1, R3, E3, hm3, h13, z3⟩ := ch_load R2 hm1 h11 hb hb rfl B2
  obtain ⟨r, hr, er⟩ := cnt_nn (md (cpS (μ1 0) M B b b) B) (md (μ1 0) B) M 0 0
  rw [← n0] at er
  rw [er] at g1
  have h3b : μ3 0 (263 + b) = 0 := by rw [E3, ((cp_at m2 m3 hb).2.2 b hb32).2.2, if_pos rfl]
  have e4 := lk_b3 R3 hm3 h13 hb
  rw [h3b] at e4
  have t3 : tb (μ3 0) M B b = tb (μ 0) M B b := by rw [E3, E1, tb_cp m2 m3 hb]
  obtain ⟨σ4, μ4, c1, R4, E4⟩ := lk_cb R3 z3
  have hm4 : MS (μ4 0) M B := by rw [E4]; exact hm3
  have h14 : μ4 0 1 = 1 := by rw [E4]; exact h13
  obtain ⟨σ5, μ5, w5, R5, E5, B5⟩ := lk_wr R4 hm4 h14 hb
  obtain ⟨σ6, μ6, c2, R6, E6⟩ := lk_cb R5 B5.2.1
  have t4 : tb (μ4 0) M B b = tb (μ 0) M B b := by rw [E4, t3]
  rw [t4] at w5 c2
  have t6 : tb (μ6 0) M B b = tb (μ 0) M B b := by rw [E6, E5, t4]
  have hm6 : MS (μ6 0) M B := by rw [E6, E5]; exact hm4
  have h16 : μ6 0 1 = 1 := by rw [E6, E5]; exact h14
  have h6b : μ6 0 (263 + b) = 0 := by rw [E6, E5, E4]; exact h3b
  rw [E1] at f1
  have common : ∀ x4, fL_loads_b21 (nI b) (nI o) (nI B) x4 σ = fL_loads_b99 (nI b) (nI o) (nI B) x4 (nI (tb (μ 0) M B b).length) 1 σ6 := by
    intro x4
    unfold fL_loads_b21 fL_loads_b68
    rw [w1, bo_s, f1, bd2_s, if_pos rfl, g1, bo_s, if_neg (nI_pos (by omega)), e4, bo_s, if_pos rfl, c1, bd2_s, if_pos (show nI 0 = 0 from rfl), if_neg n10, w5, bo_s, if_pos rfl, c2, bd2_s, if_pos rfl]
  unfold fL_loads
  rw [e0, bo_s, e3, bo_s]
  rcases hfl with q | q
  · rw [if_neg (by rw [q]; decide), common]
    obtain ⟨σ7, μ7, w7, R7, E7, B7⟩ := lk_wr R6 hm6 h16 hb
    obtain ⟨σ8, μ8, g8, R8, E8, hm8, h18, z8⟩ := ch_load R7 (by rw [E7]; exact hm6) (by rw [E7]; exact h16) hb hb rfl (by rw [E7]; exact B7)
    have hAg := cp_ag (s := μ7 0) m2 m3 hb (by rw [E7]; exact h6b)
    rw [cnt_0 M 0 0 (fun i _ hi => md_ag m3 hAg (i + 1) i (by omega) (by omega))] at g8
    have t8 : tb (μ8 0) M B b = tb (μ 0) M B b := by rw [E8, E7, tb_cp m2 m3 hb, t6]
    have h8b : μ8 0 (263 + b) = 0 := by rw [E8, ((cp_at m2 m3 hb).2.2 b hb32).2.2, if_pos rfl]
    obtain ⟨σ9, μ9, e9, R9⟩ := ld_136 R8 hm8 h18 hb ho h8b
    rw [t8] at e9
    rw [t6] at w7
    refine ⟨σ9, μ9, ?_, R9⟩
    unfold fL_loads_b99
    rw [if_pos rfl, if_neg n10, w7, bo_s, if_pos rfl, g8, bo_s, if_pos rfl]
    exact e9
  · rw [if_pos q, common]
    obtain ⟨σ9, μ9, e9, R9⟩ := ld_136 R6 hm6 h16 hb ho h6b
    rw [t6] at e9
    refine ⟨σ9, μ9, ?_, R9⟩
    unfold fL_loads_b99
    rw [if_neg n10]
    exact e9
