/-! PURE: the relation between the class's and the model's ints -/
/-- a row of the model holds a state -/
def MS (s : Nat → Int32) (M B : Nat) : Prop := 1 ≤ M ∧ M ≤ 64 ∧ 2 ≤ B ∧ B ≤ 16 ∧ s 0 = nI M ∧ s 2 = nI B ∧ (s 3 = 0 ∨ s 3 = 1) ∧ (s 4 = 0 ∨ s 4 = 1 ∨ s 4 = 2) ∧ (∀ k, k < M → inV (s (7 + k))) ∧ (s 1 = 0 ∨ (s 1 = 1 ∧ CdS s M B))
/-- the class's State at row q is the state s -/
def SR (σ : Sg) (q : Nat) (s : Nat → Int32) : Prop := ∃ M B, MS s M B ∧ Ba σ q s M B ∧ σ q 9 = s 5 ∧ σ q 10 = s 6 ∧ ((s 1 = 0 ∧ σ q 3 = 0) ∨ (s 1 = 1 ∧ Co σ q s M B))
def Bo (σ : Sg) (q : Nat) : Prop := ∀ k, k < 32 → σ (q + 5) k = 0 ∨ σ (q + 5) k = 1
theorem MS.one {s : Nat → Int32} {M B M' B' : Nat} (h : MS s M B) (h' : MS s M' B') : M' = M ∧ B' = B := by
  obtain ⟨a1, a2, a3, a4, a5, a6, _⟩ := h
  obtain ⟨b1, b2, b3, b4, b5, b6, _⟩ := h'
  exact ⟨(nI_eq (by omega) (by omega)).mp (b5.symm.trans a5), (nI_eq (by omega) (by omega)).mp (b6.symm.trans a6)⟩
theorem b32 {M B b : Nat} (hM : M ≤ 64) (hB : 2 ≤ B) (hb : b * B < M) : b < 32 := by
  have := (nb_lt (M := M) (B := B) (b := b) (by omega)).mpr hb
  have := nb_le hB hM
  omega
/-- the same State at two places -/
def EqS (σ' : Sg) (q' : Nat) (σ : Sg) (q : Nat) : Prop := (σ' q' 0 = σ q 0 ∧ σ' q' 3 = σ q 3 ∧ σ' q' 9 = σ q 9 ∧ σ' q' 10 = σ q 10) ∧ (∀ k, k < 64 → σ' (q' + 1) k = σ (q + 1) k) ∧ (∀ k, k < 3 → σ' (q' + 2) k = σ (q + 2) k) ∧ (∀ k, k < 32 → σ' (q' + 3) k = σ (q + 3) k ∧ σ' (q' + 4) k = σ (q + 4) k ∧ σ' (q' + 5) k = σ (q + 5) k) ∧ ∀ k, k < 64 → σ' (q' + 6) k = σ (q + 6) k ∧ σ' (q' + 7) k = σ (q + 7) k
theorem EqS.of {σ' σ : Sg} {q : Nat} (h : ∀ j, j < 8 → σ' (q + j) = σ (q + j)) : EqS σ' q σ q := by
  have h0 : σ' q = σ q := h 0 (by decide)
  refine ⟨?_, fun k _ => by rw [h 1 (by decide)], fun k _ => by rw [h 2 (by decide)], fun k _ => ?_, fun k _ => ?_⟩
  · rw [h0]
    exact ⟨rfl, rfl, rfl, rfl⟩
  · rw [h 3 (by decide), h 4 (by decide), h 5 (by decide)]
    exact ⟨rfl, rfl, rfl⟩
  · rw [h 6 (by decide), h 7 (by decide)]
    exact ⟨rfl, rfl⟩
theorem SR.eqs {σ' σ : Sg} {q' q : Nat} {s : Nat → Int32} (h : SR σ q s) (e : EqS σ' q' σ q) : SR σ' q' s := by
  obtain ⟨M, B, hm, ⟨a1, a2, a3, a4, a5⟩, h9, h10, hc⟩ := h
  obtain ⟨⟨e0, e3, e9, e10⟩, f1, f2, f3, f6⟩ := e
  have hm' := hm
  obtain ⟨m1, m2, m3, m4, _⟩ := hm'
  refine ⟨M, B, hm, ⟨e0.trans a1, (f2 0 (by decide)).trans a2, (f2 1 (by decide)).trans a3, (f2 2 (by decide)).trans a4, fun k hk => (f1 k (by omega)).trans (a5 k hk)⟩, e9.trans h9, e10.trans h10, ?_⟩
  rcases hc with ⟨c1, c2⟩ | ⟨c1, c2, c3, c4⟩
  · exact Or.inl ⟨c1, e3.trans c2⟩
  · refine Or.inr ⟨c1, e3.trans c2, fun b hb => ?_, fun k hk => ?_⟩
    · obtain ⟨g1, g2, g3⟩ := f3 b (b32 m2 m3 hb)
      obtain ⟨d1, d2, d3⟩ := c3 b hb
      exact ⟨g1.trans d1, g2.trans d2, g3.trans d3⟩
    · obtain ⟨g1, g2⟩ := f6 k (by omega)
      obtain ⟨d1, d2⟩ := c4 k hk
      exact ⟨g1.trans d1, g2.trans d2⟩
theorem MS.cong {s s' : Nat → Int32} {M B : Nat} (h : MS s M B) (e : ∀ k, k < 295 → s' k = s k) : MS s' M B := by
  obtain ⟨a1, a2, a3, a4, a5, a6, a7, a8, a9, a10⟩ := h
  refine ⟨a1, a2, a3, a4, ?_, ?_, ?_, ?_, fun k hk => ?_, ?_⟩
  · rw [e 0 (by decide)]; exact a5
  · rw [e 2 (by decide)]; exact a6
  · rw [e 3 (by decide)]; exact a7
  · rw [e 4 (by decide)]; exact a8
  · rw [e (7 + k) (by omega)]; exact a9 k hk
  · rw [e 1 (by decide)]
    rcases a10 with c | ⟨c, d1, d2⟩
    · exact Or.inl c
    · refine Or.inr ⟨c, fun b hb => ?_, fun k hk => ?_⟩
      · have := b32 a2 a3 hb
        rw [e (199 + b) (by omega), e (231 + b) (by omega), e (263 + b) (by omega)]
        exact d1 b hb
      · rw [e (71 + k) (by omega)]
        exact d2 k hk
theorem SR.cong {σ : Sg} {q : Nat} {s s' : Nat → Int32} (h : SR σ q s) (e : ∀ k, k < 295 → s' k = s k) : SR σ q s' := by
  obtain ⟨M, B, hm, ⟨a1, a2, a3, a4, a5⟩, h9, h10, hc⟩ := h
  have hm' := hm
  obtain ⟨m1, m2, m3, m4, _⟩ := hm'
  refine ⟨M, B, hm.cong e, ⟨a1, a2, ?_, ?_, fun k hk => ?_⟩, ?_, ?_, ?_⟩
  · rw [e 3 (by decide)]; exact a3
  · rw [e 4 (by decide)]; exact a4
  · rw [e (7 + k) (by omega)]; exact a5 k hk
  · rw [e 5 (by decide)]; exact h9
  · rw [e 6 (by decide)]; exact h10
  · rw [e 1 (by decide)]
    rcases hc with ⟨c1, c2⟩ | ⟨c1, c2, c3, c4⟩
    · exact Or.inl ⟨c1, c2⟩
    · refine Or.inr ⟨c1, c2, fun b hb => ?_, fun k hk => ?_⟩
      · have := b32 m2 m3 hb
        rw [e (199 + b) (by omega), e (231 + b) (by omega), e (263 + b) (by omega)]
        exact c3 b hb
      · rw [e (71 + k) (by omega), e (135 + k) (by omega)]
        exact c4 k hk
/-- the saved states: the class's row of references is a permutation -/
def Hi (σ μ : Sg) (h : Nat) : Prop := h ≤ 6 ∧ σ 1 1 = nI h ∧ μ 20 3 = nI h ∧ ∃ π : Nat → Nat, (∀ t, t < 6 → 3 ≤ π t ∧ π t < 9 ∧ σ 2 t = nI (π t)) ∧ (∀ t u, t < 6 → u < 6 → π t = π u → t = u) ∧ ∀ t, t < h → SR σ (10 + 8 * π t) (fun k => μ 1 (295 * t + k))
def Kp (σ μ : Sg) : Prop := ∀ u, u < 2 → σ 4 u = μ 3 u ∧ (μ 3 u = 0 ∨ (μ 3 u = 1 ∧ SR σ (10 + 8 * (1 + u)) (fun k => μ 2 (295 * u + k))))
def Bf (σ μ : Sg) : Prop := ∃ L, L ≤ 40 ∧ σ 5 1 = nI L ∧ μ 20 7 = nI L ∧ ∀ k, k < L → σ 6 k = μ 4 k
def Dc (σ μ : Sg) : Prop := σ 86 3 = 0 ∨ (σ 86 3 = 1 ∧ ∀ M B, MS (μ 0) M B → μ 0 1 = 1 → DOk σ (μ 0) 0 M B)
def Rl (σ μ : Sg) (_ : Int64) : Prop := SR σ 10 (μ 0) ∧ (∃ h, Hi σ μ h) ∧ (∀ i, i < 9 → Bo σ (10 + 8 * i)) ∧ Kp σ μ ∧ Bf σ μ ∧ Tbl μ ∧ Dc σ μ
theorem Bf.fr {σ μ σ' μ' : Sg} (h : Bf σ μ) (h1 : σ' 5 1 = σ 5 1) (h2 : σ' 6 = σ 6) (h3 : μ' 20 7 = μ 20 7) (h4 : μ' 4 = μ 4) : Bf σ' μ' := by
  unfold Bf at h ⊢
  rw [h1, h2, h3, h4]
  exact h
theorem Hi.fr {σ μ σ' μ' : Sg} {h : Nat} (H : Hi σ μ h) (hr : ∀ q, q = 1 ∨ q = 2 ∨ (34 ≤ q ∧ q < 82) → σ' q = σ q) (h1 : μ' 1 = μ 1) (h3 : μ' 20 3 = μ 20 3) : Hi σ' μ' h := by
  obtain ⟨a1, a2, a3, π, p1, p2, p3⟩ := H
  refine ⟨a1, by rw [hr 1 (Or.inl rfl)]; exact a2, h3.trans a3, π, fun t ht => ?_, p2, fun t ht => ?_⟩
  · rw [hr 2 (Or.inr (Or.inl rfl))]
    exact p1 t ht
  · have := p1 t (by omega)
    rw [h1]
    exact (p3 t ht).eqs (EqS.of (fun j hj => hr _ (by omega)))
theorem Kp.fr {σ μ σ' μ' : Sg} (H : Kp σ μ) (hr : ∀ q, q = 4 ∨ (18 ≤ q ∧ q < 34) → σ' q = σ q) (h2 : μ' 2 = μ 2) (h3 : μ' 3 = μ 3) : Kp σ' μ' := by
  intro u hu
  obtain ⟨a, b⟩ := H u hu
  rw [hr 4 (Or.inl rfl), h3, h2]
  refine ⟨a, ?_⟩
  rcases b with b | ⟨b, c⟩
  · exact Or.inl b
  · exact Or.inr ⟨b, c.eqs (EqS.of (fun j hj => hr _ (by omega)))⟩
theorem Rl.re {σ μ σ' μ' : Sg} {dg dg' : Int64} (H : Rl σ μ dg) (hS : SR σ' 10 (μ' 0)) (hB : Bo σ' 10) (hbf : Bf σ' μ') (hdc : Dc σ' μ') (hr : ∀ q, q = 1 ∨ q = 2 ∨ q = 4 ∨ (18 ≤ q ∧ q < 82) → σ' q = σ q) (h1 : μ' 1 = μ 1) (h2 : μ' 2 = μ 2) (h3 : μ' 3 = μ 3) (h5 : μ' 5 = μ 5) (h20 : μ' 20 3 = μ 20 3) : Rl σ' μ' dg' := by
  obtain ⟨_, ⟨h, b⟩, c, d, _, f, _⟩ := H
  refine ⟨hS, ⟨h, b.fr (fun q hq => hr q (by omega)) h1 h20⟩, fun i hi => ?_, d.fr (fun q hq => hr q (by omega)) h2 h3, hbf, fun n hn => by rw [h5]; exact f n hn, hdc⟩
  rcases Nat.eq_zero_or_pos i with rfl | hp
  · exact hB
  · intro k hk
    rw [hr _ (by omega)]
    exact c i hi k hk
/-- nothing that is told has changed -/
theorem Rl.sm {σ μ σ' μ' : Sg} {dg dg' : Int64} (H : Rl σ μ dg) (hr : ∀ q, q ≠ 5 → q < 82 → σ' q = σ q) (h51 : σ' 5 1 = σ 5 1) (hdc : Dc σ' μ') (hm : ∀ q, q < 6 → μ' q = μ q) (h20 : μ' 20 3 = μ 20 3) (h27 : μ' 20 7 = μ 20 7) : Rl σ' μ' dg' := by
  have H' := H
  obtain ⟨a, _, c, _, e, _, _⟩ := H'
  refine H.re ?_ ?_ (e.fr h51 (hr 6 (by decide) (by decide)) h27 (hm 4 (by decide))) hdc (fun q hq => hr q (by omega) (by omega)) (hm 1 (by decide)) (hm 2 (by decide)) (hm 3 (by decide)) (hm 5 (by decide)) h20
  · rw [hm 0 (by decide)]
    exact a.eqs (EqS.of (fun j hj => hr _ (by omega) (by omega)))
  · intro k hk
    rw [hr _ (by decide) (by decide)]
    exact c 0 (by decide) k hk
theorem Dc.fr {σ μ σ' μ' : Sg} (H : Dc σ μ) (h6 : σ' 86 3 = σ 86 3) (h7 : σ' 87 = σ 87) (h8 : σ' 88 = σ 88) (h0 : μ' 0 = μ 0) : Dc σ' μ' := by
  unfold Dc DOk at H ⊢
  simp only [Nat.mul_zero, Nat.add_zero, Nat.reduceAdd] at H ⊢
  rw [h6, h7, h8, h0]
  exact H
