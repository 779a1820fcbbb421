/-! P31: one of the law's changes -/
theorem lo (x : Int32) {d : Nat} (h0 : 0 < d) (hd : d < 2 ^ 31) : ∃ r, r < d ∧ fL_low x (nI d) = some (nI r) := by
  obtain ⟨j, hj, e⟩ := pk_andE x (m := 2147483647) 31 (by decide)
  refine ⟨j % d, Nat.mod_lt _ h0, ?_⟩
  unfold fL_low
  rw [e, gd_of (nI_ne0 h0 hd), pk_rem hj h0 hd]
theorem Rl.n0e {σ μ : Sg} (hR : Rl σ μ 0) : σ 10 0 = μ 0 0 := by
  obtain ⟨M, B, hm⟩ := hR.ms
  rw [show σ 10 0 = nI M from (hR.ba hm).1, hm.2.2.2.2.1]
theorem Rl.n5e {σ μ : Sg} (hR : Rl σ μ 0) : σ 10 9 = μ 0 5 := by
  obtain ⟨⟨_, _, _, _, w, _⟩, _⟩ := hR
  exact w
theorem c1_0 {σ μ : Sg} (hR : Rl σ μ 0) (h : μ 0 1 = 0) : fX6_count 1 σ = some (.inl 0, σ) := by
  rw [x_c1 hR.1, if_neg (by rw [h]; decide)]
theorem ls0 {s : Nat → Int32} : ∀ n acc b, (∀ i, b ≤ i → i < b + n → s (263 + i) = 0) → lsS s n acc b = acc := by
  intro n
  induction n with
  | zero => intro acc b h; rfl
  | succ n ih =>
    intro acc b h
    rw [lsS, h b (Nat.le_refl b) (by omega), Int32.add_zero]
    exact ih _ _ (fun i h1 h2 => h i (by omega) (by omega))
theorem nb_eq {M B : Nat} (m1 : 1 ≤ M) (m2 : M ≤ 64) (m3 : 2 ≤ B) (m4 : B ≤ 16) : (nI M + nI B - 1) / nI B = nI (NB M B) := by
  rw [nI_add, show nI (M + B) - 1 = nI (M + B - 1) from pk_sub (b := 1) (by omega), pk_div (by omega) (by omega) (by omega)]
  rfl
theorem change_ok {σ μ : Sg} (hR : Rl σ μ 0) (x y : Int32) : ∃ σ' μ', fL_change x y σ = some (1, σ') ∧ Rl σ' μ' 0 := by
  obtain ⟨M, B, hm⟩ := hR.ms
  have hm' := hm
  obtain ⟨m1, m2, m3, m4, m5, m6, m7, m8, m9, m10⟩ := hm'
  have ha := hR.ba hm
  have n10 : ¬ (1 : Int32) = 0 := by decide
  have hle := nb_le m3 m2
  have hNB : 0 < NB M B := (nb_lt (by omega)).mpr (by rw [Nat.zero_mul]; omega)
  obtain ⟨t0, t1, t2⟩ := lk_st hR hm
  have e2 : σ 10 0 = nI M := ha.1
  obtain ⟨N, e5, hN⟩ : ∃ N, σ 10 3 = nI N ∧ ((μ 0 1 = 0 ∧ N = 0) ∨ (μ 0 1 = 1 ∧ N = NB M B)) := by
    rcases hR.cd with h1 | h1
    · exact ⟨0, by rw [hR.unc h1]; rfl, Or.inl ⟨h1, rfl⟩⟩
    · exact ⟨NB M B, (hR.co hm h1).1.1, Or.inr ⟨h1, rfl⟩⟩
  obtain ⟨c, hc, ec⟩ := lo x (d := 12) (by decide) (by decide)
  have ec' : fL_low x 12 = some (nI c) := ec
  unfold fL_change
  rw [x_c0, bo_s, x_c2, bo_s, ec', bd_s, e2, e5]
  rcases (show c = 0 ∨ c = 1 ∨ c = 2 ∨ c = 3 ∨ c = 4 ∨ c = 5 ∨ c = 6 ∨ c = 7 ∨ c = 8 ∨ c = 9 ∨ 10 ≤ c by omega) with rfl | rfl | rfl | rfl | rfl | rfl | rfl | rfl | rfl | rfl | h10
  · obtain ⟨r, hr, er⟩ := lo y (d := 40) (by decide) (by decide)
    have er' : fL_low y 40 = some (nI r) := er
    obtain ⟨σ1, μ1, s1, e1, R1, C1, z1, z2⟩ := ch_wave (j := 1 + r) hR (by omega) (by omega)
    have hj : (1 : Int32) + nI r = nI (1 + r) := nI_add 1 r
    rw [if_pos (show nI 0 = 0 from rfl), er', bd_s, hj, e1, bo_s, if_pos m5, x_c0, bo_s, bd_s, hj, if_pos (by rw [R1.n0e, C1.1, z1]), c1_0 R1 (by rw [C1.1]; exact z2), bo_s, if_pos rfl]
    exact ⟨σ1, μ1, rfl, R1⟩
  · obtain ⟨r, hr, er⟩ := lo y (d := M) m1 (by omega)
    obtain ⟨q, hq, eq⟩ := lo (y >>> (6 &&& 31)) (d := 4096) (by decide) (by decide)
    have eq' : fL_low (y >>> (6 &&& 31)) 4096 = some (nI q) := eq
    have e0 := lk_s0 hR hm hr
    have hv : inV (nI q - 2048) := by
      unfold inV
      rw [show (nI q - 2048).toInt = (q : Int) - (2048 : Nat) from pk_sub_toInt (b := 2048) (by omega) (by decide)]
      omega
    obtain ⟨σ1, μ1, s1, e1, R1, C1, z2⟩ := ch_sample hR hm hr hv
    rw [if_neg (show ¬ nI 1 = 0 by decide), if_pos (show nI 1 = 1 from rfl), er, bd_s, e0, bo_s, bd_s, eq', bd_s, e1, bo_s, if_pos rfl, c1_0 R1 (by rw [C1.1]; exact z2), bo_s, if_pos rfl]
    exact ⟨σ1, μ1, rfl, R1⟩
  · obtain ⟨r, hr, er⟩ := lo y (d := M) m1 (by omega)
    obtain ⟨q, hq, eq⟩ := lo (y >>> (6 &&& 31)) (d := 4096) (by decide) (by decide)
    have eq' : fL_low (y >>> (6 &&& 31)) 4096 = some (nI q) := eq
    have e0 := lk_s0 hR hm hr
    have hv : inV (nI q - 2048) := by
      unfold inV
      rw [show (nI q - 2048).toInt = (q : Int) - (2048 : Nat) from pk_sub_toInt (b := 2048) (by omega) (by decide)]
      omega
    obtain ⟨σ1, μ1, s1, e1, R1, C1, z2⟩ := ch_sample hR hm hr hv
    rw [if_neg (show ¬ nI 2 = 0 by decide), if_neg (show ¬ nI 2 = 1 by decide), if_pos (show nI 2 = 2 from rfl), er, bd_s, e0, bo_s, bd_s, eq', bd_s, e1, bo_s, if_pos rfl, c1_0 R1 (by rw [C1.1]; exact z2), bo_s, if_pos rfl]
    exact ⟨σ1, μ1, rfl, R1⟩
  · obtain ⟨a, ha3, ea⟩ := lo y (d := 3) (by decide) (by decide)
    have ea' : fL_low y 3 = some (nI a) := ea
    obtain ⟨h, hh, eh⟩ := lo (y >>> (2 &&& 31)) (d := 2048) (by decide) (by decide)
    have eh' : fL_low (y >>> (2 &&& 31)) 2048 = some (nI h) := eh
    obtain ⟨p, hp, ep⟩ := lo (y >>> (13 &&& 31)) (d := 40) (by decide) (by decide)
    have ep' : fL_low (y >>> (13 &&& 31)) 40 = some (nI p) := ep
    have hj : (1 : Int32) + nI p = nI (1 + p) := nI_add 1 p
    obtain ⟨r, σ1, μ1, s1, e1, hr, R1, C1, z2, z3⟩ := ch_add (a1 := nI a) (a2 := nI h) (p := 1 + p) hR hm ⟨nI_pos' (by omega), nI_le (b := 2) (by omega) (by decide)⟩ ⟨nI_pos' (by omega), nI_le (b := 2047) (by omega) (by decide)⟩ (by omega) (by omega)
    rw [if_neg (show ¬ nI 3 = 0 by decide), if_neg (show ¬ nI 3 = 1 by decide), if_neg (show ¬ nI 3 = 2 by decide), if_pos (show nI 3 = 3 from rfl), ea', bd_s, eh', bd_s, ep', bd_s, hj, e1, bo_s, if_neg (nI_pos (by omega)), if_neg (nI_nlt hr (by omega)), c1_0 R1 (by rw [C1.1]; exact z2), bo_s, if_pos rfl]
    exact ⟨σ1, μ1, rfl, R1⟩
  · obtain ⟨a, ha3, ea⟩ := lo y (d := 3) (by decide) (by decide)
    have ea' : fL_low y 3 = some (nI a) := ea
    obtain ⟨h, hh, eh⟩ := lo (y >>> (2 &&& 31)) (d := 2048) (by decide) (by decide)
    have eh' : fL_low (y >>> (2 &&& 31)) 2048 = some (nI h) := eh
    obtain ⟨p, hp, ep⟩ := lo (y >>> (13 &&& 31)) (d := 40) (by decide) (by decide)
    have ep' : fL_low (y >>> (13 &&& 31)) 40 = some (nI p) := ep
    have hj : (1 : Int32) + nI p = nI (1 + p) := nI_add 1 p
    obtain ⟨r, σ1, μ1, s1, e1, hr, R1, C1, z2, z3⟩ := ch_add (a1 := nI a) (a2 := nI h) (p := 1 + p) hR hm ⟨nI_pos' (by omega), nI_le (b := 2) (by omega) (by decide)⟩ ⟨nI_pos' (by omega), nI_le (b := 2047) (by omega) (by decide)⟩ (by omega) (by omega)
    rw [if_neg (show ¬ nI 4 = 0 by decide), if_neg (show ¬ nI 4 = 1 by decide), if_neg (show ¬ nI 4 = 2 by decide), if_neg (show ¬ nI 4 = 3 by decide), if_pos (show nI 4 = 4 from rfl), ea', bd_s, eh', bd_s, ep', bd_s, hj, e1, bo_s, if_neg (nI_pos (by omega)), if_neg (nI_nlt hr (by omega)), c1_0 R1 (by rw [C1.1]; exact z2), bo_s, if_pos rfl]
    exact ⟨σ1, μ1, rfl, R1⟩
  · obtain ⟨b, hb, eb⟩ := lo y (d := 15) (by decide) (by decide)
    have eb' : fL_low y 15 = some (nI b) := eb
    obtain ⟨σ1, μ1, s1, e1, R1, C1, z2⟩ := ch_set0 (b := 2 + b) hR hm (by omega) (by omega)
    rw [if_neg (show ¬ nI 5 = 0 by decide), if_neg (show ¬ nI 5 = 1 by decide), if_neg (show ¬ nI 5 = 2 by decide), if_neg (show ¬ nI 5 = 3 by decide), if_neg (show ¬ nI 5 = 4 by decide), if_pos (show nI 5 = 5 from rfl), t0, bo_s, eb', bd_s, show (2 : Int32) + nI b = nI (2 + b) from nI_add 2 b, e1, bo_s, if_pos rfl, c1_0 R1 (by rw [C1.1]; exact z2), bo_s, if_pos rfl]
    exact ⟨σ1, μ1, rfl, R1⟩
  · obtain ⟨j, hj, ej⟩ := pk_andE y (m := 1) 1 (by decide)
    rw [if_neg (show ¬ nI 6 = 0 by decide), if_neg (show ¬ nI 6 = 1 by decide), if_neg (show ¬ nI 6 = 2 by decide), if_neg (show ¬ nI 6 = 3 by decide), if_neg (show ¬ nI 6 = 4 by decide), if_neg (show ¬ nI 6 = 5 by decide), if_pos (show nI 6 = 6 from rfl), ej]
    rcases (show j = 0 ∨ j = 1 by omega) with rfl | rfl
    · obtain ⟨b, hb, eb⟩ := lo (y >>> (1 &&& 31)) (d := 2) (by decide) (by decide)
      have eb' : fL_low (y >>> (1 &&& 31)) 2 = some (nI b) := eb
      obtain ⟨σ1, μ1, s1, e1, R1, C1⟩ := ch_set1 (b := b) hR hm (by omega)
      rw [show (1 : Int32) + nI 0 = 1 from rfl, show (2 : Int32) + nI 0 = 2 from rfl, t1, bo_s, eb', bd_s, e1, bo_s, if_pos rfl]
      exact ⟨σ1, μ1, rfl, R1⟩
    · obtain ⟨b, hb, eb⟩ := lo (y >>> (1 &&& 31)) (d := 3) (by decide) (by decide)
      have eb' : fL_low (y >>> (1 &&& 31)) 3 = some (nI b) := eb
      obtain ⟨σ1, μ1, s1, e1, R1, C1⟩ := ch_set2 (b := b) hR hm (by omega)
      rw [show (1 : Int32) + nI 1 = 2 from rfl, show (2 : Int32) + nI 1 = 3 from rfl, t2, bo_s, eb', bd_s, e1, bo_s, if_pos rfl]
      exact ⟨σ1, μ1, rfl, R1⟩
  · rw [if_neg (show ¬ nI 7 = 0 by decide), if_neg (show ¬ nI 7 = 1 by decide), if_neg (show ¬ nI 7 = 2 by decide), if_neg (show ¬ nI 7 = 3 by decide), if_neg (show ¬ nI 7 = 4 by decide), if_neg (show ¬ nI 7 = 5 by decide), if_neg (show ¬ nI 7 = 6 by decide), if_pos (show nI 7 = 7 from rfl)]
    rcases hN with ⟨h1, rfl⟩ | ⟨h1, rfl⟩
    · rw [if_pos (show nI 0 = 0 from rfl)]
      exact ⟨σ, μ, rfl, hR⟩
    · obtain ⟨b, hb, eb⟩ := lo y (d := NB M B) hNB (by omega)
      obtain ⟨r, σ1, μ1, s1, e1, e3, R1, C1⟩ := ch_lose hR hm h1 ((nb_lt (by omega)).mp hb)
      rw [if_neg (nI_ne0 hNB (by omega)), eb, bd_s, e1, bo_s, x_c3, e3, bd_s, bo_s, if_pos rfl]
      exact ⟨σ1, μ1, rfl, R1⟩
  · rw [if_neg (show ¬ nI 8 = 0 by decide), if_neg (show ¬ nI 8 = 1 by decide), if_neg (show ¬ nI 8 = 2 by decide), if_neg (show ¬ nI 8 = 3 by decide), if_neg (show ¬ nI 8 = 4 by decide), if_neg (show ¬ nI 8 = 5 by decide), if_neg (show ¬ nI 8 = 6 by decide), if_neg (show ¬ nI 8 = 7 by decide), if_pos (show nI 8 = 8 from rfl)]
    obtain ⟨k, hk, ek⟩ := lo y (d := M) m1 (by omega)
    rcases hR.cd with h1 | h1
    · have e3 : fX6_sampleOf (nI k) 3 σ = some (.inl (-1), σ) := lk_sN hR hm h1 hk 3 (by decide) (by decide)
      rw [ek, bd_s, e3, bo_s, if_pos rfl]
      exact ⟨σ, μ, rfl, hR⟩
    · obtain ⟨σ1, e1, l1⟩ := lk_s3 hR hm h1 hk
      rw [ek, bd_s, e1, bo_s]
      by_cases q : μ 0 (71 + k) = -1
      · rw [if_pos q]
        exact ⟨σ1, μ, rfl, l1.1⟩
      · obtain ⟨b, hb, eb⟩ := lo (y >>> (6 &&& 31)) (d := 4) (by decide) (by decide)
        have eb' : fL_low (y >>> (6 &&& 31)) 4 = some (nI b) := eb
        obtain ⟨_, hd⟩ := hR.co hm h1
        obtain ⟨σ2, μ2, e2', R2⟩ := spoiled_ok l1.1 hm h1 hk (fun z => q ((hd.2 k hk).1 z)) hb
        rw [if_neg q, eb', bd_s, e2', bd2_s, if_neg n10]
        exact ⟨σ2, μ2, rfl, R2⟩
  · rw [if_neg (show ¬ nI 9 = 0 by decide), if_neg (show ¬ nI 9 = 1 by decide), if_neg (show ¬ nI 9 = 2 by decide), if_neg (show ¬ nI 9 = 3 by decide), if_neg (show ¬ nI 9 = 4 by decide), if_neg (show ¬ nI 9 = 5 by decide), if_neg (show ¬ nI 9 = 6 by decide), if_neg (show ¬ nI 9 = 7 by decide), if_neg (show ¬ nI 9 = 8 by decide), if_pos (show nI 9 = 9 from rfl)]
    rcases hN with ⟨h1, rfl⟩ | ⟨h1, rfl⟩
    · rw [if_pos (show nI 0 = 0 from rfl)]
      exact ⟨σ, μ, rfl, hR⟩
    · obtain ⟨b, hb, eb⟩ := lo y (d := NB M B) hNB (by omega)
      obtain ⟨o, ho, eo'⟩ := lo (y >>> (5 &&& 31)) (d := NB M B) hNB (by omega)
      obtain ⟨σ1, μ1, e1, R1⟩ := loads_ok hR hm h1 ((nb_lt (by omega)).mp hb) ((nb_lt (by omega)).mp ho)
      rw [if_neg (nI_ne0 hNB (by omega)), eb, bd_s, eo', bd_s, e1, bd2_s, if_neg n10]
      exact ⟨σ1, μ1, rfl, R1⟩
  · have hk : ∀ j, j < 10 → ¬ nI c = nI j := fun j hj z => by
      have := (nI_eq (by omega) (by omega)).mp z
      omega
    obtain ⟨σ1, μ1, s1, e1, R1, C1, z1, z2, z3, z4, z5⟩ := ch_code hR hm
    have hm1 : MS (μ1 0) M B := by rw [C1.1]; exact z1
    have h11 : μ1 0 1 = 1 := by rw [C1.1]; exact z2
    obtain ⟨σ2, e9, l2⟩ := guess_ok R1 hm1 h11 (by rw [C1.1]; exact z5)
    have hl : lsS (μ1 0) (NB M B) 0 0 = 0 := ls0 _ _ _ (fun i _ hi => by
      rw [C1.1]
      exact (z5.2.1 i ((nb_lt (by omega)).mp (by omega))).1)
    rw [if_neg (show ¬ nI c = 0 from hk 0 (by decide)), if_neg (show ¬ nI c = 1 from hk 1 (by decide)), if_neg (show ¬ nI c = 2 from hk 2 (by decide)), if_neg (show ¬ nI c = 3 from hk 3 (by decide)), if_neg (show ¬ nI c = 4 from hk 4 (by decide)), if_neg (show ¬ nI c = 5 from hk 5 (by decide)), if_neg (show ¬ nI c = 6 from hk 6 (by decide)), if_neg (show ¬ nI c = 7 from hk 7 (by decide)), if_neg (show ¬ nI c = 8 from hk 8 (by decide)), if_neg (show ¬ nI c = 9 from hk 9 (by decide)), x_c9, bo_s, t0, bo_s, t0, bo_s, gd_of (nI_ne0 (by omega) (by omega)), nb_eq m1 m2 m3 m4, nm_s, e1, bd2_s, if_pos rfl, x_c9, bo_s, if_pos (by rw [R1.n5e, C1.1, z3, hR.n5e]), lk_c3 R1 hm1 h11, bo_s, if_pos hl, e9, bd2_s, if_neg n10]
    exact ⟨σ2, μ1, rfl, l2.1⟩
