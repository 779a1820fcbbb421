/-! PURE: reading a block as a text: the whole of it -/
def Cq (σ μ : Sg) (c : Nat) : Prop := c ≤ 15 ∧ σ 5 5 = nI c ∧ μ 20 18 = nI c ∧ ∀ i, i < c → σ 7 i = μ 10 i ∧ c16 (μ 10 i)
theorem nI16 {x : Nat} (h : x < 16) : c16 (nI x) := by
  unfold c16
  rw [nI_toInt (by omega)]
  omega
theorem on_2 {c : Int32} {σ : Sg} (h6 : σ 5 6 = 2) : fX0_readsOn c σ = bd2 (fX0_readsCode c σ) fun r13 s14 => gd (r13 = 0 ∨ r13 = 1) <| some (r13, s14) := by
  unfold fX0_readsOn
  rw [nm_s, h6, if_neg (by decide), if_neg (by decide)]
theorem on_1 {c : Int32} {σ : Sg} (h6 : σ 5 6 = 1) : fX0_readsOn c σ = bd2 (fX0_readsNumber c σ) fun r9 s10 => gd (r9 = 0 ∨ r9 = 1) <| some (r9, s10) := by
  unfold fX0_readsOn
  rw [nm_s, h6, if_neg (by decide), if_pos rfl]
theorem on_0 {c : Int32} {σ : Sg} (h6 : σ 5 6 = 0) : fX0_readsOn c σ = bd2 (fX0_readsFirst c σ) fun r4 s5 => gd (r4 = 0 ∨ r4 = 1) <| some (r4, s5) := by
  unfold fX0_readsOn
  rw [nm_s, h6, if_pos rfl]
theorem code_42 {x : Nat} {c : Nat} {σ : Sg} (hx : x < 16) (hc : c < 15) (h5 : σ 5 5 = nI c) : fX0_readsCode_b42 (nI x) σ = some (1, up2 (up2 σ 7 c (nI x)) 5 5 (nI (c + 1))) := by
  unfold fX0_readsCode_b42
  rw [if_neg (show ¬ nI x = -1 from fun q => by
    have z := nI_toInt (n := x) (by omega)
    rw [q] at z
    revert z
    rw [show (-1 : Int32).toInt = -1 by decide]
    omega), h5, if_pos (show nI c < 15 from nI_lt (b := 15) hc (by decide)), gi hc (by decide), nI_clamp (show c < 2 ^ 31 by omega), nm_s, up2_ne (show 5 ≠ 7 by decide), h5, nI_1, nm_s]
theorem code_full {x : Int32} {σ : Sg} (h5 : σ 5 5 = nI 15) : fX0_readsCode_b42 x σ = some (0, σ) := by
  unfold fX0_readsCode_b42
  rw [h5, if_neg (show ¬ nI 15 < 15 by decide)]
  split <;> rfl
/-- a character is a code's digit, a letter, or neither -/
theorem codeCh (c : Int32) : (∃ x, x < 10 ∧ c = nI (48 + x) ∧ ∀ σ : Sg, fX0_readsCode c σ = fX0_readsCode_b42 (nI x) σ) ∨ (∃ x, x < 6 ∧ c = nI (97 + x) ∧ ¬ (48 ≤ c ∧ c ≤ 57) ∧ ∀ σ : Sg, fX0_readsCode c σ = fX0_readsCode_b42 (nI (10 + x)) σ) ∨ (¬ (48 ≤ c ∧ c ≤ 57) ∧ ¬ (97 ≤ c ∧ c ≤ 102) ∧ ∀ σ : Sg, fX0_readsCode c σ = some (0, σ)) := by
  rcases digit c with ⟨x, hx, ex, q1, q2⟩ | ⟨q1, q2⟩
  · refine Or.inl ⟨x, hx, ex, fun σ => ?_⟩
    unfold fX0_readsCode
    rw [if_neg q1, if_neg q2, nm_s, ex, show nI (48 + x) - 48 = nI (48 + x - 48) from pk_sub (b := 48) (by omega), show 48 + x - 48 = x by omega]
  · have h22 : ∀ σ : Sg, fX0_readsCode c σ = fX0_readsCode_b22 c (-1) σ := by
      intro σ
      unfold fX0_readsCode
      rcases q2 with q | ⟨q, q'⟩
      · rw [if_pos q]
      · rw [if_neg q, if_pos q']
    by_cases h : (97 : Int32) ≤ c ∧ c ≤ 102
    · obtain ⟨j, j1, j2, ej⟩ := rng 97 102 (by decide) (by decide) h
      refine Or.inr (Or.inl ⟨j - 97, by omega, by rw [ej]; exact congrArg nI (by omega), q1, fun σ => ?_⟩)
      rw [h22]
      unfold fX0_readsCode_b22
      rw [if_neg (nlt.mpr h.1), if_neg (nlt.mpr h.2), nm_s, ej, show nI j - 97 = nI (j - 97) from pk_sub (b := 97) (by omega), show nI (j - 97) + 10 = nI (j - 97 + 10) from nI_add _ 10, Nat.add_comm 10]
    · refine Or.inr (Or.inr ⟨q1, h, fun σ => ?_⟩)
      rw [h22]
      have hm : fX0_readsCode_b42 (-1) σ = some (0, σ) := by
        unfold fX0_readsCode_b42
        rw [if_pos rfl]
      unfold fX0_readsCode_b22
      rcases th_in h with z | z
      · rw [if_pos z, hm]
      · by_cases z0 : c < 97
        · rw [if_pos z0, hm]
        · rw [if_neg z0, if_pos (nle.mp z), hm]
/-- what reading leaves -/
def Rd (σ μ : Sg) (L p : Nat) : Prop := p ≤ L ∧ ((Wr μ p ∧ (p < L ∨ ¬ σ 5 6 = 2)) ∨ (μ 20 14 = 0 ∧ p = L ∧ σ 5 6 = 2 ∧ σ 5 2 = μ 20 15 ∧ inV (μ 20 15) ∧ (∃ j, j < 49 ∧ σ 5 3 = nI j ∧ μ 20 16 = nI j) ∧ ∃ c, Cq σ μ c))
theorem ph_C : ∀ n f fm p c (σ μ : Sg) (L : Nat), n < f → n + 1 < fm → p + n = L → Pl σ μ L p → σ 5 6 = 2 → Cq σ μ c → ∃ p' σ' μ', fX0_read_L21 f (nI p) σ = some (nI p', σ') ∧ fX7_readAll_L99 fm μ = some μ' ∧ Fx σ σ' ∧ Fm μ μ' ∧ p' ≤ L ∧ ((Wr μ' p' ∧ p' < L) ∨ (μ' 20 14 = 0 ∧ p' = L ∧ σ' 5 6 = 2 ∧ σ' 5 2 = σ 5 2 ∧ σ' 5 3 = σ 5 3 ∧ μ' 20 15 = μ 20 15 ∧ μ' 20 16 = μ 20 16 ∧ ∃ c', Cq σ' μ' c')) := by
  intro n
  induction n with
  | zero =>
    intro f fm p c σ μ L hf hfm hn hP h6 hC
    obtain ⟨f, rfl⟩ := fu1 hf
    obtain ⟨fm, rfl⟩ := fu1 hfm
    have hP' := hP
    obtain ⟨a1, a2, a3, a4, a5, a6, a7⟩ := hP'
    obtain rfl : p = L := by omega
    refine ⟨p, σ, μ, x_rdE a1 a3, ?_, Fx.rf σ, Fm.rf μ, Nat.le_refl p, Or.inr ⟨a7, rfl, h6, rfl, rfl, rfl, rfl, c, hC⟩⟩
    rw [fX7_readAll_L99, a7, if_pos rfl, a4, a6, if_pos (nI_le (Nat.le_refl p) (by omega))]
  | succ n ih =>
    intro f fm p c σ μ L hf hfm hn hP h6 hC
    obtain ⟨f, rfl⟩ := fu1 hf
    obtain ⟨fm, rfl⟩ := fu1 hfm
    have hP' := hP
    obtain ⟨a1, a2, a3, a4, a5, a6, a7⟩ := hP'
    have hp : p < L := by omega
    obtain ⟨c1, c2, c3, c4⟩ := hC
    have hlen : ∃ L, L ≤ 40 ∧ μ 20 7 = nI L ∧ p ≤ L := ⟨L, a1, a4, a2⟩
    have hM0 : ∀ r, fX7_isNext 48 57 μ = some r → fX7_readAll_L99 (fm + 1) μ = if c = 15 then fX7_readAll_b142 (fun μ => fX7_readAll_L99 fm μ) r 1 μ else fX7_readAll_b142 (fun μ => fX7_readAll_L99 fm μ) r 0 μ := by
      intro r hr
      rw [fX7_readAll_L99, a7, if_pos rfl, a4, a6, if_neg (nI_ge hp (by omega)), hr, bd_s, c3]
      by_cases q : c = 15
      · rw [if_pos q, q, if_pos (show nI 15 = 15 from rfl)]
      · rw [if_neg q, if_neg (show ¬ nI c = 15 from fun z => q ((nI_eq (b := 15) (by omega) (by decide)).mp z))]
    have wrong : ∀ (μ' : Sg), fX7_readAll_L99 (fm + 1) μ = some μ' → Fm μ μ' → Wr μ' p → fX0_readsOn (σ 6 p) σ = some (0, σ) → ∃ p' σ' μ', fX0_read_L21 (f + 1) (nI p) σ = some (nI p', σ') ∧ fX7_readAll_L99 (fm + 1) μ = some μ' ∧ Fx σ σ' ∧ Fm μ μ' ∧ p' ≤ L ∧ ((Wr μ' p' ∧ p' < L) ∨ (μ' 20 14 = 0 ∧ p' = L ∧ σ' 5 6 = 2 ∧ σ' 5 2 = σ 5 2 ∧ σ' 5 3 = σ 5 3 ∧ μ' 20 15 = μ 20 15 ∧ μ' 20 16 = μ 20 16 ∧ ∃ c', Cq σ' μ' c')) := by
      intro μ' e1 e2 e3 e4
      refine ⟨p, σ, μ', ?_, e1, Fx.rf σ, e2, a2, Or.inl ⟨e3, hp⟩⟩
      rw [x_rd a1 a3 hp, e4, bd2_s, if_pos rfl]
    obtain ⟨fm, rfl⟩ := fu1 (show 0 < fm by omega)
    by_cases hc15 : c = 15
    · -- full
      subst hc15
      have hon : fX0_readsOn (σ 6 p) σ = some (0, σ) := by
        rw [on_2 h6]
        rcases codeCh (σ 6 p) with ⟨x, _, _, hz⟩ | ⟨x, _, _, _, hz⟩ | ⟨_, _, hz⟩
        · rw [hz, code_full c2, bd2_s, gd_of (Or.inl rfl)]
        · rw [hz, code_full c2, bd2_s, gd_of (Or.inl rfl)]
        · rw [hz, bd2_s, gd_of (Or.inl rfl)]
      have hW : Wr (up2 μ 20 14 1) p := ⟨by rw [up2_self, pk_us], by rw [up2_self, pk_un (by decide)]; exact a6⟩
      have hF : Fm μ (up2 μ 20 14 1) := ⟨fun q _ h2 => up2_ne h2, fun k _ h2 _ _ _ => by rw [up2_self, pk_un h2]⟩
      have hl' : ∃ L, L ≤ 40 ∧ up2 μ 20 14 1 20 7 = nI L ∧ p ≤ L := ⟨L, a1, by rw [up2_self, pk_un (by decide)]; exact a4, a2⟩
      have hb : ∀ r, ∃ μ', fX7_readAll_b142 (fun μ => fX7_readAll_L99 (fm + 1) μ) r 1 μ = some μ' ∧ Fm μ μ' ∧ Wr μ' p := by
        intro r
        unfold fX7_readAll_b142 fX7_readAll_b172
        rw [gd_of (Or.inr rfl), nm_s]
        by_cases q : r = 0
        · obtain ⟨r9, u10, t1, t2, t3, t4⟩ := w_tk hW hl' 97 102
          rw [if_pos q, t1, bd2_s, t4.1, if_neg (by decide)]
          exact ⟨u10, w_all t4 fm, hF.tr t2, t4⟩
        · obtain ⟨r9, u10, t1, t2, t3, t4⟩ := w_tk hW hl' 48 57
          rw [if_neg q, t1, bd2_s, t4.1, if_neg (by decide)]
          exact ⟨u10, w_all t4 fm, hF.tr t2, t4⟩
      obtain ⟨μ', g1, g2, g3⟩ := hb (if p < L ∧ 48 ≤ σ 6 p ∧ σ 6 p ≤ 57 then 1 else 0)
      refine wrong μ' ?_ g2 g3 hon
      rw [hM0 _ (m_nx hP 48 57), if_pos rfl]
      exact g1
    · have hc14 : c < 15 := by omega
      have hF : Fm μ (up2 μ 20 14 0) := ⟨fun q _ h2 => up2_ne h2, fun k _ h2 _ _ _ => by rw [up2_self, pk_un h2]⟩
      have hP6 : Pl σ (up2 μ 20 14 0) L p := hP.fr (Fx.rf σ) hF a2 (by rw [up2_self, pk_un (by decide)]; exact a6) (by rw [up2_self, pk_us])
      have good : ∀ (x : Nat) (lo hi : Int32), x < 16 → (lo ≤ σ 6 p ∧ σ 6 p ≤ hi) → (∀ v, v = σ 6 p - lo → (fX7_readAll_L99 (fm + 1 + 1) μ = bd2 (fX7_takes lo hi (up2 μ 20 14 0)) fun r u => fX7_readAll_b172 (fun μ => fX7_readAll_L99 (fm + 1) μ) (if lo = 97 then 10 + r else r) u)) → (if lo = 97 then 10 + (σ 6 p - lo) else σ 6 p - lo) = nI x → fX0_readsOn (σ 6 p) σ = some (1, up2 (up2 σ 7 c (nI x)) 5 5 (nI (c + 1))) → ∃ p' σ' μ', fX0_read_L21 (f + 1) (nI p) σ = some (nI p', σ') ∧ fX7_readAll_L99 (fm + 1 + 1) μ = some μ' ∧ Fx σ σ' ∧ Fm μ μ' ∧ p' ≤ L ∧ ((Wr μ' p' ∧ p' < L) ∨ (μ' 20 14 = 0 ∧ p' = L ∧ σ' 5 6 = 2 ∧ σ' 5 2 = σ 5 2 ∧ σ' 5 3 = σ 5 3 ∧ μ' 20 15 = μ 20 15 ∧ μ' 20 16 = μ 20 16 ∧ ∃ c', Cq σ' μ' c')) := by
        intro x lo hi hx hin hm hv hon
        obtain ⟨μ1, t1, t2, t3, t4, t5, t6⟩ := m_tk1 hP6 hp hin
        obtain ⟨σ2, hσ2⟩ : ∃ σ2, σ2 = up2 (up2 σ 7 c (nI x)) 5 5 (nI (c + 1)) := ⟨_, rfl⟩
        obtain ⟨μ2, hμ2⟩ : ∃ μ2, μ2 = up2 (up2 μ1 10 c (nI x)) 20 18 (nI (c + 1)) := ⟨_, rfl⟩
        have k18 : μ1 20 18 = nI c := by rw [t4 18 (by decide) (by decide), up2_self, pk_un (by decide)]; exact c3
        have s5 : ∀ k, k ≠ 5 → σ2 5 k = σ 5 k := fun k hk => by rw [hσ2, up2_self, pk_un hk, up2_ne (by decide)]
        have s7 : σ2 7 = upd (σ 7) c (nI x) := by rw [hσ2, up2_ne (by decide), up2_self]
        have sq : ∀ q, q ≠ 5 → q ≠ 7 → σ2 q = σ q := fun q h1 h2 => by rw [hσ2, up2_ne h1, up2_ne h2]
        have u10 : μ2 10 = upd (μ 10) c (nI x) := by rw [hμ2, up2_ne (by decide), up2_self, t3 10 (by decide), up2_ne (by decide)]
        have uk : ∀ k, k ≠ 18 → μ2 20 k = μ1 20 k := fun k hk => by rw [hμ2, up2_self, pk_un hk, up2_ne (by decide)]
        have hFx : Fx σ σ2 := ⟨sq, s5 1 (by decide)⟩
        have hFm : Fm μ μ2 := by
          refine ⟨fun q h1 h2 => by rw [hμ2, up2_ne h2, up2_ne h1, t3 q h2, up2_ne h2], fun k k13 k14 k15 k16 k18' => ?_⟩
          rw [uk k k18', t4 k k13 k14, up2_self, pk_un k14]
        have hP2 : Pl σ2 μ2 L (p + 1) := hP.fr hFx hFm (by omega) (by rw [uk 13 (by decide)]; exact t5) (by rw [uk 14 (by decide)]; exact t6)
        have hC2 : Cq σ2 μ2 (c + 1) := by
          refine ⟨by omega, by rw [hσ2, up2_self, pk_us], by rw [hμ2, up2_self, pk_us], fun i hi => ?_⟩
          rw [s7, u10]
          by_cases q : i = c
          · rw [q, pk_us, pk_us]
            exact ⟨rfl, nI16 hx⟩
          · rw [pk_un q, pk_un q]
            exact c4 i (by omega)
        obtain ⟨p', σ', μ', e1, e2, e3, e4, e5, e6⟩ := ih f (fm + 1) (p + 1) (c + 1) σ2 μ2 L (by omega) (by omega) (by omega) hP2 (by rw [s5 6 (by decide)]; exact h6) hC2
        refine ⟨p', σ', μ', ?_, ?_, hFx.tr e3, hFm.tr e4, e5, ?_⟩
        · rw [x_rd a1 a3 hp, hon, bd2_s, if_neg (by decide), ← hσ2]
          exact e1
        · rw [hm _ rfl, t1, bd2_s, hv]
          unfold fX7_readAll_b172
          rw [t6, if_pos rfl, k18, gi (show c < 15 by omega) (by decide), nI_clamp (show c < 2 ^ 31 by omega), nm_s, up2_ne (show 20 ≠ 10 by decide), k18, nI_1, nm_s, ← hμ2]
          exact e2
        · rcases e6 with e6 | ⟨b1, b2, b3, b4, b5, b6, b7, b8⟩
          · exact Or.inl e6
          · refine Or.inr ⟨b1, b2, b3, b4.trans (s5 2 (by decide)), b5.trans (s5 3 (by decide)), ?_, ?_, b8⟩
            · rw [b6, uk 15 (by decide), t4 15 (by decide) (by decide), up2_self, pk_un (by decide)]
            · rw [b7, uk 16 (by decide), t4 16 (by decide) (by decide), up2_self, pk_un (by decide)]
      rcases codeCh (σ 6 p) with ⟨x, hx, ex, hz⟩ | ⟨x, hx, ex, hnd, hz⟩ | ⟨hnd, hnl, hz⟩
      · have hin : (48 : Int32) ≤ σ 6 p ∧ σ 6 p ≤ 57 := by
          rw [ex]
          exact ⟨nI_le (a := 48) (by omega) (by omega), nI_le (b := 57) (by omega) (by decide)⟩
        refine good x 48 57 (by omega) hin (fun v hv => ?_) ?_ ?_
        · rw [hM0 1 (by rw [m_nx hP, if_pos ⟨hp, hin⟩]), if_neg hc15]
          unfold fX7_readAll_b142
          rw [gd_of (Or.inl rfl), nm_s, if_neg (by decide)]
          refine congrArg _ (funext fun r => funext fun u => ?_)
          rw [if_neg (show ¬ (48 : Int32) = 97 by decide)]
        · rw [if_neg (by decide), ex, show nI (48 + x) - 48 = nI (48 + x - 48) from pk_sub (b := 48) (by omega)]
          exact congrArg nI (by omega)
        · rw [on_2 h6, hz, code_42 (by omega) hc14 c2, bd2_s, gd_of (Or.inr rfl)]
      · have hin : (97 : Int32) ≤ σ 6 p ∧ σ 6 p ≤ 102 := by
          rw [ex]
          exact ⟨nI_le (a := 97) (by omega) (by omega), nI_le (b := 102) (by omega) (by decide)⟩
        refine good (10 + x) 97 102 (by omega) hin (fun v hv => ?_) ?_ ?_
        · rw [hM0 0 (by rw [m_nx hP, if_neg (fun z => hnd z.2)]), if_neg hc15]
          unfold fX7_readAll_b142
          rw [gd_of (Or.inl rfl), nm_s, if_pos rfl]
          refine congrArg _ (funext fun r => funext fun u => ?_)
          rw [if_pos rfl]
        · rw [if_pos rfl, ex, show nI (97 + x) - 97 = nI (97 + x - 97) from pk_sub (b := 97) (by omega), show (10 : Int32) + nI (97 + x - 97) = nI (10 + (97 + x - 97)) from nI_add 10 _]
          exact congrArg nI (by omega)
        · rw [on_2 h6, hz, code_42 (by omega) hc14 c2, bd2_s, gd_of (Or.inr rfl)]
      · obtain ⟨r, μ1, t1, t2, t3, t4⟩ := m_tk0 (a := 97) (b := 102) hP6 (by decide) (fun z => hnl z.2)
        refine wrong μ1 ?_ (hF.tr t2) t4 (by rw [on_2 h6, hz, bd2_s, gd_of (Or.inl rfl)])
        rw [hM0 0 (by rw [m_nx hP, if_neg (fun z => hnd z.2)]), if_neg hc15]
        unfold fX7_readAll_b142 fX7_readAll_b172
        rw [gd_of (Or.inl rfl), nm_s, if_pos rfl, t1, bd2_s, t4.1, if_neg (by decide)]
        exact w_all t4 fm
theorem ph_B {f p L : Nat} {σ μ : Sg} (hf : L < f + p) (hP : Pl σ μ L p) (h6 : σ 5 6 = 1) (h8 : σ 5 8 = 0) (h9 : σ 5 9 = 0) (hC : Cq σ μ 0) : ∃ p' σ' μ', fX0_read_L21 f (nI p) σ = some (nI p', σ') ∧ (bd2 (fX7_takesNumber 0 48 μ) fun r24 u25 => nm (up2 u25 20 16 r24) fun u26 => bd2 (fX7_takes 58 58 u26) fun r28 u29 => fX7_readAll_L99 80 u29) = some μ' ∧ Fx σ σ' ∧ Fm μ μ' ∧ p' ≤ L ∧ ((Wr μ' p' ∧ (p' < L ∨ ¬ σ' 5 6 = 2)) ∨ (μ' 20 14 = 0 ∧ p' = L ∧ σ' 5 6 = 2 ∧ σ' 5 2 = σ 5 2 ∧ μ' 20 15 = μ 20 15 ∧ (∃ j, j < 49 ∧ σ' 5 3 = nI j ∧ μ' 20 16 = nI j) ∧ ∃ c', Cq σ' μ' c')) := by
  have hP' := hP
  obtain ⟨a1, a2, a3, a4, a5, a6, a7⟩ := hP'
  have hnum : ∀ (c : Int32) (τ : Sg), τ 5 6 = 1 → (c ≠ 58 ∨ τ 5 8 = 0) → ∀ r s, fX0_readsDigit c (nI 48) τ = some (r, s) → (r = 0 ∨ r = 1) → fX0_readsOn c τ = some (r, s) := by
    intro c τ q6 q8 r s hd hr
    rw [on_1 q6]
    unfold fX0_readsNumber
    have hd' : fX0_readsDigit c 48 τ = some (r, s) := hd
    by_cases q : c = 58
    · rw [if_pos q, if_pos (q8.resolve_left (fun z => z q)), hd', bd2_s, gd_of hr, bd2_s, gd_of hr]
    · rw [if_neg q, hd', bd2_s, gd_of hr, bd2_s, gd_of hr]
  have hN := num_0 (part := 1) (term := 58) (g := σ 5 7) (m := 48) (lo := 0) (f := f) (p := p) (L := L) (σ := σ) (μ := μ) (by decide) (by decide) (by decide) (fun x hx q => by
    have := (nI_eq (b := 58) (by omega) (by decide)).mp q
    omega) (fun c τ q6 _ q8 hne r s hd hr => hnum c τ q6 (Or.inl hne) r s hd hr) hf hP h6 rfl h9 (fun x hx _ hp ex => by
    rw [ex]
    refine hnum _ σ h6 (Or.inr h8) 1 _ ?_ (Or.inr rfl)
    rw [x_dg1 hx (show 0 ≤ 2048 by decide) (by decide) (by rw [h9]; rfl) (Or.inl ⟨h8, rfl⟩), Nat.mul_zero, Nat.zero_add, if_pos (by omega)]) (fun hp hno => by
    refine hnum _ σ h6 (Or.inr h8) 0 σ ?_ (Or.inl rfl)
    rcases digit (σ 6 p) with ⟨x, hx, ex, _, _⟩ | ⟨_, q⟩
    · exact absurd ex (hno x hx (Nat.zero_le x))
    · exact x_dg0 q)
  obtain ⟨F, hF⟩ : ∃ F, F + 1 = 80 := ⟨79, rfl⟩
  rcases hN with ⟨r, μ1, σ1, p1, t1, t2, rfl, t3, t4, t5, rfl⟩ | ⟨p1, d, f1, σ1, μ1, c1, c2, c3, c4, c5, c6, c7, c8, c9, c10, c11, c12, c13, c14, c15⟩
  · have hW : Wr (up2 μ1 20 16 r) p1 := ⟨by rw [up2_self, pk_un (by decide)]; exact t2.1, by rw [up2_self, pk_un (by decide)]; exact t2.2⟩
    have hFm : Fm μ (up2 μ1 20 16 r) := t3.tr ⟨fun q _ h2 => up2_ne h2, fun k _ _ _ k16 _ => by rw [up2_self, pk_un k16]⟩
    obtain ⟨r2, μ2, w1, w2, w3, w4⟩ := w_tk hW ⟨L, a1, by rw [hFm.2 7 (by decide) (by decide) (by decide) (by decide) (by decide)]; exact a4, a2⟩ 58 58
    refine ⟨p1, σ1, μ2, t5, ?_, Fx.rf _, hFm.tr w2, a2, Or.inl ⟨w4, Or.inr (by rw [h6]; decide)⟩⟩
    rw [show fX7_takesNumber 0 48 μ = some (r, μ1) from t1, bd2_s, nm_s, w1, bd2_s, ← hF]
    exact w_all w4 F
  · obtain ⟨f1, rfl⟩ := fu1 (show 0 < f1 by have := c4.2.1; omega)
    have c4' := c4
    obtain ⟨b1, b2, b3, b4, b5, b6, b7⟩ := c4'
    obtain ⟨μ2, hμ2⟩ : ∃ μ2, μ2 = up2 μ1 20 16 (nI d) := ⟨_, rfl⟩
    have u2 : ∀ k, k ≠ 16 → μ2 20 k = μ1 20 k := fun k hk => by rw [hμ2, up2_self, pk_un hk]
    have hF2 : Fm μ1 μ2 := ⟨fun q _ h2 => by rw [hμ2, up2_ne h2], fun k _ _ _ k16 _ => u2 k k16⟩
    have hP2 : Pl σ1 μ2 L p1 := c4.fr (Fx.rf σ1) hF2 b2 (by rw [u2 13 (by decide)]; exact b6) (by rw [u2 14 (by decide)]; exact b7)
    rw [show fX7_takesNumber 0 48 μ = some (nI d, μ1) from c3, bd2_s, nm_s, ← hμ2, c1]
    by_cases hin : p1 < L ∧ (58 : Int32) ≤ σ1 6 p1 ∧ σ1 6 p1 ≤ 58
    · obtain ⟨hp1, hin2⟩ := hin
      have e58 : σ1 6 p1 = 58 := by
        obtain ⟨j, j1, j2, ej⟩ := rng 58 58 (by decide) (by decide) hin2
        rw [ej, show j = 58 by omega]
        rfl
      obtain ⟨μ3, t1, t2, t3, t4, t5, t6⟩ := m_tk1 hP2 hp1 hin2
      obtain ⟨σ3, hσ3⟩ : ∃ σ3, σ3 = up2 (up2 σ1 5 3 (nI d)) 5 6 2 := ⟨_, rfl⟩
      have hon : fX0_readsOn (σ1 6 p1) σ1 = some (1, σ3) := by
        rw [on_1 c5, e58]
        unfold fX0_readsNumber
        rw [if_pos rfl, c6, if_neg (by decide), nm_s, nm_s, bd2_s, gd_of (Or.inr rfl), c7, ← hσ3]
      have s5 : ∀ k, k ≠ 3 → k ≠ 6 → σ3 5 k = σ1 5 k := fun k h1 h2 => by rw [hσ3, up2_self, pk_un h2, up2_self, pk_un h1]
      have sq : ∀ q, q ≠ 5 → σ3 q = σ1 q := fun q h => by rw [hσ3, up2_ne h, up2_ne h]
      have hFx : Fx σ1 σ3 := ⟨fun q h _ => sq q h, s5 1 (by decide) (by decide)⟩
      have hP3 : Pl σ3 μ3 L (p1 + 1) := hP2.fr hFx t2 (by omega) t5 t6
      obtain ⟨z1, z2, z3, z4⟩ := hC
      have hC3 : Cq σ3 μ3 0 := ⟨by decide, by rw [s5 5 (by decide) (by decide), c10 5 (by decide) (by decide)]; exact z2, by rw [t4 18 (by decide) (by decide), u2 18 (by decide), c14 18 (by decide) (by decide)]; exact z3, fun i hi => by omega⟩
      obtain ⟨p', σ', μ', e1, e2, e3, e4, e5, e6⟩ := ph_C (L - (p1 + 1)) f1 80 (p1 + 1) 0 σ3 μ3 L (by omega) (by omega) (by omega) hP3 (by rw [hσ3, up2_self, pk_us]) hC3
      refine ⟨p', σ', μ', ?_, ?_, (c9.tr hFx).tr e3, ((c12.tr hF2).tr t2).tr e4, e5, ?_⟩
      · rw [x_rd b1 b3 hp1, hon, bd2_s, if_neg (by decide)]
        exact e1
      · rw [t1, bd2_s]
        exact e2
      · rcases e6 with e6 | ⟨g1, g2, g3, g4, g5, g6, g7, g8⟩
        · exact Or.inl ⟨e6.1, Or.inl e6.2⟩
        · refine Or.inr ⟨g1, g2, g3, ?_, ?_, ⟨d, by omega, ?_, ?_⟩, g8⟩
          · rw [g4, s5 2 (by decide) (by decide), c10 2 (by decide) (by decide)]
          · rw [g6, t4 15 (by decide) (by decide), u2 15 (by decide), c14 15 (by decide) (by decide)]
          · rw [g5, hσ3, up2_self, pk_un (by decide), up2_self, pk_us]
          · rw [g7, t4 16 (by decide) (by decide), hμ2, up2_self, pk_us]
    · obtain ⟨r2, μ3, t1, t2, t3, t4⟩ := m_tk0 hP2 (a := 58) (b := 58) (by decide) hin
      refine ⟨p1, σ1, μ3, ?_, ?_, c9, (c12.tr hF2).tr t2, b2, Or.inl ⟨t4, Or.inr (by rw [c5]; decide)⟩⟩
      · by_cases hp1 : p1 < L
        · rw [x_rd b1 b3 hp1, c15 hp1 (fun q => hin ⟨hp1, by rw [q]; decide, by rw [q]; decide⟩), bd2_s, if_pos rfl]
        · obtain rfl : p1 = L := by omega
          exact x_rdE b1 b3
      · rw [t1, bd2_s, ← hF]
        exact w_all t4 F
theorem neg_I {d : Nat} (h : d ≤ 2048) : inV (-(nI d)) := by
  have e : (-(nI d)).toInt = -(d : Int) := by
    rw [Int32.toInt_neg, nI_toInt (by omega)]
    exact Int.bmod_eq_of_le (by omega) (by omega)
  unfold inV
  rw [e]
  omega
theorem first_1 {c : Int32} {σ : Sg} {g m : Nat} (hg : (g = 0 ∧ m = 2047) ∨ (g = 1 ∧ m = 2048)) (h7 : σ 5 7 = nI g) (hc : c ≠ 45 ∨ σ 5 8 = 1 ∨ g = 1) (hc2 : c ≠ 44 ∨ σ 5 8 = 0) (hz : ¬ (g = 1 ∧ σ 5 8 = 0 ∧ c = 48)) {r : Int32} {s : Sg} (hd : fX0_readsDigit c (nI m) σ = some (r, s)) (hr : r = 0 ∨ r = 1) : fX0_readsFirst c σ = some (r, s) := by
  have hb98 : fX0_readsFirst_b98 c σ = some (r, s) := by
    unfold fX0_readsFirst_b98 fX0_readsFirst_b99
    rw [if_pos rfl, h7]
    rcases hg with ⟨rfl, rfl⟩ | ⟨rfl, rfl⟩
    · rw [if_pos (show nI 0 = 0 from rfl), show fX0_readsDigit c 2047 σ = some (r, s) from hd, bd2_s]
      rcases hr with rfl | rfl
      · rw [if_pos rfl]
      · rw [if_neg (by decide)]
    · rw [if_neg (show ¬ nI 1 = 0 by decide), show fX0_readsDigit c 2048 σ = some (r, s) from hd, bd2_s]
      rcases hr with rfl | rfl
      · rw [if_pos rfl]
      · rw [if_neg (by decide)]
  have hb74 : fX0_readsFirst_b74 c σ = some (r, s) := by
    unfold fX0_readsFirst_b74
    rw [h7]
    rcases hg with ⟨rfl, rfl⟩ | ⟨rfl, rfl⟩
    · rw [if_pos (show nI 0 = 0 from rfl)]
      exact hb98
    · rw [if_neg (show ¬ nI 1 = 0 by decide)]
      by_cases q : σ 5 8 = 0
      · rw [if_pos q, if_neg (fun z => hz ⟨rfl, q, z⟩)]
        exact hb98
      · rw [if_neg q]
        exact hb98
  have hb27 : fX0_readsFirst_b27 c σ = some (r, s) := by
    unfold fX0_readsFirst_b27
    by_cases q : c = 44
    · rw [if_pos q, if_pos (hc2.resolve_left (fun z => z q))]
      exact hb74
    · rw [if_neg q]
      exact hb74
  unfold fX0_readsFirst
  by_cases q : c = 45
  · rw [if_pos q, h7]
    rcases hc with z | z | z
    · exact absurd q z
    · split
      · rw [z, if_neg (by decide)]
        exact hb27
      · exact hb27
    · rw [z, if_neg (show ¬ nI 1 = 0 by decide)]
      exact hb27
  · rw [if_neg q]
    exact hb27
/-- from the first number on -/
theorem ph_A {f p L g m : Nat} {σ μ : Sg} (hg : (g = 0 ∧ m = 2047) ∨ (g = 1 ∧ m = 2048)) (hf : L < f + p) (hP : Pl σ μ L p) (h6 : σ 5 6 = 0) (h7 : σ 5 7 = nI g) (h8 : σ 5 8 = 0) (h9 : σ 5 9 = 0) (h45 : g = 0 → p < L → σ 6 p ≠ 45) (hC : Cq σ μ 0) : ∃ p' σ' μ', fX0_read_L21 f (nI p) σ = some (nI p', σ') ∧ (bd2 (fX7_takesNumber (nI g) (nI m) μ) fun r33 u34 => fX7_readAll_b67 (if g = 0 then r33 else -r33) u34) = some μ' ∧ Fx σ σ' ∧ Fm μ μ' ∧ Rd σ' μ' L p' := by
  have hP' := hP
  obtain ⟨a1, a2, a3, a4, a5, a6, a7⟩ := hP'
  have hm : m ≤ 2048 ∧ 9 ≤ m := by omega
  have hN := num_0 (part := 0) (term := 44) (g := nI g) (m := m) (lo := g) (f := f) (p := p) (L := L) (σ := σ) (μ := μ) hm.1 hm.2 (by omega) (fun x hx q => by
    have := (nI_eq (b := 44) (by omega) (by decide)).mp q
    omega) (fun c τ q6 q7 q8 hne r s hd hr => by
    rw [on_0 q6, first_1 hg q7 (Or.inr (Or.inl q8)) (Or.inl hne) (fun z => by rw [z.2.1] at q8; revert q8; decide) hd hr, bd2_s, gd_of hr]) hf hP h6 h7 h9 (fun x hx hlx hp ex => by
    rw [ex, on_0 h6, first_1 hg h7 (Or.inl (fun q => by
      have := (nI_eq (b := 45) (by omega) (by decide)).mp q
      omega)) (Or.inr h8) (fun z => by
      have := (nI_eq (b := 48) (by omega) (by decide)).mp z.2.2
      omega) (r := 1) (s := dgt σ x) (by
      rw [x_dg1 hx (show 0 ≤ 2048 by decide) hm.1 (by rw [h9]; rfl) (Or.inl ⟨h8, rfl⟩), Nat.mul_zero, Nat.zero_add, if_pos (by omega)]) (Or.inr rfl), bd2_s, gd_of (Or.inr rfl)]) (fun hp hno => by
    rw [on_0 h6]
    by_cases hz : g = 1 ∧ σ 5 8 = 0 ∧ σ 6 p = 48
    · obtain ⟨z1, z2, z3⟩ := hz
      subst z1
      rw [z3]
      unfold fX0_readsFirst fX0_readsFirst_b27 fX0_readsFirst_b74 fX0_readsFirst_b99
      rw [if_neg (by decide), if_neg (by decide), h7, if_neg (show ¬ nI 1 = 0 by decide), h8, if_pos rfl, if_pos rfl, if_neg (by decide), bd2_s, gd_of (Or.inl rfl)]
    · rw [first_1 hg h7 (by
        rcases hg with ⟨z, _⟩ | ⟨z, _⟩
        · exact Or.inl (h45 z hp)
        · exact Or.inr (Or.inr z)) (Or.inr h8) hz (r := 0) (s := σ) (by
        rcases digit (σ 6 p) with ⟨x, hx, ex, _, _⟩ | ⟨_, q⟩
        · by_cases hx0 : g ≤ x
          · exact absurd ex (hno x hx hx0)
          · exfalso
            exact hz ⟨by omega, h8, by rw [ex, show x = 0 by omega]; rfl⟩
        · exact x_dg0 q) (Or.inl rfl), bd2_s, gd_of (Or.inl rfl)])
  have h7L : ∀ μ', Fm μ μ' → ∃ L, L ≤ 40 ∧ μ' 20 7 = nI L ∧ p ≤ L := fun μ' h => ⟨L, a1, by rw [h.2 7 (by decide) (by decide) (by decide) (by decide) (by decide)]; exact a4, a2⟩
  obtain ⟨F, hF⟩ : ∃ F, F + 1 = 80 := ⟨79, rfl⟩
  -- wrong at some place, from b67 on
  have wr67 : ∀ (v : Int32) (u : Sg) (q : Nat), q ≤ L → Wr u q → Fm μ u → ∃ μ', fX7_readAll_b67 v u = some μ' ∧ Wr μ' q ∧ Fm μ μ' := by
    intro v u q hq hW hu
    have hu7 : ∀ μ', Fm μ μ' → ∃ L, L ≤ 40 ∧ μ' 20 7 = nI L ∧ q ≤ L := fun μ' h => ⟨L, a1, by rw [h.2 7 (by decide) (by decide) (by decide) (by decide) (by decide)]; exact a4, hq⟩
    have hW1 : Wr (up2 u 20 15 v) q := ⟨by rw [up2_self, pk_un (by decide)]; exact hW.1, by rw [up2_self, pk_un (by decide)]; exact hW.2⟩
    have hF1 : Fm μ (up2 u 20 15 v) := hu.tr ⟨fun q _ h2 => up2_ne h2, fun k _ _ k15 _ _ => by rw [up2_self, pk_un k15]⟩
    obtain ⟨r1, u1, w1, w2, _, w4⟩ := w_tk hW1 (hu7 _ hF1) 44 44
    obtain ⟨r2, u2, y1, y2, _, y4⟩ := w_num w4 (hu7 _ (hF1.tr w2)) 0 48
    have hW2 : Wr (up2 u2 20 16 r2) q := ⟨by rw [up2_self, pk_un (by decide)]; exact y4.1, by rw [up2_self, pk_un (by decide)]; exact y4.2⟩
    have hF2 : Fm μ (up2 u2 20 16 r2) := ((hF1.tr w2).tr y2).tr ⟨fun q _ h2 => up2_ne h2, fun k _ _ _ k16 _ => by rw [up2_self, pk_un k16]⟩
    obtain ⟨r3, u3, z1, z2, _, z4⟩ := w_tk hW2 (hu7 _ hF2) 58 58
    refine ⟨u3, ?_, z4, hF2.tr z2⟩
    unfold fX7_readAll_b67
    rw [nm_s, w1, bd2_s, y1, bd2_s, nm_s, z1, bd2_s, ← hF]
    exact w_all z4 F
  rcases hN with ⟨r, μ1, σ1, p1, t1, t2, rfl, t3, t4, t5, rfl⟩ | ⟨p1, d, f1, σ1, μ1, c1, c2, c3, c4, c5, c6, c7, c8, c9, c10, c11, c12, c13, c14, c15⟩
  · obtain ⟨μ', e1, e2, e3⟩ := wr67 (if g = 0 then r else -r) μ1 p1 a2 t2 t3
    refine ⟨p1, σ1, μ', t5, by rw [t1, bd2_s]; exact e1, Fx.rf _, e3, a2, Or.inl ⟨e2, Or.inr (by rw [h6]; decide)⟩⟩
  · obtain ⟨f1, rfl⟩ := fu1 (show 0 < f1 by have := c4.2.1; omega)
    have c4' := c4
    obtain ⟨b1, b2, b3, b4, b5, b6, b7⟩ := c4'
    obtain ⟨v, hv⟩ : ∃ v : Int32, v = if g = 0 then nI d else -(nI d) := ⟨_, rfl⟩
    have hvV : inV v := by
      rw [hv]
      split
      · exact inV_nI (by omega)
      · exact neg_I (by omega)
    obtain ⟨μ2, hμ2⟩ : ∃ μ2, μ2 = up2 μ1 20 15 v := ⟨_, rfl⟩
    have u2 : ∀ k, k ≠ 15 → μ2 20 k = μ1 20 k := fun k hk => by rw [hμ2, up2_self, pk_un hk]
    have hF2 : Fm μ1 μ2 := ⟨fun q _ h2 => by rw [hμ2, up2_ne h2], fun k _ _ k15 _ _ => u2 k k15⟩
    have hP2 : Pl σ1 μ2 L p1 := c4.fr (Fx.rf σ1) hF2 b2 (by rw [u2 13 (by decide)]; exact b6) (by rw [u2 14 (by decide)]; exact b7)
    rw [c3, bd2_s, ← hv, c1]
    by_cases hin : p1 < L ∧ (44 : Int32) ≤ σ1 6 p1 ∧ σ1 6 p1 ≤ 44
    · obtain ⟨hp1, hin2⟩ := hin
      have e44 : σ1 6 p1 = 44 := by
        obtain ⟨j, j1, j2, ej⟩ := rng 44 44 (by decide) (by decide) hin2
        rw [ej, show j = 44 by omega]
        rfl
      obtain ⟨μ3, t1, t2, t3, t4, t5, t6⟩ := m_tk1 hP2 hp1 hin2
      obtain ⟨σ3, hσ3⟩ : ∃ σ3, σ3 = up2 (up2 (up2 (up2 σ1 5 2 v) 5 6 1) 5 9 0) 5 8 0 := ⟨_, rfl⟩
      have c57 : σ1 5 7 = nI g := by rw [c10 7 (by decide) (by decide)]; exact h7
      have hb60 : fX0_readsFirst_b60 v σ1 = some (1, σ3) := by
        unfold fX0_readsFirst_b60 fX0_beginDigits
        simp only [nm_s, bd_s]
        rw [← hσ3]
      have hon : fX0_readsOn (σ1 6 p1) σ1 = some (1, σ3) := by
        rw [on_0 c5, e44]
        unfold fX0_readsFirst fX0_readsFirst_b27
        rw [if_neg (by decide), if_pos rfl, c6, if_neg (by decide), c57, c7]
        rcases hg with ⟨rfl, rfl⟩ | ⟨rfl, rfl⟩
        · rw [if_pos (show nI 0 = 0 from rfl)]
          rw [if_pos rfl] at hv
          rw [← hv, hb60, bd2_s, gd_of (Or.inr rfl)]
        · rw [if_neg (show ¬ nI 1 = 0 by decide)]
          rw [if_neg (by decide)] at hv
          rw [← hv, hb60, bd2_s, gd_of (Or.inr rfl)]
      have s5 : ∀ k, k ≠ 2 → k ≠ 6 → k ≠ 8 → k ≠ 9 → σ3 5 k = σ1 5 k := fun k h1 h2 h3 h4 => by rw [hσ3, up2_self, pk_un h3, up2_self, pk_un h4, up2_self, pk_un h2, up2_self, pk_un h1]
      have sq : ∀ q, q ≠ 5 → σ3 q = σ1 q := fun q h => by rw [hσ3, up2_ne h, up2_ne h, up2_ne h, up2_ne h]
      have e2 : σ3 5 2 = v := by rw [hσ3, up2_self, pk_un (by decide), up2_self, pk_un (by decide), up2_self, pk_un (by decide), up2_self, pk_us]
      have hFx : Fx σ1 σ3 := ⟨fun q h _ => sq q h, s5 1 (by decide) (by decide) (by decide) (by decide)⟩
      have hP3 : Pl σ3 μ3 L (p1 + 1) := hP2.fr hFx t2 (by omega) t5 t6
      obtain ⟨z1, z2, z3, z4⟩ := hC
      have hC3 : Cq σ3 μ3 0 := ⟨by decide, by rw [s5 5 (by decide) (by decide) (by decide) (by decide), c10 5 (by decide) (by decide)]; exact z2, by rw [t4 18 (by decide) (by decide), u2 18 (by decide), c14 18 (by decide) (by decide)]; exact z3, fun i hi => by omega⟩
      obtain ⟨p', σ', μ', e1, e3, e4, e5, e6, e7⟩ := ph_B (f := f1) (p := p1 + 1) (L := L) (by omega) hP3 (by rw [hσ3, up2_self, pk_un (by decide), up2_self, pk_un (by decide), up2_self, pk_us]) (by rw [hσ3, up2_self, pk_us]) (by rw [hσ3, up2_self, pk_un (by decide), up2_self, pk_us]) hC3
      refine ⟨p', σ', μ', ?_, ?_, (c9.tr hFx).tr e4, ((c12.tr hF2).tr t2).tr e5, e6, ?_⟩
      · rw [x_rd b1 b3 hp1, hon, bd2_s, if_neg (by decide)]
        exact e1
      · unfold fX7_readAll_b67
        rw [nm_s, ← hμ2, t1, bd2_s]
        exact e3
      · rcases e7 with e7 | ⟨g1, g2, g3, g4, g5, g6, g7⟩
        · exact Or.inl e7
        · have e15 : μ' 20 15 = v := by rw [g5, t4 15 (by decide) (by decide), hμ2, up2_self, pk_us]
          exact Or.inr ⟨g1, g2, g3, by rw [g4, e2, e15], by rw [e15]; exact hvV, g6, g7⟩
    · obtain ⟨r2, μ3, t1, t2, t3, t4⟩ := m_tk0 hP2 (a := 44) (b := 44) (by decide) hin
      have h3F : Fm μ μ3 := (c12.tr hF2).tr t2
      have hu7 : ∀ μ', Fm μ μ' → ∃ L, L ≤ 40 ∧ μ' 20 7 = nI L ∧ p1 ≤ L := fun μ' h => ⟨L, a1, by rw [h.2 7 (by decide) (by decide) (by decide) (by decide) (by decide)]; exact a4, b2⟩
      obtain ⟨r4, u4, y1, y2, _, y4⟩ := w_num t4 (hu7 _ h3F) 0 48
      have hW2 : Wr (up2 u4 20 16 r4) p1 := ⟨by rw [up2_self, pk_un (by decide)]; exact y4.1, by rw [up2_self, pk_un (by decide)]; exact y4.2⟩
      have hF4 : Fm μ (up2 u4 20 16 r4) := (h3F.tr y2).tr ⟨fun q _ h2 => up2_ne h2, fun k _ _ _ k16 _ => by rw [up2_self, pk_un k16]⟩
      obtain ⟨r5, u5, z1, z2, _, z4⟩ := w_tk hW2 (hu7 _ hF4) 58 58
      refine ⟨p1, σ1, u5, ?_, ?_, c9, hF4.tr z2, b2, Or.inl ⟨z4, Or.inr (by rw [c5]; decide)⟩⟩
      · by_cases hp1 : p1 < L
        · rw [x_rd b1 b3 hp1, c15 hp1 (fun q => hin ⟨hp1, by rw [q]; decide, by rw [q]; decide⟩), bd2_s, if_pos rfl]
        · obtain rfl : p1 = L := by omega
          exact x_rdE b1 b3
      · unfold fX7_readAll_b67
        rw [nm_s, ← hμ2, t1, bd2_s, y1, bd2_s, nm_s, z1, bd2_s, ← hF]
        exact w_all z4 F
theorem xm_read {σ μ : Sg} (hB : Bf σ μ) : ∃ L p σ' μ', σ 5 1 = nI L ∧ L ≤ 40 ∧ fX0_read σ = some (nI p, σ') ∧ fX7_readAll μ = some μ' ∧ Fx σ σ' ∧ Fm μ μ' ∧ Rd σ' μ' L p := by
  obtain ⟨L, L1, L2, L3, L4⟩ := hB
  obtain ⟨σ1, hσ1⟩ : ∃ σ1, σ1 = up2 (up2 (up2 (up2 (up2 σ 5 6 0) 5 7 0) 5 5 0) 5 9 0) 5 8 0 := ⟨_, rfl⟩
  obtain ⟨μ1, hμ1⟩ : ∃ μ1, μ1 = up2 (up2 (up2 μ 20 13 0) 20 14 0) 20 18 0 := ⟨_, rfl⟩
  have s5 : ∀ k, k ≠ 5 → k ≠ 6 → k ≠ 7 → k ≠ 8 → k ≠ 9 → σ1 5 k = σ 5 k := fun k h5 h6 h7 h8 h9 => by rw [hσ1, up2_self, pk_un h8, up2_self, pk_un h9, up2_self, pk_un h5, up2_self, pk_un h7, up2_self, pk_un h6]
  have z5 : σ1 5 5 = 0 ∧ σ1 5 6 = 0 ∧ σ1 5 7 = 0 ∧ σ1 5 8 = 0 ∧ σ1 5 9 = 0 := by
    rw [hσ1, up2_self, up2_self, up2_self, up2_self, up2_self]
    exact ⟨rfl, rfl, rfl, rfl, rfl⟩
  have sq : ∀ q, q ≠ 5 → σ1 q = σ q := fun q h => by rw [hσ1, up2_ne h, up2_ne h, up2_ne h, up2_ne h, up2_ne h]
  have hFx : Fx σ σ1 := ⟨fun q h _ => sq q h, s5 1 (by decide) (by decide) (by decide) (by decide) (by decide)⟩
  have u20 : ∀ k, k ≠ 13 → k ≠ 14 → k ≠ 18 → μ1 20 k = μ 20 k := fun k h1 h2 h3 => by rw [hμ1, up2_self, pk_un h3, up2_self, pk_un h2, up2_self, pk_un h1]
  have v20 : μ1 20 13 = 0 ∧ μ1 20 14 = 0 ∧ μ1 20 18 = 0 := by
    rw [hμ1, up2_self, up2_self, up2_self]
    exact ⟨rfl, rfl, rfl⟩
  have uq : ∀ q, q ≠ 20 → μ1 q = μ q := fun q h => by rw [hμ1, up2_ne h, up2_ne h, up2_ne h]
  have hFm : Fm μ μ1 := ⟨fun q _ h => uq q h, fun k h1 h2 _ _ h5 => u20 k h1 h2 h5⟩
  have hP : Pl σ1 μ1 L 0 := ⟨L1, Nat.zero_le L, hFx.2.trans L2, (u20 7 (by decide) (by decide) (by decide)).trans L3, fun k hk => by rw [sq 6 (by decide), uq 4 (by decide)]; exact L4 k hk, v20.1, v20.2.1⟩
  have hC : Cq σ1 μ1 0 := ⟨by decide, z5.1, v20.2.2, fun i hi => by omega⟩
  have hX : fX0_read σ = fX0_read_L21 80 (nI 0) σ1 := by
    unfold fX0_read fX0_beginDigits
    simp only [nm_s, bd_s]
    rw [← hσ1, n0]
  have hM0 : fX7_readAll μ = if 0 < L ∧ 45 ≤ σ1 6 0 ∧ σ1 6 0 ≤ 45 then fX7_readAll_b38 1 1 0 μ1 else fX7_readAll_b38 0 0 0 μ1 := by
    unfold fX7_readAll
    rw [nm_s, nm_s, nm_s, ← hμ1, m_nx hP, bd_s, v20.1]
    by_cases q : 0 < L ∧ 45 ≤ σ1 6 0 ∧ σ1 6 0 ≤ 45
    · rw [if_pos q, if_neg (by decide), if_pos q]
    · rw [if_neg q, if_pos rfl, if_neg q]
  by_cases q : 0 < L ∧ 45 ≤ σ1 6 0 ∧ σ1 6 0 ≤ 45
  · obtain ⟨q0, q1⟩ := q
    have e45 : σ1 6 0 = 45 := by
      obtain ⟨j, j1, j2, ej⟩ := rng 45 45 (by decide) (by decide) q1
      rw [ej, show j = 45 by omega]
      rfl
    have hon : fX0_readsOn (σ1 6 0) σ1 = some (1, up2 σ1 5 7 1) := by
      rw [on_0 z5.2.1, e45]
      unfold fX0_readsFirst
      rw [if_pos rfl, z5.2.2.1, if_pos rfl, z5.2.2.2.1, if_pos rfl, nm_s, bd2_s, gd_of (Or.inr rfl)]
    have t5 : ∀ k, k ≠ 7 → up2 σ1 5 7 1 5 k = σ1 5 k := fun k hk => by rw [up2_self, pk_un hk]
    have w20 : ∀ k, k ≠ 13 → up2 μ1 20 13 1 20 k = μ1 20 k := fun k hk => by rw [up2_self, pk_un hk]
    have hFx2 : Fx σ1 (up2 σ1 5 7 1) := ⟨fun q h _ => up2_ne h, t5 1 (by decide)⟩
    have hFm2 : Fm μ1 (up2 μ1 20 13 1) := ⟨fun q _ h => up2_ne h, fun k h1 _ _ _ _ => w20 k h1⟩
    obtain ⟨p', σ', μ', e1, e2, e3, e4, e5⟩ := ph_A (f := 79) (p := 1) (L := L) (g := 1) (m := 2048) (σ := up2 σ1 5 7 1) (μ := up2 μ1 20 13 1) (Or.inr ⟨rfl, rfl⟩) (by omega) (hP.fr hFx2 hFm2 (by omega) (by rw [up2_self, pk_us]; rfl) (by rw [w20 14 (by decide)]; exact v20.2.1)) (by rw [t5 6 (by decide)]; exact z5.2.1) (by rw [up2_self, pk_us]; rfl) (by rw [t5 8 (by decide)]; exact z5.2.2.2.1) (by rw [t5 9 (by decide)]; exact z5.2.2.2.2) (fun z => by omega) ⟨by decide, by rw [t5 5 (by decide)]; exact z5.1, by rw [w20 18 (by decide)]; exact v20.2.2, fun i hi => by omega⟩
    refine ⟨L, p', σ', μ', L2, L1, ?_, ?_, (hFx.tr hFx2).tr e3, (hFm.tr hFm2).tr e4, e5⟩
    · rw [hX, x_rd (f := 79) L1 (hFx.2.trans L2) q0, hon, bd2_s, if_neg (by decide)]
      exact e1
    · rw [hM0, if_pos ⟨q0, q1⟩]
      unfold fX7_readAll_b38
      rw [nm_s, Int32.zero_add, if_neg (by decide)]
      exact e2
  · have e13 : up2 μ1 20 13 (0 + 0) = μ1 := by
      funext a
      by_cases h : a = 20
      · rw [h, up2_self]
        funext k
        by_cases hk : k = 13
        · rw [hk, pk_us, v20.1]
          rfl
        · rw [pk_un hk]
      · rw [up2_ne h]
    obtain ⟨p', σ', μ', e1, e2, e3, e4, e5⟩ := ph_A (f := 80) (p := 0) (L := L) (g := 0) (m := 2047) (σ := σ1) (μ := μ1) (Or.inl ⟨rfl, rfl⟩) (by omega) hP z5.2.1 z5.2.2.1 z5.2.2.2.1 z5.2.2.2.2 (fun _ h0 z => q ⟨h0, by rw [z]; decide, by rw [z]; decide⟩) hC
    refine ⟨L, p', σ', μ', L2, L1, by rw [hX]; exact e1, ?_, hFx.tr e3, hFm.tr e4, e5⟩
    rw [hM0, if_neg q]
    unfold fX7_readAll_b38
    rw [nm_s, e13, if_pos rfl]
    exact e2
