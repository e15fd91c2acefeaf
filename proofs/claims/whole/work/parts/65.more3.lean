/-! ===== slipped, chance, deal ===== -/
theorem c_odds_at {b n : Nat} {c0 m0 c m : zz_W} (h : zWal b n c0 m0 c m) {r : Nat} (hr : r < n) : zldI c (b + 5) 10 (nI r) = some (zgI m 1 (18 + 5 * r)) := by
  have hn10 := h.hn
  rw [zld (i := r) (by omega) (by omega), h.co r hr]
theorem c_thousand {b n : Nat} {c0 m0 c m : zz_W} (h : zWP b n c0 m0 c m) (hn : 0 < n) (X : Int64) : fX6_ofThousand b X c = some (Int64.toInt32 (1000 * X / lN (zsm (zgI m 1) 18 n)), c) := by
  have hn10 := h.1.hn
  have hle := zsm4_le h.1 (Nat.le_refl n)
  have hS := zsm_pp h hn
  have hS1 : (0 : Int64) < lN (zsm (zgI m 1) 18 n) := (pk_lLT (a := 0) (by omega) (by omega)).mpr hS
  have hS0 : ¬ lN (zsm (zgI m 1) 18 n) = 0 := fun q => by
    have := (pk_lEQ (b := 0) (by omega) (by omega)).mp q
    omega
  unfold fX6_ofThousand zldiv
  rw [zgrd_h _ h.1.W, c_allOdds h.1, zbd2_s, if_pos ((lg_cmp_gt _ _).mpr hS1), if_neg hS0, zbd_s]
theorem m_div {b n : Nat} {c0 m0 c m : zz_W} (h : zWP b n c0 m0 c m) (hn : 0 < n) (X : Int64) : zldiv (1000 * X) (Int32.toInt64 (nI (zsm (zgI m 1) 18 n))) = some (1000 * X / lN (zsm (zgI m 1) 18 n)) := by
  have hn10 := h.1.hn
  have hle := zsm4_le h.1 (Nat.le_refl n)
  have hS := zsm_pp h hn
  have hS0 : ¬ lN (zsm (zgI m 1) 18 n) = 0 := fun q => by
    have := (pk_lEQ (b := 0) (by omega) (by omega)).mp q
    omega
  unfold zldiv
  rw [nI_l (by omega), if_neg hS0]
/-- a run passes a cell: both sides -/
theorem w_pass {b n : Nat} {c0 m0 c m : zz_W} (h : zWal b n c0 m0 c m) {r x : Nat} (hr : r < n) (hx : x < 36) : ∃ L, zldL c (b + 6) 10 (nI r) = some L ∧ fX0_has L (nI x) c = some (zp (zgI m 1 (14 + 5 * r)) (zgI m 1 (15 + 5 * r)) (nI x), c) := by
  have hn10 := h.hn
  obtain ⟨k, hk, ek⟩ := h.rk r hr
  obtain ⟨q, hq, eq⟩ := h.rc r hr
  refine ⟨_, zldLn (i := r) (by omega) (by omega), ?_⟩
  rw [h.cw r hr, c_has, ek, eq, zp_ways k hk q hq x hx]
theorem w_chance {b n : Nat} {c0 m0 c m : zz_W} (h : zWP b n c0 m0 c m) (hn : 0 < n) (p q : Int32) {x : Nat} (hx : x < 36) : ∀ d j k k' X, j + d = n → d < k → d < k' →
    ∃ Y, fX6_oddsAt_5 b p k (nI x) X (nI j) c = some (Y, c) ∧ fX8_chance_27 q k' (nI x) X (nI j) m = some (Int64.toInt32 (1000 * Y / lN (zsm (zgI m 1) 18 n)), m) := by
  have hn10 := h.1.hn
  intro d
  induction d with
  | zero =>
    intro j k k' X hj hk hk'
    obtain ⟨k, rfl⟩ : ∃ x, k = x + 1 := ⟨k - 1, by omega⟩
    obtain ⟨k', rfl⟩ : ∃ x, k' = x + 1 := ⟨k' - 1, by omega⟩
    refine ⟨X, ?_, ?_⟩
    · rw [fX6_oddsAt_5, zbd_s, h.1.cn, if_pos (nI_le (by omega) (by omega))]
    · rw [fX8_chance_27, m_l1, zbd_s, h.1.mn, if_pos (nI_le (by omega) (by omega)), m_sumO h.1, zbd2_s, m_div h hn, zbd_s]
  | succ d ih =>
    intro j k k' X hj hk hk'
    obtain ⟨k, rfl⟩ : ∃ x, k = x + 1 := ⟨k - 1, by omega⟩
    obtain ⟨k', rfl⟩ : ∃ x, k' = x + 1 := ⟨k' - 1, by omega⟩
    obtain ⟨L, e1, e2⟩ := w_pass h.1 (r := j) (by omega) hx
    rw [fX6_oddsAt_5, fX8_chance_27]
    have hg : ¬ nI n ≤ nI j := nI_ge (by omega) (by omega)
    have e3 := c_odds_at h.1 (r := j) (by omega)
    simp only [zbd_e, m_l1, h.1.cn, h.1.mn, nI_1]
    rw [if_neg hg, if_neg hg, e1, m_pass (by omega)]
    simp only [zbd_e, zbd2_e, e2]
    rw [e3, m_of4 (by omega)]
    simp only [zbd_e, zbd2_e]
    rcases zp_01 (zgI m 1 (14 + 5 * j)) (zgI m 1 (15 + 5 * j)) (nI x) with e | e
    · rw [e, if_pos rfl, if_pos rfl]
      exact ih (j + 1) k k' _ (by omega) (by omega) (by omega)
    · rw [e, if_neg z10, if_neg z10]
      exact ih (j + 1) k k' _ (by omega) (by omega) (by omega)
theorem s_chance (a1 : Int32) : zSIM (fX7_chance a1) (fX8_chance a1) := by
  intro c m h
  have hf := zfuel_big
  obtain ⟨n, hw, hp⟩ := zR1 h
  have hn10 := hw.hn
  unfold fX7_chance fX8_chance
  simp only [c_isCell, m_isCell, zbd2_e, zbd_e, m_l1, hw.cn, hw.mn]
  rcases zwi_lit a1 0 35 (by omega) (by omega) with e | ⟨e, x, _, hx, rfl⟩
  · rw [show zwi a1 0 35 = 0 from e, if_pos rfl, if_pos rfl]; exact zret _ h
  rw [show zwi (nI x) 0 35 = 1 from e, if_neg z10, if_neg z10]
  by_cases e0 : n = 0
  · subst e0
    rw [if_pos (show nI 0 = 0 from rfl), if_pos (show nI 0 = 0 from rfl)]; exact zret _ h
  rw [if_neg (nI_ne0 (by omega) (by omega)), if_neg (nI_ne0 (by omega) (by omega))]
  obtain ⟨Y, y1, y2⟩ := w_chance ⟨hw, hp⟩ (by omega) (nI x) (nI x) (show x < 36 by omega) n 0 zfuel zfuel 0 (by omega) (by omega) (by omega)
  have y1' : fX6_oddsAt 1 (nI x) c = some (Y, c) := by
    unfold fX6_oddsAt
    rw [zgrd_h _ hw.W]
    exact y1
  rw [y1', zbd2_s, c_thousand ⟨hw, hp⟩ (by omega), zbd2_s]
  refine ⟨_, c, m, rfl, y2, h⟩
theorem w_draw1 {b n : Nat} {c0 m0 c m : zz_W} (h : zWP b n c0 m0 c m) : ∃ x c1 m1, x < 2 ^ 24 ∧ fX6_draw b c = some (nI x, c1) ∧ fX8_draw m = some (nI x, m1) ∧ zWP b n c0 m0 c1 m1 := by
  obtain ⟨x, hx, r1, r2, h2⟩ := w_draw h
  exact ⟨x, _, _, hx, r1, r2, h2⟩
theorem w_deal {T n0 : Nat} {c0 m0 : zz_W} (p q : Int32) (hn0 : n0 ≤ 10) (hT : T ≤ 10) : ∀ d j k k' c m, j + d = min T (10 - n0) → d < k → d < k' → zWP 1 (n0 + j) c0 m0 c m →
    ∃ n c1 m1, fX7_deal_30 p k (nI (min T (10 - n0))) (nI j) c = some (nI (min T (10 - n0)), c1) ∧ fX8_deal_15 q k' (nI T) (nI j) m = some (nI (min T (10 - n0)), m1) ∧ zWP 1 n c0 m0 c1 m1 := by
  intro d
  induction d with
  | zero =>
    intro j k k' c m hj hk hk' h
    obtain ⟨k, rfl⟩ : ∃ x, k = x + 1 := ⟨k - 1, by omega⟩
    obtain ⟨k', rfl⟩ : ∃ x, k' = x + 1 := ⟨k' - 1, by omega⟩
    refine ⟨_, c, m, ?_, ?_, h⟩
    · rw [fX7_deal_30, if_pos (nI_le (by omega) (by omega))]
    · rw [fX8_deal_15]
      by_cases e : T ≤ j
      · rw [if_pos (nI_le e (by omega)), show j = min T (10 - n0) by omega]
      · rw [if_neg (nI_ge (by omega) (by omega)), m_l1, zbd_s, h.1.mn, if_pos (show (10 : Int32) ≤ nI (n0 + j) from nI_le (a := 10) (by omega) (by omega)), show j = min T (10 - n0) by omega]
  | succ d ih =>
    intro j k k' c m hj hk hk' h
    obtain ⟨k, rfl⟩ : ∃ x, k = x + 1 := ⟨k - 1, by omega⟩
    obtain ⟨k', rfl⟩ : ∃ x, k' = x + 1 := ⟨k' - 1, by omega⟩
    obtain ⟨x1, c1, m1, hx1, r1, s1, h1⟩ := w_draw1 h
    obtain ⟨x2, c2, m2, hx2, r2, s2, h2⟩ := w_draw1 h1
    obtain ⟨x3, c3, m3, hx3, r3, s3, h3⟩ := w_draw1 h2
    obtain ⟨x4, c4, m4, hx4, r4, s4, h4⟩ := w_draw1 h3
    obtain ⟨c5, m5, r5, s5, h5⟩ := w_add h4 (by omega) (show x1 % 6 < 6 by omega) (show x2 % 36 < 36 by omega) (show 1 ≤ 1 + x3 % 40 by omega) (by omega) (show 1 ≤ 1 + x4 % 9 by omega) (by omega)
    obtain ⟨nn, c6, m6, r6, s6, h6⟩ := ih (j + 1) k k' c5 m5 (by omega) (by omega) (by omega) h5
    refine ⟨nn, c6, m6, ?_, ?_, h6⟩
    · rw [fX7_deal_30, if_neg (nI_ge (by omega) (by omega))]
      unfold fX6_drawRun
      rw [zgrd_h _ h.1.W, r1, zbd2_s, show (6 : Int32) = nI 6 from rfl, zremN (by omega) (by decide) (by decide), zbd_s, r2, zbd2_s, show (36 : Int32) = nI 36 from rfl, zremN (by omega) (by decide) (by decide), zbd_s, r3, zbd2_s, show (40 : Int32) = nI 40 from rfl, zremN (by omega) (by decide) (by decide), zbd_s, zbd_s, r4, zbd2_s, show (9 : Int32) = nI 9 from rfl, zremN (by omega) (by decide) (by decide), zbd_s]
      rw [show (1 : Int32) + nI (x3 % 40) = nI (1 + x3 % 40) from nI_add 1 _, show (1 : Int32) + nI (x4 % 9) = nI (1 + x4 % 9) from nI_add 1 _, r5, zbd_s, zbd_s, zbd_s, nI_1]
      exact r6
    · rw [fX8_deal_15, if_neg (nI_ge (by omega) (by omega)), m_l1, zbd_s, h.1.mn, if_neg (show ¬ (10 : Int32) ≤ nI (n0 + j) from nI_ge (b := 10) (by omega) (by omega))]
      rw [s1, zbd2_s, show (6 : Int32) = nI 6 from rfl, zremN (by omega) (by decide) (by decide), zbd_s, s2, zbd2_s, show (36 : Int32) = nI 36 from rfl, zremN (by omega) (by decide) (by decide), zbd_s, s3, zbd2_s, show (40 : Int32) = nI 40 from rfl, zremN (by omega) (by decide) (by decide), zbd_s, zbd_s, s4, zbd2_s, show (9 : Int32) = nI 9 from rfl, zremN (by omega) (by decide) (by decide), zbd_s]
      rw [show (1 : Int32) + nI (x3 % 40) = nI (1 + x3 % 40) from nI_add 1 _, show (1 : Int32) + nI (x4 % 9) = nI (1 + x4 % 9) from nI_add 1 _, s5, zbd2_s, zbd_s, nI_1]
      exact s6
theorem s_deal (a1 : Int32) : zSIM (fX7_deal a1) (fX8_deal a1) := by
  intro c m h
  have hf := zfuel_big
  obtain ⟨n, hw⟩ := zR1 h
  have hn10 := hw.1.hn
  unfold fX7_deal fX8_deal
  simp only [c_within, m_in, zbd2_e, zbd_e, hw.1.cn]
  rcases zwi_lit a1 1 10 (by omega) (by omega) with e | ⟨e, T, _, hT, rfl⟩
  · rw [show zwi a1 1 10 = 0 from e, if_pos rfl, if_pos rfl]; exact zret _ h
  rw [show zwi (nI T) 1 10 = 1 from e, if_neg z10, if_neg z10]
  have e1 : (10 : Int32) - nI n = nI (10 - n) := pk_sub (a := 10) (b := n) (by omega)
  rw [e1, zmin_min (by omega) (by omega), Nat.min_comm (10 - n) T]
  obtain ⟨n1, c1, m1, r1, r2, h2⟩ := w_deal (T := T) (n0 := n) (c0 := c) (m0 := m) (nI T) (nI T) hn10 hT (min T (10 - n)) 0 zfuel zfuel c m (by omega) (by omega) (by omega) hw
  exact ⟨_, c1, m1, r1, r2, zRel_wal h h2.1 h2.2⟩
