/-! ===== sums of odds, the likeliest, known, chance ===== -/
theorem c_odds4 {b n : Nat} {c0 m0 c m : zz_W} (h : zWal b n c0 m0 c m) : ∀ d j k, j + d = n → d < k → fX6_allOdds_4 b k (lN (zsm (zgI m 1) 18 j)) (nI j) c = some (lN (zsm (zgI m 1) 18 n), c) := by
  have hn10 := h.hn
  intro d
  induction d with
  | zero =>
    intro j k hj hk
    obtain ⟨k, rfl⟩ : ∃ x, k = x + 1 := ⟨k - 1, by omega⟩
    rw [fX6_allOdds_4, zbd_s, h.cn, if_pos (nI_le (by omega) (by omega)), show j = n by omega]
  | succ d ih =>
    intro j k hj hk
    obtain ⟨k, rfl⟩ : ∃ x, k = x + 1 := ⟨k - 1, by omega⟩
    obtain ⟨x, hx, e⟩ := h.ro j (by omega)
    rw [fX6_allOdds_4, zbd_s, h.cn, if_neg (nI_ge (by omega) (by omega)), zld (i := j) (by omega) (by omega), zbd_s, h.co j (by omega), e, nI_l (by omega), zbd_s, zbd_s, lN_add, nI_1, ← zsm_s e (by omega)]
    exact ih (j + 1) k (by omega) (by omega)
theorem c_allOdds {b n : Nat} {c0 m0 c m : zz_W} (h : zWal b n c0 m0 c m) : fX6_allOdds b c = some (lN (zsm (zgI m 1) 18 n), c) := by
  have hn10 := h.hn
  have hf := zfuel_big
  unfold fX6_allOdds
  rw [zgrd_h _ h.W]
  exact c_odds4 h n 0 zfuel (by omega) (by omega)
theorem zsm_pp {b n : Nat} {c0 m0 c m : zz_W} (h : zWP b n c0 m0 c m) (hn : 0 < n) : 0 < zsm (zgI m 1) 18 n := by
  obtain ⟨r, hr, e⟩ := h.2 hn
  obtain ⟨x, hx, e2⟩ := h.1.ro r hr
  have := zsm_ge (g := zgI m 1) (f := 18) n r hr
  rw [e2, nI_clamp (by omega)] at this
  have : ¬ x = 0 := fun q => e (by rw [e2, q]; rfl)
  omega
theorem w_known {b n : Nat} {c0 m0 c m : zz_W} (h : zWP b n c0 m0 c m) : ∃ x, (x = 0 ∨ x = 1) ∧ fX6_isKnown b c = some (x, c) ∧ fX8_isKnown m = some (x, m) := by
  have hn10 := h.1.hn
  have hle := zsm4_le h.1 (Nat.le_refl n)
  unfold fX6_isKnown fX8_isKnown
  rw [zgrd_h _ h.1.W, c_isBuilt h.1, zbd2_s, m_l12, zbd_s]
  rcases w_built h.1 with ⟨e1, e2⟩ | ⟨e1, e2, r, hr, et⟩
  · rw [e1, if_pos rfl, if_pos (by rcases h.1.tr with e | ⟨r, hr, e⟩; (· rw [e]; decide); (· rw [e] at e2; exact absurd (nI_pos' (by omega)) e2))]
    exact ⟨0, Or.inl rfl, rfl, rfl⟩
  · rw [e1, if_neg z10, et, if_neg (nI_pos (by omega)), c_allOdds h.1, zbd2_s, zbd_s, h.1.ctr, et, zld (i := r) (by omega) (by omega), zbd_s, h.1.co r hr, m_sumO h.1, zbd2_s, m_l12, zbd_s, et, m_of4 (by omega), zbd2_s, nI_l (n := zsm (zgI m 1) 18 n) (by omega)]
    split
    · exact ⟨0, Or.inl rfl, rfl, rfl⟩
    · exact ⟨1, Or.inr rfl, rfl, rfl⟩
theorem w_like {b n : Nat} {c0 m0 c m : zz_W} (h : zWal b n c0 m0 c m) : ∀ d j k k' l, j + d = n → d < k → d < k' → ((j = 0 ∧ l = -1) ∨ (0 < j ∧ ∃ r, r < n ∧ l = nI r)) →
    ∃ v, fX6_likeliest_4 b k l (nI j) c = some (v, c) ∧ fX8_greatest_4 k' l (nI j) m = some (v, m) ∧ ((n = 0 ∧ v = -1) ∨ (0 < n ∧ ∃ r, r < n ∧ v = nI r)) := by
  have hn10 := h.hn
  intro d
  induction d with
  | zero =>
    intro j k k' l hj hk hk' hl
    obtain ⟨k, rfl⟩ : ∃ x, k = x + 1 := ⟨k - 1, by omega⟩
    obtain ⟨k', rfl⟩ : ∃ x, k' = x + 1 := ⟨k' - 1, by omega⟩
    refine ⟨l, ?_, ?_, ?_⟩
    · rw [fX6_likeliest_4, zbd_s, h.cn, if_pos (nI_le (by omega) (by omega))]
    · rw [fX8_greatest_4, m_l1, zbd_s, h.mn, if_pos (nI_le (by omega) (by omega))]
    · rw [show n = j by omega]; rw [show n = j by omega] at hl; exact hl
  | succ d ih =>
    intro j k k' l hj hk hk' hl
    obtain ⟨k, rfl⟩ : ∃ x, k = x + 1 := ⟨k - 1, by omega⟩
    obtain ⟨k', rfl⟩ : ∃ x, k' = x + 1 := ⟨k' - 1, by omega⟩
    rw [fX6_likeliest_4, fX8_greatest_4]
    simp only [zbd_e, m_l1, h.cn, h.mn, nI_1]
    have hg : ¬ nI n ≤ nI j := nI_ge (by omega) (by omega)
    rw [if_neg hg, if_neg hg]
    rcases hl with ⟨_, rfl⟩ | ⟨_, r, hr, rfl⟩
    · rw [if_pos (show (-1 : Int32) < 0 by decide), if_pos (show (-1 : Int32) < 0 by decide)]
      exact ih (j + 1) k k' (nI j) (by omega) (by omega) (by omega) (Or.inr ⟨by omega, j, by omega, rfl⟩)
    · have hr0 : ¬ nI r < 0 := nI_pos (by omega)
      rw [if_neg hr0, if_neg hr0, zld (i := j) (by omega) (by omega), zld (i := r) (by omega) (by omega), h.co j (by omega), h.co r hr, m_of4 (r := j) (by omega)]
      simp only [zbd_e, zbd2_e]
      rw [m_of4 (r := r) (by omega), zbd2_s]
      by_cases hq : zgI m 1 (18 + 5 * j) ≤ zgI m 1 (18 + 5 * r)
      · rw [if_pos hq, if_pos hq]
        exact ih (j + 1) k k' (nI r) (by omega) (by omega) (by omega) (Or.inr ⟨by omega, r, hr, rfl⟩)
      · rw [if_neg hq, if_neg hq]
        exact ih (j + 1) k k' (nI j) (by omega) (by omega) (by omega) (Or.inr ⟨by omega, j, by omega, rfl⟩)
theorem w_likeliest {b n : Nat} {c0 m0 c m : zz_W} (h : zWal b n c0 m0 c m) : ∃ v, fX6_likeliest b c = some (v, c) ∧ fX8_greatest m = some (v, m) ∧ ((n = 0 ∧ v = -1) ∨ (0 < n ∧ ∃ r, r < n ∧ v = nI r)) := by
  have hn10 := h.hn
  have hf := zfuel_big
  unfold fX6_likeliest fX8_greatest
  rw [zgrd_h _ h.W, zbd_s, zbd_s]
  exact w_like h n 0 zfuel zfuel (-1) (by omega) (by omega) (by omega) (Or.inl ⟨rfl, rfl⟩)
theorem s_house (a1 : Int32) : zSIM (fX7_house a1) (fX8_house a1) := by
  intro c m h
  obtain ⟨n, hw, hp⟩ := zR1 h
  have hn10 := hw.hn
  unfold fX7_house fX8_house
  rw [c_within, zbd2_s]
  rcases zwi_lit a1 0 6 (by omega) (by omega) with e | ⟨e, j, _, hj, rfl⟩
  · rw [show zwi a1 0 6 = 0 from e, if_pos rfl]
    have n0 : ¬ a1 = 0 := by intro q; subst q; exact absurd e (by decide)
    have n1 : ¬ a1 = 1 := by intro q; subst q; exact absurd e (by decide)
    have n2 : ¬ a1 = 2 := by intro q; subst q; exact absurd e (by decide)
    have n3 : ¬ a1 = 3 := by intro q; subst q; exact absurd e (by decide)
    have n4 : ¬ a1 = 4 := by intro q; subst q; exact absurd e (by decide)
    have n5 : ¬ a1 = 5 := by intro q; subst q; exact absurd e (by decide)
    have n6 : ¬ a1 = 6 := by intro q; subst q; exact absurd e (by decide)
    rw [if_neg n0, if_neg n1, if_neg n2, if_neg n3, if_neg n4, if_neg n5, if_neg n6]
    by_cases e7 : a1 = 7
    · rw [if_pos e7, if_pos e7, c_isBuilt hw, zbd2_s, m_l12, zbd_s]
      rcases w_built hw with ⟨b1, b2⟩ | ⟨b1, b2, _⟩
      · rw [b1, if_pos rfl, if_neg b2]; exact zret _ h
      · rw [b1, if_neg z10, if_pos b2]; exact zret _ h
    rw [if_neg e7, if_neg e7]
    by_cases e8 : a1 = 8
    · obtain ⟨v, v1, v2, v3⟩ := w_likeliest hw
      rw [if_pos e8, if_pos e8, zbd_s, hw.cn, v2, zbd2_s]
      unfold fX8_orNothing
      rcases v3 with ⟨rfl, rfl⟩ | ⟨hn, r, hr, rfl⟩
      · rw [if_pos (show nI 0 = 0 from rfl), if_neg (show ¬ (0 : Int32) ≤ -1 by decide), zbd2_s]; exact zret _ h
      · rw [if_neg (nI_ne0 hn (by omega)), if_pos (nI_pos' (by omega)), zbd2_s, v1, zbd2_s]; exact zret _ h
    rw [if_neg e8, if_neg e8]
    by_cases e9 : a1 = 9
    · obtain ⟨x, hx, k1, k2⟩ := w_known ⟨hw, hp⟩
      rw [if_pos e9, if_pos e9, k1, k2, zbd2_s, zbd2_s, zif01 _ hx, zif01 _ hx]; exact zret _ h
    rw [if_neg e9, if_neg e9]
    exact zret _ h
  · rw [show zwi (nI j) 0 6 = 1 from e, if_neg z10, zld (i := j) (by omega) (by omega), zbd_s, hw.ct j (by omega)]
    have hi : (5 : Int32) + nI j = nI (5 + j) := nI_add 5 j
    rw [hi, zld (i := 5 + j) (by omega) (by omega)]
    simp only [zbd_e]
    rcases (show j = 0 ∨ j = 1 ∨ j = 2 ∨ j = 3 ∨ j = 4 ∨ j = 5 ∨ j = 6 by omega) with rfl | rfl | rfl | rfl | rfl | rfl | rfl
    all_goals
      (repeat first | rw [if_neg (by decide)] | rw [if_pos (by decide)])
      exact zret _ h
