/-! ===== sheet, reads, pour ===== -/
theorem zisX24 : ∀ i, i < 4 → zisX (42 + 2 * i + 1) (.inl (0, 24)) = true := by decide
theorem zwi_m11 (v : Int32) : zwi v (-1) 1 = 0 ∨ (zwi v (-1) 1 = 1 ∧ (v = -1 ∨ v = 0 ∨ v = 1)) := by
  unfold zwi
  by_cases h1 : v < -1
  · exact Or.inl (if_pos h1)
  rw [if_neg h1]
  by_cases h2 : 1 < v
  · exact Or.inl (if_pos h2)
  rw [if_neg h2]
  refine Or.inr ⟨rfl, ?_⟩
  rw [Int32.lt_iff_toInt_lt] at h1 h2
  have e1 : (-1 : Int32).toInt = -1 := by decide
  have e2 : (1 : Int32).toInt = 1 := by decide
  have e0 : (0 : Int32).toInt = 0 := by decide
  have : v.toInt = -1 ∨ v.toInt = 0 ∨ v.toInt = 1 := by omega
  rcases this with e | e | e
  · exact Or.inl (Int32.toInt_inj.mp (by rw [e, e1]))
  · exact Or.inr (Or.inl (Int32.toInt_inj.mp (by rw [e, e0])))
  · exact Or.inr (Or.inr (Int32.toInt_inj.mp (by rw [e, e2])))
theorem w_renew {c m : zz_W} (h : zRel c m) {i s : Nat} {a : Int32} (hi : i < 4) (hs : s ≤ 24) (ha : a = -1 ∨ a = 0 ∨ a = 1) (p1 p2 p3 : Int32) :
    ∃ c1 m1, fX2_renew (42 + 2 * i) a (nI s) c = some c1 ∧ zbd (zstI m 15 4 (nI i) a) (fun w23 => fX8_sheet_62 p1 p2 p3 (nI i) (nI i) (nI s) w23) = some (nI s, m1) ∧ zRel c1 m1 := by
  have hf := zfuel_big
  have h2 := zRel_sz h hi hs ha
  obtain ⟨c1, m1, r1, r2, r3⟩ := w_fill hi 0 p1 p2 p3 (s := nI s) 24 0 zfuel zfuel _ _ (by omega) (by omega) (by omega) h2 (by rw [zgI_sI, if_pos ⟨rfl, rfl⟩])
  refine ⟨c1, m1, ?_, ?_, r3⟩
  · unfold fX2_renew fJ7_fill_53178
    rw [zgrd_h _ (zisS4 i hi), zbd_s, zbd_s, zgrd_h _ (zisX24 i hi), zbd_s]
    show zbd (fJ7_fill_53178_5 (42 + 2 * i + 1) 0 zfuel 0 (nI 0) (nI 24) _) _ = _
    rw [r1, zbd_s]
  · rw [zst (i := i) (by omega) (by omega), zbd_s]
    unfold fX8_sheet_62
    rw [zst (i := i) (by omega) (by omega), zbd_s]
    exact r2
theorem s_sheet (a1 a2 a3 : Int32) : zSIM (fX7_sheet a1 a2 a3) (fX8_sheet a1 a2 a3) := by
  intro c m h
  unfold fX7_sheet fX8_sheet fX8_sheet_29 fX8_sheet_41
  simp only [c_isSheet, m_isSheet, zbd2_e, c_within, m_in]
  rcases zwi_lit a1 0 3 (by omega) (by omega) with e | ⟨e, i, _, hi, rfl⟩
  · rw [show zwi a1 0 3 = 0 from e, if_pos rfl, if_pos rfl]; exact zret _ h
  rw [show zwi (nI i) 0 3 = 1 from e, if_neg z10, if_neg z10]
  rcases zwi_m11 a2 with e2 | ⟨e2, ha⟩
  · rw [e2, if_pos rfl, if_pos rfl]; exact zret _ h
  rw [e2, if_neg z10, if_neg z10, zldQn (i := i) (by omega) (by omega), show zq4 i = 42 + 2 * i from rfl]
  by_cases hm : a2 = -1
  · subst hm
    rw [if_pos rfl, if_pos (show (-1 : Int32) < 0 by decide), if_pos (show (-1 : Int32) < 0 by decide)]
    simp only [show ¬ (0 : Int32) ≤ -1 by decide, if_false]
    obtain ⟨c1, m1, r1, r2, r3⟩ := w_renew h (show i < 4 by omega) (show 0 ≤ 24 by omega) ha (nI i) (-1) a3
    refine ⟨0, c1, m1, ?_, r2, r3⟩
    show zbd (some (42 + 2 * i)) (fun q25 => zbd (fX2_renew q25 (-1) (nI 0) c) _) = _
    rw [zbd_s, r1, zbd_s]
  · have h0 : ¬ a2 < 0 := by rcases ha with rfl | rfl | rfl; exact absurd rfl hm; decide; decide
    have h0' : (0 : Int32) ≤ a2 := by rcases ha with rfl | rfl | rfl; exact absurd rfl hm; decide; decide
    rw [if_neg hm, if_neg h0, if_neg h0]
    simp only [h0', if_true]
    by_cases h24 : a3 ≤ 24
    · rw [if_pos h24, if_pos h24]
      by_cases hz : 0 ≤ a3
      · rw [if_pos hz, if_pos hz]
        obtain ⟨s, hs, rfl⟩ := nI_of2 (M := 24) (n := 24) (by decide) (show ¬ a3 < 0 by rw [Int32.lt_iff_toInt_lt]; rw [Int32.le_iff_toInt_le] at hz; omega) h24
        obtain ⟨c1, m1, r1, r2, r3⟩ := w_renew h (show i < 4 by omega) hs ha (nI i) a2 (nI s)
        refine ⟨nI s, c1, m1, ?_, r2, r3⟩
        rw [zbd_s, r1, zbd_s]
      · rw [if_neg hz, if_neg hz]; exact zret _ h
    · rw [if_neg h24, if_neg h24]; exact zret _ h
theorem zidx24 (i j : Nat) : (24 : Int32) * nI i + nI j = nI (24 * i + j) := by rw [show (24 : Int32) = nI 24 from rfl, pk_mul, nI_add]
theorem w_reads {n i s : Nat} {c m : zz_W} (hw : zWal 1 n c m c m) (hi : i < 4) (hs : s ≤ 24) (e1 : zgI c (42 + 2 * i) 2 = nI s) (e2 : zgI m 16 i = nI s) (e3 : ∀ j, j < 24 → zgI c (43 + 2 * i) j = zgI m 17 (24 * i + j)) (p q : Int32) :
    ∀ d j k k', j + d = s → d < k → d < k' → ∃ v, fX7_reads_29 p k (42 + 2 * i) (nI j) c = some (v, c) ∧ fX8_reads_24 q k' (nI i) (nI j) m = some (v, m) := by
  have hn10 := hw.hn
  intro d
  induction d with
  | zero =>
    intro j k k' hj hk hk'
    obtain ⟨k, rfl⟩ : ∃ x, k = x + 1 := ⟨k - 1, by omega⟩
    obtain ⟨k', rfl⟩ : ∃ x, k' = x + 1 := ⟨k' - 1, by omega⟩
    refine ⟨-1000000005, ?_, ?_⟩
    · rw [fX7_reads_29, zgrd_h _ (zisS4 i hi), zbd_s, e1, if_pos (nI_le (by omega) (by omega))]
    · rw [fX8_reads_24, zld (i := i) (by omega) (by omega), zbd_s, e2, if_pos (nI_le (by omega) (by omega))]
  | succ d ih =>
    intro j k k' hj hk hk'
    obtain ⟨k, rfl⟩ : ∃ x, k = x + 1 := ⟨k - 1, by omega⟩
    obtain ⟨k', rfl⟩ : ∃ x, k' = x + 1 := ⟨k' - 1, by omega⟩
    have hg : ¬ nI s ≤ nI j := nI_ge (by omega) (by omega)
    obtain ⟨v, v1, v2⟩ := ih (j + 1) k k' (by omega) (by omega) (by omega)
    have c1 : zldI c (42 + 2 * i + 1) 24 (nI j) = some (zgI m 17 (24 * i + j)) := by
      rw [zld (i := j) (by omega) (by omega), show 42 + 2 * i + 1 = 43 + 2 * i by omega, e3 j (by omega)]
    have c2 : zldI m 17 96 (nI (24 * i + j)) = some (zgI m 17 (24 * i + j)) := zld (by omega) (by omega)
    rw [fX7_reads_29, fX8_reads_24]
    unfold fX2_isNumber
    rw [zgrd_h _ (zisS4 i hi), zgrd_h _ (zisS4 i hi), zld (i := i) (by omega) (by omega)]
    simp only [zbd_e, e1, e2, zidx24, c1, c2]
    rw [if_neg hg, if_neg hg]
    by_cases q0 : zgI m 17 (24 * i + j) = -1000000005
    · rw [if_pos q0, if_pos q0, zbd2_s, if_pos rfl, nI_1]
      exact ⟨v, v1, v2⟩
    rw [if_neg q0, if_neg q0, zbd2_s, if_neg z10, c_isRun hw, m_isRun hw, zbd2_s, zbd2_s]
    rcases zwi_run (nI j) n (by omega) with q1 | ⟨q1, r, hr, q2⟩
    · rw [q1, if_pos rfl, if_pos rfl]; exact ⟨_, rfl, rfl⟩
    have := (nI_eq (a := j) (b := r) (by omega) (by omega)).mp q2
    subst this
    rw [q1, if_neg z10, if_neg z10, c1, zbd_s, zld (i := j) (by omega) (by omega), m_of3 (by omega)]
    simp only [zbd_e, zbd2_e]
    rw [show zgI c (1 + 4) j = _ from hw.cd j hr]
    by_cases q3 : zgI m 17 (24 * i + j) = zgI m 1 (17 + 5 * j)
    · rw [if_pos q3, if_pos q3, nI_1]; exact ⟨v, v1, v2⟩
    · rw [if_neg q3, if_neg q3]; exact ⟨_, rfl, rfl⟩
theorem s_reads (a1 : Int32) : zSIM (fX7_reads a1) (fX8_reads a1) := by
  intro c m h
  have hf := zfuel_big
  obtain ⟨n, hw, hp⟩ := zR1 h
  obtain ⟨_, _, _, sh, _⟩ := id h
  unfold fX7_reads fX8_reads fX2_isMissing
  simp only [c_isSheet, m_isSheet, zbd2_e]
  rcases zwi_lit a1 0 3 (by omega) (by omega) with e | ⟨e, i, _, hi, rfl⟩
  · rw [show zwi a1 0 3 = 0 from e, if_pos rfl, if_pos rfl]; exact zret _ h
  rw [show zwi (nI i) 0 3 = 1 from e, if_neg z10, if_neg z10]
  obtain ⟨b1, b2, b3, ⟨s, hs, b4⟩, b5⟩ := sh i (by omega)
  rw [zldQn (i := i) (by omega) (by omega), zbd_s, show zq4 i = 42 + 2 * i from rfl, zgrd_h _ (zisS4 i (by omega)), zbd_s, b1, zld (i := i) (by omega) (by omega), zbd_s]
  obtain ⟨v, v1, v2⟩ := w_reads hw (show i < 4 by omega) hs (by rw [b3, b4]) b4 b5 (nI i) (nI i) s 0 zfuel zfuel (by omega) (by omega) (by omega)
  rcases b2 with b2 | b2 | b2
  · rw [b2, if_pos rfl, zbd2_s, if_neg z10, if_neg (show ¬ (0 : Int32) ≤ -1 by decide)]; exact zret _ h
  · rw [b2, if_neg (show ¬ (0 : Int32) = -1 by decide), zbd2_s, if_pos rfl, if_pos (show (0 : Int32) ≤ 0 by decide)]; exact ⟨v, c, m, v1, v2, h⟩
  · rw [b2, if_neg (show ¬ (1 : Int32) = -1 by decide), zbd2_s, if_pos rfl, if_pos (show (0 : Int32) ≤ 1 by decide)]; exact ⟨v, c, m, v1, v2, h⟩
theorem zheld (v : Int32) {lo hi : Nat} (h : lo ≤ hi) (hh : hi < 2 ^ 31) : ∃ x, lo ≤ x ∧ x ≤ hi ∧ zmax (nI lo) (zmin (nI hi) v) = nI x ∧ zwt v (nI lo) (nI hi) = nI x := by
  unfold zmax zmin zwt
  by_cases h0 : v < 0
  · have hv : v < nI hi := by
      rw [Int32.lt_iff_toInt_lt] at h0 ⊢
      rw [nI_toInt hh]
      have : (0 : Int32).toInt = 0 := by decide
      omega
    have hl : ¬ nI lo < v := by
      rw [Int32.lt_iff_toInt_lt] at h0 ⊢
      rw [nI_toInt (by omega)]
      have : (0 : Int32).toInt = 0 := by decide
      omega
    have hl' : ¬ nI lo ≤ v := by
      rw [Int32.le_iff_toInt_le]
      rw [Int32.lt_iff_toInt_lt] at h0
      rw [nI_toInt (by omega)]
      have : (0 : Int32).toInt = 0 := by decide
      omega
    exact ⟨lo, by omega, h, by rw [if_pos hv, if_neg hl], by rw [if_neg hl']⟩
  · obtain ⟨j, hj, rfl⟩ := nI_of h0
    by_cases c1 : j < lo
    · exact ⟨lo, by omega, h, by rw [if_pos (nI_lt (by omega) hh), if_neg (nI_nlt (by omega) (by omega))], by rw [if_neg (nI_ge c1 (by omega))]⟩
    by_cases c2 : j < hi
    · refine ⟨j, by omega, by omega, ?_, by rw [if_pos (nI_le (by omega) hj), if_pos (nI_le (by omega) hh)]⟩
      rw [if_pos (nI_lt c2 hh)]
      by_cases c3 : lo < j
      · rw [if_pos (nI_lt c3 hj)]
      · rw [if_neg (nI_nlt (by omega) (by omega)), show lo = j by omega]
    · refine ⟨hi, h, by omega, ?_, ?_⟩
      · rw [if_neg (nI_nlt (by omega) hj)]
        by_cases c3 : lo < hi
        · rw [if_pos (nI_lt c3 hh)]
        · rw [if_neg (nI_nlt (by omega) (by omega)), show lo = hi by omega]
      · rw [if_pos (nI_le (by omega) hj)]
        by_cases c3 : j ≤ hi
        · rw [if_pos (nI_le c3 hh), show j = hi by omega]
        · rw [if_neg (nI_ge (by omega) hj)]
theorem zsI_same (w : zz_W) (k i : Nat) : zsI w k i (zgI w k i) = w := by
  have : (fun a b => if a = k ∧ b = i then zgI w k i else w.1 a b) = w.1 := by
    funext a b
    by_cases e : a = k ∧ b = i
    · rw [if_pos e, e.1, e.2]; rfl
    · rw [if_neg e]
  show (_, w.2) = w
  rw [this]
theorem zidx2 (r : Nat) : (14 : Int32) + 5 * nI r + 2 = nI (16 + 5 * r) := by
  rw [show 16 + 5 * r = 14 + 5 * r + 2 by omega]; exact zidx r 2
theorem w_pour {n i s : Nat} {c0 m0 : zz_W} (hi : i < 4) (hs : s ≤ 24) (e1 : zgI c0 (42 + 2 * i) 2 = nI s) (e2 : zgI m0 16 i = nI s) (e3 : ∀ j, j < 24 → zgI c0 (43 + 2 * i) j = zgI m0 17 (24 * i + j)) (p q : Int32) :
    ∀ d j k k' l c m, j + d = min n s → d < k → d < k' → zWP 1 n c0 m0 c m → ∃ v c1 m1, fX7_pour_32 p k (42 + 2 * i) l (nI j) c = some (v, c1) ∧ fX8_pour_26 q k' (nI i) l (nI j) m = some (v, m1) ∧ zWP 1 n c0 m0 c1 m1 := by
  intro d
  induction d with
  | zero =>
    intro j k k' l c m hj hk hk' hw
    have hn10 := hw.1.hn
    obtain ⟨k, rfl⟩ : ∃ x, k = x + 1 := ⟨k - 1, by omega⟩
    obtain ⟨k', rfl⟩ : ∃ x, k' = x + 1 := ⟨k' - 1, by omega⟩
    have f1 : zgI c (42 + 2 * i) 2 = nI s := by rw [hw.1.fc _ _ (by omega)]; exact e1
    have f2 : zgI m 16 i = nI s := by rw [hw.1.fm _ _ (by omega)]; exact e2
    refine ⟨l, c, m, ?_, ?_, hw⟩
    · rw [fX7_pour_32, zgrd_h _ (zisS4 i hi), zbd_s, hw.1.cn]
      by_cases q : n ≤ j
      · rw [if_pos (nI_le q (by omega))]
      · rw [if_neg (nI_ge (by omega) (by omega)), zbd_s, f1, if_pos (nI_le (by omega) (by omega))]
    · rw [fX8_pour_26, zld (i := i) (by omega) (by omega), zbd_s, f2]
      by_cases q : s ≤ j
      · rw [if_pos (nI_le q (by omega))]
      · rw [if_neg (nI_ge (by omega) (by omega)), m_l1, zbd_s, hw.1.mn, if_pos (nI_le (by omega) (by omega))]
  | succ d ih =>
    intro j k k' l c m hj hk hk' hw
    have hn10 := hw.1.hn
    obtain ⟨k, rfl⟩ : ∃ x, k = x + 1 := ⟨k - 1, by omega⟩
    obtain ⟨k', rfl⟩ : ∃ x, k' = x + 1 := ⟨k' - 1, by omega⟩
    have f1 : zgI c (42 + 2 * i) 2 = nI s := by rw [hw.1.fc _ _ (by omega)]; exact e1
    have f2 : zgI m 16 i = nI s := by rw [hw.1.fm _ _ (by omega)]; exact e2
    have f3 : zgI c (43 + 2 * i) j = zgI m 17 (24 * i + j) := by rw [hw.1.fc _ _ (by omega), hw.1.fm _ _ (by omega)]; exact e3 j (by omega)
    have c1 : zldI c (42 + 2 * i + 1) 24 (nI j) = some (zgI m 17 (24 * i + j)) := by
      rw [zld (i := j) (by omega) (by omega), show 42 + 2 * i + 1 = 43 + 2 * i by omega, f3]
    have c2 : zldI m 17 96 (nI (24 * i + j)) = some (zgI m 17 (24 * i + j)) := zld (by omega) (by omega)
    have g1 : ¬ nI n ≤ nI j := nI_ge (by omega) (by omega)
    have g2 : ¬ nI s ≤ nI j := nI_ge (by omega) (by omega)
    rw [fX7_pour_32, fX8_pour_26]
    unfold fX2_isNumber fX8_pour_83 fX8_becomes fX7_exchange
    rw [zgrd_h _ (zisS4 i hi), zgrd_h _ (zisS4 i hi), zld (i := i) (by omega) (by omega)]
    simp only [zbd_e, hw.1.cn, m_l1, hw.1.mn, f1, f2, zidx24, c1, c2]
    rw [if_neg g1, if_neg g2, if_neg g2, if_neg g1]
    by_cases q0 : zgI m 17 (24 * i + j) = -1000000005
    · rw [if_pos q0, if_pos q0, zbd2_s, if_pos rfl, m_of2 (by omega), zbd2_s, zidx2, zld (i := 16 + 5 * j) (by omega) (by omega), zbd_s, zst (i := 16 + 5 * j) (by omega) (by omega), zbd_s, zbd2_s, if_pos rfl, zsI_same, nI_1, Int32.add_zero]
      exact ih (j + 1) k k' l c m (by omega) (by omega) (by omega) hw
    rw [if_neg q0, if_neg q0, zbd2_s, if_neg z10]
    obtain ⟨x, x1, x2, x3, x4⟩ := zheld (zgI m 17 (24 * i + j)) (lo := 1) (hi := 99) (by omega) (by omega)
    unfold fX7_held
    rw [c1, zbd_s, m_within, zbd2_s, zbd2_s, show zmax 1 (zmin 99 (zgI m 17 (24 * i + j))) = nI x from x3, show zwt (zgI m 17 (24 * i + j)) 1 99 = nI x from x4, zgrd_h _ (show zisX (1 + 3) (.inl (0, 10)) = true by decide), zidx2]
    rw [zld (i := j) (by omega) (by omega), zld (i := 16 + 5 * j) (by omega) (by omega), zst (i := j) (by omega) (by omega), zst (i := 16 + 5 * j) (by omega) (by omega)]
    simp only [zbd_e, zbd2_e]
    rw [hw.1.cl j (by omega)]
    have hw2 : zWP 1 n c0 m0 (zsI c (1 + 3) j (nI x)) (zsI m 1 (16 + 5 * j) (nI x)) := ⟨zWal_l hw.1 (by omega) x1 x2, zPos_of hw.2 (fun r hr => by rw [zgI_sI, if_neg (by omega)])⟩
    by_cases q1 : zgI m 1 (16 + 5 * j) = nI x
    · rw [if_pos q1, if_pos q1, nI_1]
      exact ih (j + 1) k k' _ _ _ (by omega) (by omega) (by omega) hw2
    · rw [if_neg q1, if_neg q1, nI_1]
      exact ih (j + 1) k k' _ _ _ (by omega) (by omega) (by omega) hw2
theorem s_pour (a1 : Int32) : zSIM (fX7_pour a1) (fX8_pour a1) := by
  intro c m h
  have hf := zfuel_big
  obtain ⟨n, hw⟩ := zR1 h
  have hn10 := hw.1.hn
  obtain ⟨_, _, _, sh, _⟩ := id h
  unfold fX7_pour fX8_pour fX2_isMissing
  simp only [c_isSheet, m_isSheet, zbd2_e]
  rcases zwi_lit a1 0 3 (by omega) (by omega) with e | ⟨e, i, _, hi, rfl⟩
  · rw [show zwi a1 0 3 = 0 from e, if_pos rfl, if_pos rfl]; exact zret _ h
  rw [show zwi (nI i) 0 3 = 1 from e, if_neg z10, if_neg z10]
  obtain ⟨b1, b2, b3, ⟨s, hs, b4⟩, b5⟩ := sh i (by omega)
  rw [zldQn (i := i) (by omega) (by omega), zbd_s, show zq4 i = 42 + 2 * i from rfl, zgrd_h _ (zisS4 i (by omega)), zbd_s, b1, zld (i := i) (by omega) (by omega), zbd_s]
  obtain ⟨v, c1, m1, v1, v2, v3⟩ := w_pour (show i < 4 by omega) hs (by rw [b3, b4]) b4 b5 (nI i) (nI i) (min n s) 0 zfuel zfuel 0 c m (by omega) (by omega) (by omega) hw
  rcases b2 with b2 | b2 | b2
  · rw [b2, if_pos rfl, zbd2_s, if_neg z10, if_neg (show ¬ (0 : Int32) ≤ -1 by decide)]; exact zret _ h
  · rw [b2, if_neg (show ¬ (0 : Int32) = -1 by decide), zbd2_s, if_pos rfl, if_pos (show (0 : Int32) ≤ 0 by decide)]; exact ⟨v, c1, m1, v1, v2, zRel_wal h v3.1 v3.2⟩
  · rw [b2, if_neg (show ¬ (1 : Int32) = -1 by decide), zbd2_s, if_pos rfl, if_pos (show (0 : Int32) ≤ 1 by decide)]; exact ⟨v, c1, m1, v1, v2, zRel_wal h v3.1 v3.2⟩
