/-! ===== slots ===== -/
theorem c_worth (k d : Int32) (w : zz_W) : fX0_worthOf k d w = some (zwo k d, w) := by
  unfold fX0_worthOf zwo
  simp only [zite_some]
theorem s_ask (a1 a2 : Int32) : zSIM (fX7_ask a1 a2) (fX8_ask a1 a2) := by
  intro c m h
  obtain ⟨_, _, _, _, sl, _⟩ := id h
  unfold fX7_ask fX8_ask
  simp only [c_isSlot, m_isSlot, c_isKind, m_in, zbd2_e, c_worth, m_und]
  rcases zwi_lit a1 0 4 (by omega) (by omega) with e | ⟨e, i, _, hi, rfl⟩
  · rw [show zwi a1 0 4 = 0 from e, if_pos rfl, if_pos rfl]; exact zret _ h
  rw [show zwi (nI i) 0 4 = 1 from e, if_neg z10, if_neg z10]
  rcases zwi_lit a2 0 5 (by omega) (by omega) with e2 | ⟨e2, j, _, hj, rfl⟩
  · rw [show zwi a2 0 5 = 0 from e2, if_pos rfl, if_pos rfl]; exact zret _ h
  rw [show zwi (nI j) 0 5 = 1 from e2, if_neg z10, if_neg z10]
  obtain ⟨b1, b2⟩ := sl i (by omega)
  rw [zldQn (i := i) (by omega) (by omega), zbd_s, show zq5 i = 50 + 3 * i from rfl]
  simp only [zld (i := i) (n := 5) (show i < 5 by omega) (by decide), zbd_e, b1]
  rcases b2 with b2 | ⟨b2, b3, b4, k, hk, b5⟩ | ⟨b2, _⟩ | ⟨b2, _⟩
  · rw [b2, if_pos rfl, if_pos rfl]; exact zret _ h
  · rw [b2, if_neg z10, if_neg z10, if_pos rfl, if_pos rfl, b3, b4, b5, c_und hk (by omega), zbd2_s]
    rcases zun_01 (nI k) (nI j) with q | q
    · rw [q, if_pos rfl, if_pos rfl]; exact zret _ h
    · rw [q, if_neg z10, if_neg z10, b3, b5]; exact zret _ h
  · rw [b2, if_neg (show ¬ (2 : Int32) = 0 by decide), if_neg (show ¬ (2 : Int32) = 0 by decide), if_neg (show ¬ (2 : Int32) = 1 by decide), if_neg (show ¬ (2 : Int32) = 1 by decide)]; exact zret _ h
  · rw [b2, if_neg (show ¬ (3 : Int32) = 0 by decide), if_neg (show ¬ (3 : Int32) = 0 by decide), if_neg (show ¬ (3 : Int32) = 1 by decide), if_neg (show ¬ (3 : Int32) = 1 by decide)]; exact zret _ h
theorem zisS5 : ∀ i, i < 5 → zisS (50 + 3 * i + 1) = true := by decide
theorem s_item (a1 a2 : Int32) : zSIM (fX7_item a1 a2) (fX8_item a1 a2) := by
  intro c m h
  obtain ⟨_, _, _, _, sl, _⟩ := id h
  unfold fX7_item fX8_item fX2_hasPlace fX2_isNumber
  simp only [c_isSlot, m_isSlot, zbd2_e]
  rcases zwi_lit a1 0 4 (by omega) (by omega) with e | ⟨e, i, _, hi, rfl⟩
  · rw [show zwi a1 0 4 = 0 from e, if_pos rfl, if_pos rfl]; exact zret _ h
  rw [show zwi (nI i) 0 4 = 1 from e, if_neg z10, if_neg z10]
  obtain ⟨b1, b2⟩ := sl i (by omega)
  rw [zldQn (i := i) (by omega) (by omega), zbd_s, show zq5 i = 50 + 3 * i from rfl]
  simp only [zld (i := i) (n := 5) (show i < 5 by omega) (by decide), zbd_e, b1, zgrd_h _ (zisS5 i (by omega)), m_in, c_within, zbd2_e, zboo_wi]
  rcases b2 with b2 | ⟨b2, _⟩ | ⟨b2, b3, ⟨s, hs, b4⟩, b5⟩ | ⟨b2, _⟩
  · rw [b2, if_pos rfl, if_pos rfl]; exact zret _ h
  · rw [b2, if_neg z10, if_neg z10, if_neg (show ¬ (1 : Int32) = 2 by decide), if_neg (show ¬ (1 : Int32) = 2 by decide)]; exact zret _ h
  · rw [b2, if_neg (show ¬ (2 : Int32) = 0 by decide), if_neg (show ¬ (2 : Int32) = 0 by decide), if_pos rfl, if_pos rfl, show 50 + 3 * i + 1 = 51 + 3 * i by omega, b3, b4]
    rcases zwi_run a2 s (by omega) with e2 | ⟨e2, j, hj, rfl⟩
    · rw [e2, if_pos rfl, if_pos rfl]; exact zret _ h
    have ei : (24 : Int32) * nI i + nI j = nI (24 * i + j) := by rw [show (24 : Int32) = nI 24 from rfl, pk_mul, nI_add]
    rw [e2, if_neg z10, if_neg z10, ei, zld (i := 24 * i + j) (n := 120) (by omega) (by omega)]
    simp only [show 51 + 3 * i + 1 = 52 + 3 * i by omega, zld (i := j) (n := 24) (show j < 24 by omega) (by decide), zbd_e, b5 j (by omega)]
    by_cases q : zgI m 21 (24 * i + j) = -1000000005
    · rw [if_pos q, if_pos q, zbd2_s, if_pos rfl]; exact zret _ h
    · rw [if_neg q, if_neg q, zbd2_s, if_neg z10, b5 j (by omega)]; exact zret _ h
  · rw [b2, if_neg (show ¬ (3 : Int32) = 0 by decide), if_neg (show ¬ (3 : Int32) = 0 by decide), if_neg (show ¬ (3 : Int32) = 2 by decide), if_neg (show ¬ (3 : Int32) = 2 by decide)]; exact zret _ h
