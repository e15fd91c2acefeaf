theorem zdiv_m1 (x : Int32) : x / (-1) = -x := by
  first
  | exact Int32.div_neg_one x
  | exact Int32.div_neg_one
  | (simp; done)
  | (apply Int32.toBitVec_inj.mp; rw [Int32.toBitVec_div, Int32.toBitVec_neg]; exact BitVec.sdiv_neg_one)
  | (apply Int32.toInt_inj.mp; simp [Int32.toInt_div, Int32.toInt_neg]; done)
theorem zrem_m1 (x : Int32) : x - x / (-1) * (-1) = 0 := by
  rw [zdiv_m1]
  first
  | (simp; done)
  | (rw [Int32.mul_neg, Int32.mul_one, Int32.neg_neg, Int32.sub_self])
theorem s_rest (a1 a2 : Int32) : zSIM (fX7_rest a1 a2) (fX8_rest a1 a2) := by
  intro c m h
  obtain ⟨_, _, _, _, sl, _⟩ := id h
  unfold fX7_rest fX8_rest
  simp only [c_isSlot, m_isSlot, zbd2_e]
  rcases zwi_lit a1 0 4 (by omega) (by omega) with e | ⟨e, i, _, hi, rfl⟩
  · rw [show zwi a1 0 4 = 0 from e, if_pos rfl, if_pos rfl]; exact zret _ h
  rw [show zwi (nI i) 0 4 = 1 from e, if_neg z10, if_neg z10]
  obtain ⟨b1, b2⟩ := sl i (by omega)
  rw [zldQn (i := i) (by omega) (by omega), zbd_s, show zq5 i = 50 + 3 * i from rfl]
  simp only [zld (i := i) (n := 5) (show i < 5 by omega) (by decide), zbd_e, b1]
  rcases b2 with b2 | ⟨b2, _⟩ | ⟨b2, _⟩ | ⟨b2, b3⟩
  · rw [b2, if_pos rfl, if_pos rfl]; exact zret _ h
  · rw [b2, if_neg z10, if_neg z10, if_neg (show ¬ (1 : Int32) = 3 by decide), if_neg (show ¬ (1 : Int32) = 3 by decide)]; exact zret _ h
  · rw [b2, if_neg (show ¬ (2 : Int32) = 0 by decide), if_neg (show ¬ (2 : Int32) = 0 by decide), if_neg (show ¬ (2 : Int32) = 3 by decide), if_neg (show ¬ (2 : Int32) = 3 by decide)]; exact zret _ h
  · rw [b2, if_neg (show ¬ (3 : Int32) = 0 by decide), if_neg (show ¬ (3 : Int32) = 0 by decide), if_pos rfl, if_pos rfl, b3]
    by_cases q : a2 = 0
    · rw [if_pos q, if_pos q]; exact zret _ h
    rw [if_neg q, if_neg q]
    unfold zrem
    rw [if_neg q]
    by_cases q1 : a2 = -1
    · subst q1
      rw [if_pos rfl, zbd_s, zrem_m1]; exact zret _ h
    · rw [if_neg q1, zbd_s, zbd_s]; exact zret _ h
