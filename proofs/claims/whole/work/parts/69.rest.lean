theorem zdiv_m1 (x : Int32) : x / (-1) = -x := by
  first
  | exact Int32.div_neg_one x
  | exact Int32.div_neg_one
  | (simp; done)
  | (apply Int32.toBitVec_inj.mp; rw [Int32.toBitVec_div, Int32.toBitVec_neg]; exact BitVec.sdiv_neg_one)
  | (apply Int32.toInt_inj.mp; simp [Int32.toInt_div, Int32.toInt_neg]; done)
theorem zrem_m1 (x : Int32) : x - x / (-1) * (-1) = 0 := by
  rw [zdiv_m1]
  first
  | (simp; done)
  | (rw [Int32.mul_neg, Int32.mul_one, Int32.neg_neg, Int32.sub_self])
