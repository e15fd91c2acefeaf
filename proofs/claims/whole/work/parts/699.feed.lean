/-! ===== feed ===== -/
def zby (v : Int32) (k : Nat) : Int32 := nI (v.toBitVec.toNat / 2 ^ k % 256)
theorem zby_lt (v : Int32) (k : Nat) : ∃ x, x < 256 ∧ zby v k = nI x := ⟨_, Nat.mod_lt _ (by decide), rfl⟩
theorem c_by (v : Int32) {q : Nat} (hq : q < 4) : ((v.toUInt32 >>> (Int32.toUInt32 (nI (8 * q)) &&& Int32.toUInt32 31)).toInt32) &&& 255 = zby v (8 * q) := by
  rw [pk_and _ 8 (by decide)]
  have h : ((v.toUInt32 >>> (Int32.toUInt32 (nI (8 * q)) &&& Int32.toUInt32 31)).toInt32).toBitVec.toNat = v.toBitVec.toNat / 2 ^ (8 * q) := by
    apply pk_ushr
    rcases (show q = 0 ∨ q = 1 ∨ q = 2 ∨ q = 3 by omega) with rfl | rfl | rfl | rfl <;> decide
  rw [h]
  rfl
theorem zshr_lo (v s : Int32) (k : Nat) (hk : k = 0 ∨ k = 8 ∨ k = 16 ∨ k = 24) (hs : (s.toBitVec.smod 32).toNat = k) : (v >>> s).toBitVec.toNat % 256 = v.toBitVec.toNat / 2 ^ k % 256 := by
  have h := pk_shr v s k hs
  have e1 : (v >>> s).toInt = (v >>> s).toBitVec.toInt := rfl
  have e2 : v.toInt = v.toBitVec.toInt := rfl
  rw [e1, e2, BitVec.toInt_eq_toNat_cond, BitVec.toInt_eq_toNat_cond, Int.shiftRight_eq_div_pow] at h
  have b1 := (v >>> s).toBitVec.isLt
  have b2 := v.toBitVec.isLt
  generalize (v >>> s).toBitVec.toNat = x at *
  generalize v.toBitVec.toNat = y at *
  rcases hk with rfl | rfl | rfl | rfl
  · rw [show ((2 ^ 0 : Nat) : Int) = 1 by decide] at h
    split at h <;> split at h <;> omega
  · rw [show ((2 ^ 8 : Nat) : Int) = 256 by decide] at h
    split at h <;> split at h <;> omega
  · rw [show ((2 ^ 16 : Nat) : Int) = 65536 by decide] at h
    split at h <;> split at h <;> omega
  · rw [show ((2 ^ 24 : Nat) : Int) = 16777216 by decide] at h
    split at h <;> split at h <;> omega
theorem m_by (v : Int32) {q : Nat} (hq : q < 4) : (v >>> ((24 - 8 * nI q) &&& 31)) &&& 255 = zby v (24 - 8 * q) := by
  rw [pk_and _ 8 (by decide)]
  unfold zby
  rcases (show q = 0 ∨ q = 1 ∨ q = 2 ∨ q = 3 by omega) with rfl | rfl | rfl | rfl
  · exact congrArg nI (zshr_lo v _ 24 (by omega) (by decide))
  · exact congrArg nI (zshr_lo v _ 16 (by omega) (by decide))
  · exact congrArg nI (zshr_lo v _ 8 (by omega) (by decide))
  · exact congrArg nI (zshr_lo v _ 0 (by omega) (by decide))
theorem c_add4 (p v : Int32) : ∀ q T k c, q ≤ 4 → T + q ≤ 96 → q < k → zgI c 36 0 = nI T → ∃ c1, fX4_addBytes_3 p k v (nI (8 * q) - 8) c = some c1 ∧ zgI c1 36 0 = nI (T + q) ∧ (∀ j, j < q → zgI c1 37 (T + j) = zby v (8 * (q - 1 - j))) ∧
    (∀ a i, ¬ (a = 36 ∧ i = 0) → ¬ (a = 37 ∧ T ≤ i ∧ i < T + q) → zgI c1 a i = zgI c a i) ∧ c1.2 = c.2 := by
  intro q
  induction q with
  | zero =>
    intro T k c hq hT hk e
    obtain ⟨k, rfl⟩ : ∃ x, k = x + 1 := ⟨k - 1, by omega⟩
    refine ⟨c, ?_, e, fun j hj => absurd hj (by omega), fun a i _ _ => rfl, rfl⟩
    rw [fX4_addBytes_3, if_pos (show nI (8 * 0) - 8 < 0 by decide)]
  | succ q ih =>
    intro T k c hq hT hk e
    obtain ⟨k, rfl⟩ : ∃ x, k = x + 1 := ⟨k - 1, by omega⟩
    have e8 : nI (8 * (q + 1)) - 8 = nI (8 * q) := by rw [show (8 : Int32) = nI 8 from rfl, pk_sub (by omega)]; congr 1
    have s36 : zgI (zsI c 37 T (zby v (8 * q))) 36 0 = nI T := by rw [zgI_sI, if_neg (by omega)]; exact e
    obtain ⟨c1, r1, r2, r3, r4, r5⟩ := ih (T + 1) k (zsI (zsI c 37 T (zby v (8 * q))) 36 0 (nI (T + 1))) (by omega) (by omega) (by omega) (by rw [zgI_sI, if_pos ⟨rfl, rfl⟩])
    refine ⟨c1, ?_, by rw [r2]; congr 1; omega, ?_, ?_, ?_⟩
    · rw [fX4_addBytes_3, e8, if_neg (nI_pos (by omega)), zbd_s, e, if_neg (show ¬ (96 : Int32) ≤ nI T from nI_ge (b := 96) (by omega) (by omega)), zbd_s, c_by v (by omega), zst (i := T) (by omega) (by omega), zbd_s, zbd_s, s36, nI_1, zbd_s, zbd_s, ← Int32.sub_eq_add_neg]
      exact r1
    · intro j hj
      by_cases ej : j = 0
      · subst ej
        rw [Nat.add_zero, r4 37 T (by omega) (by omega), zgI_sI, if_neg (by omega), zgI_sI, if_pos ⟨rfl, rfl⟩]
        rfl
      · have := r3 (j - 1) (by omega)
        rw [show T + 1 + (j - 1) = T + j by omega] at this
        rw [this]
        congr 1
        omega
    · intro a i h1 h2
      rw [r4 a i h1 (by omega), zgI_sI, if_neg (by omega), zgI_sI, if_neg (by omega)]
    · rw [r5]; rfl
theorem c_addB (v : Int32) {T : Nat} {c : zz_W} (hT : T + 4 ≤ 96) (e : zgI c 36 0 = nI T) : ∃ c1, fX4_addBytes v c = some c1 ∧ zgI c1 36 0 = nI (T + 4) ∧ (∀ j, j < 4 → zgI c1 37 (T + j) = zby v (24 - 8 * j)) ∧
    (∀ a i, ¬ (a = 36 ∧ i = 0) → ¬ (a = 37 ∧ T ≤ i ∧ i < T + 4) → zgI c1 a i = zgI c a i) ∧ c1.2 = c.2 := by
  have hf := zfuel_big
  obtain ⟨c1, r1, r2, r3, r4, r5⟩ := c_add4 v v 4 T zfuel c (by omega) hT (by omega) e
  refine ⟨c1, r1, r2, fun j hj => ?_, r4, r5⟩
  rw [r3 j hj]
  congr 1
  omega
def zwd (a b c : Int32) (j : Nat) : Int32 := if j < 4 then a else if j < 8 then b else c
theorem m_feed (p1 p2 p3 a b c : Int32) {T : Nat} (hT : T + 12 ≤ 96) : ∀ d j k m, j + d = 12 → d < k → zgI m 0 8 = nI T → ∃ m1, fX8_feed_18 p1 p2 p3 k a b c (nI j) m = some (nI (T + 12), m1) ∧ zgI m1 0 8 = nI (T + 12) ∧
    (∀ i, j ≤ i → i < 12 → zgI m1 7 (T + i) = zby (zwd a b c i) (24 - 8 * (i % 4))) ∧ (∀ x i, ¬ (x = 0 ∧ i = 8) → ¬ (x = 7 ∧ T + j ≤ i ∧ i < T + 12) → zgI m1 x i = zgI m x i) := by
  intro d
  induction d with
  | zero =>
    intro j k m hj hk e
    obtain ⟨k, rfl⟩ : ∃ x, k = x + 1 := ⟨k - 1, by omega⟩
    have ej : j = 12 := by omega
    subst ej
    refine ⟨zsI m 0 8 (nI (T + 12)), ?_, by rw [zgI_sI, if_pos ⟨rfl, rfl⟩], fun i h1 h2 => absurd h1 (by omega), fun x i h1 _ => by rw [zgI_sI, if_neg h1]⟩
    rw [fX8_feed_18, if_pos (show (12 : Int32) ≤ nI 12 by decide), zbd_s, e, show nI T + 12 = nI (T + 12) from nI_add T 12, zbd_s, zbd_s, zgI_sI, if_pos ⟨rfl, rfl⟩]
  | succ d ih =>
    intro j k m hj hk e
    obtain ⟨k, rfl⟩ : ∃ x, k = x + 1 := ⟨k - 1, by omega⟩
    obtain ⟨m1, r1, r2, r3, r4⟩ := ih (j + 1) k (zsI m 7 (T + j) (zby (zwd a b c j) (24 - 8 * (j % 4)))) (by omega) (by omega) (by rw [zgI_sI, if_neg (by omega)]; exact e)
    refine ⟨m1, ?_, r2, ?_, ?_⟩
    · have go : fX8_feed_47 p1 p2 p3 (fX8_feed_18 p1 p2 p3 k) a b c (nI j) (zwd a b c j) m = some (nI (T + 12), m1) := by
        unfold fX8_feed_47
        rw [zbd_s, e, show (4 : Int32) = nI 4 from rfl, zremN (by omega) (by decide) (by decide), zbd_s, nI_add, m_by _ (show j % 4 < 4 by omega), zst (i := T + j) (by omega) (by omega), zbd_s, zbd_s, nI_1]
        exact r1
      rw [fX8_feed_18, if_neg (show ¬ (12 : Int32) ≤ nI j from nI_ge (b := 12) (by omega) (by omega))]
      by_cases c4 : j < 4
      · rw [if_neg (show ¬ (4 : Int32) ≤ nI j from nI_ge (b := 4) c4 (by omega))]
        rw [show zwd a b c j = a from if_pos c4] at go
        exact go
      · rw [if_pos (show (4 : Int32) ≤ nI j from nI_le (a := 4) (by omega) (by omega))]
        by_cases c8 : j < 8
        · rw [if_neg (show ¬ (8 : Int32) ≤ nI j from nI_ge (b := 8) c8 (by omega))]
          rw [show zwd a b c j = b by unfold zwd; rw [if_neg c4, if_pos c8]] at go
          exact go
        · rw [if_pos (show (8 : Int32) ≤ nI j from nI_le (a := 8) (by omega) (by omega))]
          rw [show zwd a b c j = c by unfold zwd; rw [if_neg c4, if_neg c8]] at go
          exact go
    · intro i h1 h2
      by_cases ei : i = j
      · subst ei
        rw [r4 7 (T + i) (by omega) (by omega), zgI_sI, if_pos ⟨rfl, rfl⟩]
      · exact r3 i (by omega) h2
    · intro x i h1 h2
      rw [r4 x i h1 (by omega), zgI_sI, if_neg (by omega)]
theorem s_feed (a1 a2 a3 : Int32) : zSIM (fX7_feed a1 a2 a3) (fX8_feed a1 a2 a3) := by
  intro c m h
  have hf := zfuel_big
  obtain ⟨a, r1, ⟨T, hT, T1, T2, T3⟩, r3, r4, r5, r6⟩ := id h
  unfold fX7_feed fX8_feed
  rw [zbd_s, zbd_s, T1, T2, show nI T + 12 = nI (T + 12) from nI_add T 12]
  by_cases e : T ≤ 84
  · rw [if_pos (show nI T ≤ 84 from nI_le (b := 84) e (by omega)), if_pos (show nI (T + 12) ≤ 96 from nI_le (b := 96) (by omega) (by omega))]
    obtain ⟨c1, x1, x2, x3, x4, x5⟩ := c_addB a1 (T := T) (c := c) (by omega) T1
    obtain ⟨c2, y1, y2, y3, y4, y5⟩ := c_addB a2 (T := T + 4) (c := c1) (by omega) x2
    obtain ⟨c3, z1, z2, z3, z4, z5⟩ := c_addB a3 (T := T + 4 + 4) (c := c2) (by omega) y2
    obtain ⟨m1, w1, w2, w3, w4⟩ := m_feed a1 a2 a3 a1 a2 a3 (T := T) (by omega) 12 0 zfuel m (by omega) (by omega) T2
    have k5 : c3.2 = c.2 := by rw [z5, y5, x5]
    have gc : ∀ x i, ¬ (x = 36 ∧ i = 0) → ¬ (x = 37) → zgI c3 x i = zgI c x i := fun x i h1 h2 => by rw [z4 x i h1 (by omega), y4 x i h1 (by omega), x4 x i h1 (by omega)]
    have gm : ∀ x i, ¬ (x = 0 ∧ i = 8) → ¬ (x = 7) → zgI m1 x i = zgI m x i := fun x i h1 h2 => w4 x i h1 (by omega)
    have gL : ∀ x i, zgL c3 x i = zgL c x i := fun x i => by show c3.2.1 x i = c.2.1 x i; rw [k5]
    have gR : ∀ x i, zgR c3 x i = zgR c x i := fun x i => by show c3.2.2.1 x i = c.2.2.1 x i; rw [k5]
    have gG : c3.2.2.2 = c.2.2.2 := by rw [k5]
    refine ⟨nI (T + 12), c3, m1, by rw [x1, zbd_s, y1, zbd_s, z1, zbd_s, zbd_s, z2], w1, zAll_keep a (fun a i _ => gc _ _ (by omega) (by omega)) (fun _ => gL _ _) (fun _ => gR _ _) gG (fun i => gm _ _ (by omega) (by omega)),
      zImg_keep r1 (gc _ _ (by omega) (by omega)) (fun a i _ => gc _ _ (by omega) (by omega)) (fun _ => gL _ _) (fun _ => gR _ _) gG (gm _ _ (by omega) (by omega)) (fun i => gm _ _ (by omega) (by omega)),
      ?_,
      zSheets_keep r3 (fun a i _ _ => gc _ _ (by omega) (by omega)) (fun a i _ _ => gm _ _ (by omega) (by omega)), zSlots_keep r4 (fun a i _ _ => gc _ _ (by omega) (by omega)) (fun a i _ _ => gm _ _ (by omega) (by omega)),
      zWaits_keep r5 (gc _ _ (by omega) (by omega)) (fun i => gc _ _ (by omega) (by omega)) (gm _ _ (by omega) (by omega)) (fun i => gm _ _ (by omega) (by omega)), zKeys_keep r6 (fun a i _ _ => gm _ _ (by omega) (by omega)) (fun q => zok2_R q (congrArg Prod.snd k5))⟩
    refine ⟨T + 12, by omega, z2, w2, fun j hj => ?_⟩
    by_cases j0 : j < T
    · rw [z4 37 j (by omega) (by omega), y4 37 j (by omega) (by omega), x4 37 j (by omega) (by omega), w4 7 j (by omega) (by omega)]
      exact T3 j j0
    · obtain ⟨i, rfl⟩ : ∃ i, j = T + i := ⟨j - T, by omega⟩
      rw [w3 i (by omega) (by omega)]
      refine ⟨?_, zby_lt _ _⟩
      by_cases i4 : i < 4
      · rw [z4 37 _ (by omega) (by omega), y4 37 _ (by omega) (by omega), x3 i i4, show zwd a1 a2 a3 i = a1 from if_pos i4, Nat.mod_eq_of_lt i4]
      by_cases i8 : i < 8
      · have := y3 (i - 4) (by omega)
        rw [show T + 4 + (i - 4) = T + i by omega] at this
        rw [z4 37 _ (by omega) (by omega), this, show zwd a1 a2 a3 i = a2 by unfold zwd; rw [if_neg i4, if_pos i8], show i % 4 = i - 4 by omega]
      · have := z3 (i - 8) (by omega)
        rw [show T + 4 + 4 + (i - 8) = T + i by omega] at this
        rw [this, show zwd a1 a2 a3 i = a3 by unfold zwd; rw [if_neg i4, if_neg i8], show i % 4 = i - 8 by omega]
  · rw [if_neg (show ¬ nI T ≤ 84 from nI_ge (a := 84) (by omega) (by omega)), if_neg (show ¬ nI (T + 12) ≤ 96 from nI_ge (a := 96) (by omega) (by omega))]
    exact zret _ h
