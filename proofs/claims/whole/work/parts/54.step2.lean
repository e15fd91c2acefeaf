/-! ===== the step: odds, tests, the true run ===== -/
theorem w_change {b n : Nat} {c0 m0 : zz_W} (p1 p2 p3 q1 q2 l3 : Int32) (hl : l3 = 0 ∨ l3 = 1) {s x : Nat} (hs : s < 4) (hx : x < 36) : ∀ d j k k' c m, j + d = n → d < k → d < k' → zWal b n c0 m0 c m →
    ∃ c1 m1, fX6_changeOdds_6 b p1 p2 p3 k (nI s) (nI x) l3 (nI (zsm (zgI m 1) 18 j)) (nI j) c = some c1 ∧ fX8_tests_93 q1 q2 k' (nI s) (nI x) l3 (nI j) m = some (l3, m1) ∧ zWal b n c0 m0 c1 m1 ∧ zPos n m1 := by
  intro d
  induction d with
  | zero =>
    intro j k k' c m hj hk hk' h
    have hn10 := h.hn
    have hf := zfuel_big
    obtain ⟨k, rfl⟩ : ∃ x, k = x + 1 := ⟨k - 1, by omega⟩
    obtain ⟨k', rfl⟩ : ∃ x, k' = x + 1 := ⟨k' - 1, by omega⟩
    have hj' : j = n := by omega
    subst hj'
    have hle := zsm4_le h (Nat.le_refl j)
    rw [fX6_changeOdds_6, zbd_s, h.cn, if_pos (nI_le (Nat.le_refl j) (by omega)), fX8_tests_93, m_l1, zbd_s, h.mn, if_pos (nI_le (Nat.le_refl j) (by omega)), m_sumO h, zbd2_s]
    by_cases hS : zsm (zgI m 1) 18 j = 0
    · have e0 : nI (zsm (zgI m 1) 18 j) = 0 := by rw [hS]; rfl
      rw [if_pos e0, if_pos e0]
      have h2 := zWal_y h (j := 6) (by decide) (zgI c (b + 7) 6 + 1)
      obtain ⟨c1, m1, r1, r2, r3, r4⟩ := w_forget (b := b) (n := j) (c0 := c0) (m0 := m0) q1 q2 l3 hl j 0 zfuel zfuel c _ (by omega) (by omega) (by omega) h2 (fun r hr => absurd hr (by omega))
      refine ⟨c1, m1, ?_, ?_, r3, fun hn => ⟨0, hn, r4 0 hn⟩⟩
      · unfold fX6_forget
        rw [zgrd_h _ h.W, show (0 : Int32) = nI 0 from rfl, r1, zbd_s]
      · rw [m_l11, zbd_s, m_t11, zbd_s, show (0 : Int32) = nI 0 from rfl]
        rw [h.ct 6 (by decide)] at r2
        exact r2
    · have e0 : ¬ nI (zsm (zgI m 1) 18 j) = 0 := nI_ne0 (by omega) (by omega)
      rw [if_neg e0, if_neg e0]
      refine ⟨c, m, rfl, ?_, h, fun _ => zsm_pos j hS⟩
      rcases hl with rfl | rfl <;> rfl
  | succ d ih =>
    intro j k k' c m hj hk hk' h
    have hn10 := h.hn
    obtain ⟨k, rfl⟩ : ∃ x, k = x + 1 := ⟨k - 1, by omega⟩
    obtain ⟨k', rfl⟩ : ∃ x, k' = x + 1 := ⟨k' - 1, by omega⟩
    have hle := zsm4_le h (show j ≤ n by omega)
    obtain ⟨y, hy, e⟩ := h.ro j (by omega)
    obtain ⟨sl, hsl, esl⟩ := h.sl
    rw [fX6_changeOdds_6, zbd_s, h.cn, if_neg (nI_ge (by omega) (by omega)), zld (i := j) (by omega) (by omega), zbd_s, h.co j (by omega), e, c_tell h (by omega) hs hx, zbd2_s]
    rw [fX8_tests_93, m_l1, zbd_s, h.mn, if_neg (nI_ge (by omega) (by omega)), m_of4 (by omega), zbd2_s, m_tell (by omega), zbd2_s, e]
    have key : ∀ A : Int32, ∃ c1 m1, fX6_changeOdds_47 b p1 p2 p3 (fX6_changeOdds_6 b p1 p2 p3 k) (nI s) (nI x) l3 (nI (zsm (zgI m 1) 18 j)) (nI j) (nI j) (nI y) (nI s) A c = some c1 ∧ fX8_tests_133 q1 q2 (fX8_tests_93 q1 q2 k') (nI s) (nI x) l3 (nI j) (nI j) 4 (nI y) A m = some (l3, m1) ∧ zWal b n c0 m0 c1 m1 ∧ zPos n m1 := by
      intro A
      obtain ⟨p, hp, ep⟩ := zpc_nI hsl (nI s) A
      have hb : y * p / 100 ≤ 99000 := by
        have : y * p ≤ 99000 * 100 := Nat.mul_le_mul hy hp
        omega
      have hb2 : y * p < 2 ^ 31 := by
        have : y * p ≤ 99000 * 100 := Nat.mul_le_mul hy hp
        omega
      have h2 := zWal_o h (s := j) (x := y * p / 100) (by omega) hb
      obtain ⟨c1, m1, r1, r2, r3, r4⟩ := ih (j + 1) k k' _ _ (by omega) (by omega) (by omega) h2
      have es : zsm (zgI (zsI m 1 (18 + 5 * j) (nI (y * p / 100))) 1) 18 (j + 1) = zsm (zgI m 1) 18 j + y * p / 100 := by
        rw [zsm_s (x := y * p / 100) (by rw [zgI_sI, if_pos ⟨rfl, rfl⟩]) (by omega)]
        congr 1
        exact zsm_congr j (fun i hi => by rw [zgI_sI, if_neg (by omega)])
      refine ⟨c1, m1, ?_, ?_, r3, r4⟩
      · unfold fX6_changeOdds_47
        rw [c_hund h, zbd2_s, esl, ep, pk_mul, show (100 : Int32) = nI 100 from rfl, zdivN hb2 (by decide) (by decide), zbd_s, zst (i := j) (by omega) (by omega), zbd_s, zld (i := j) (by omega) (by omega), zbd_s, zgI_sI, if_pos ⟨rfl, rfl⟩, zbd_s, zbd_s, nI_add, nI_1, ← es]
        exact r1
      · unfold fX8_tests_133
        rw [m_hund, zbd2_s, esl, ep, pk_mul, show (100 : Int32) = nI 100 from rfl, zdivN hb2 (by decide) (by decide), zbd_s, m_put4 (by omega), zbd_s, zbd_s, nI_1]
        exact r2
    by_cases hq : zt (zgI m 1 (14 + 5 * j)) (zgI m 1 (17 + 5 * j)) (nI s) (zgI m 1 (15 + 5 * j)) (nI x) = l3
    · rw [if_pos hq, if_pos hq]; exact key 1
    · rw [if_neg hq, if_neg hq]; exact key 0
theorem w_pick {b n : Nat} {c0 m0 c m : zz_W} (h : zWal b n c0 m0 c m) : ∀ d j k k' y, j + d = n → d < k → d < k' → y + zsm (zgI m 1) 16 j < zsm (zgI m 1) 16 n →
    ∃ r, r < n ∧ fX6_chooseTrue_41 b k (nI y) (nI j) c = some (zsI c b 10 (nI r)) ∧ fX8_builds_13 k' (nI y) (nI j) m = some (zsI m 1 12 (nI r)) := by
  have hn10 := h.hn
  have hle := zsm2_le h (Nat.le_refl n)
  intro d
  induction d with
  | zero => intro j k k' y hj hk hk' hy; rw [show j = n by omega] at hy; omega
  | succ d ih =>
    intro j k k' y hj hk hk' hy
    obtain ⟨k, rfl⟩ : ∃ x, k = x + 1 := ⟨k - 1, by omega⟩
    obtain ⟨k', rfl⟩ : ∃ x, k' = x + 1 := ⟨k' - 1, by omega⟩
    obtain ⟨x, hx1, hx, e⟩ := h.rl j (by omega)
    have es := zsm_s e (by omega)
    rw [fX6_chooseTrue_41, zbd_s, h.cn, if_neg (nI_ge (by omega) (by omega)), zld (i := j) (by omega) (by omega), zbd_s, h.cl j (by omega), e, zbd_s]
    rw [fX8_builds_13, m_of2 (by omega), zbd2_s, e]
    by_cases hxy : y < x
    · have h1 : ¬ 0 ≤ nI y - nI x := by
        have := pk_sneg (a := y) (b := x) (by omega) hxy
        rw [Int32.lt_iff_toInt_lt] at this
        rw [Int32.le_iff_toInt_le]
        omega
      rw [if_neg h1, if_pos (nI_lt hxy (by omega)), m_t12]
      exact ⟨j, by omega, rfl, rfl⟩
    · rw [pk_sub (by omega), if_pos (nI_pos' (by omega)), if_neg (nI_nlt (by omega) (by omega)), m_of2 (by omega), zbd2_s, e, pk_sub (by omega), zbd_s, zbd_s, zbd_s, nI_1]
      exact ih (j + 1) k k' (y - x) (by omega) (by omega) (by omega) (by omega)
theorem c_sumL {b n : Nat} {c0 m0 c m : zz_W} (h : zWal b n c0 m0 c m) : ∀ d j k, j + d = n → d < k → fX6_chooseTrue_4 b k (nI (zsm (zgI m 1) 16 j)) (nI j) c =
    if 0 < nI (zsm (zgI m 1) 16 n) then zbd2 (fX6_draw b c) fun x27 w28 => zbd (zrem x27 (nI (zsm (zgI m 1) 16 n))) fun x29 => fX6_chooseTrue_41 b zfuel x29 0 w28 else some c := by
  have hn10 := h.hn
  intro d
  induction d with
  | zero =>
    intro j k hj hk
    obtain ⟨k, rfl⟩ : ∃ x, k = x + 1 := ⟨k - 1, by omega⟩
    rw [fX6_chooseTrue_4, zbd_s, h.cn, if_pos (nI_le (by omega) (by omega)), show j = n by omega]
  | succ d ih =>
    intro j k hj hk
    obtain ⟨k, rfl⟩ : ∃ x, k = x + 1 := ⟨k - 1, by omega⟩
    obtain ⟨x, hx1, hx, e⟩ := h.rl j (by omega)
    rw [fX6_chooseTrue_4, zbd_s, h.cn, if_neg (nI_ge (by omega) (by omega)), zld (i := j) (by omega) (by omega), zbd_s, h.cl j (by omega), e, zbd_s, zbd_s, nI_add, nI_1, ← zsm_s e (by omega)]
    exact ih (j + 1) k (by omega) (by omega)
def zWP (b n : Nat) (c0 m0 c m : zz_W) : Prop := zWal b n c0 m0 c m ∧ zPos n m
theorem w_draw {b n : Nat} {c0 m0 c m : zz_W} (h : zWP b n c0 m0 c m) : ∃ x, x < 2 ^ 24 ∧ fX6_draw b c = some (nI x, zsI c b 14 (zzv m)) ∧ fX8_draw m = some (nI x, zsI m 1 0 (zzv m)) ∧ zWP b n c0 m0 (zsI c b 14 (zzv m)) (zsI m 1 0 (zzv m)) := by
  obtain ⟨x, hx, e⟩ := zdw_nI (zzv m)
  exact ⟨x, hx, by rw [c_draw h.1, e], by rw [m_draw, e], zWal_z h.1 _, zPos_of h.2 (fun r hr => by rw [zgI_sI, if_neg (by omega)])⟩
theorem w_build {b n : Nat} {c0 m0 c m : zz_W} (h : zWP b n c0 m0 c m) (hn : 0 < n) : ∃ c1 m1, fX6_chooseTrue b c = some c1 ∧ fX8_builds m = some m1 ∧ zWP b n c0 m0 c1 m1 := by
  have hn10 := h.1.hn
  have hf := zfuel_big
  have hle := zsm2_le h.1 (Nat.le_refl n)
  obtain ⟨x0, h01, h02, e0⟩ := h.1.rl 0 hn
  have hS : 0 < zsm (zgI m 1) 16 n := by
    have := zsm_ge (g := zgI m 1) (f := 16) n 0 hn
    rw [e0, nI_clamp (by omega)] at this
    omega
  obtain ⟨x, hx, r1, r2, h2⟩ := w_draw h
  have eS : zsm (zgI (zsI m 1 0 (zzv m)) 1) 16 n = zsm (zgI m 1) 16 n := zsm_congr n (fun i hi => by rw [zgI_sI, if_neg (by omega)])
  have hm : x % zsm (zgI m 1) 16 n < zsm (zgI m 1) 16 n := Nat.mod_lt _ hS
  obtain ⟨r, hr, p1, p2⟩ := w_pick h2.1 n 0 zfuel zfuel (x % zsm (zgI m 1) 16 n) (by omega) (by omega) (by omega) (by rw [eS]; exact hm)
  refine ⟨_, _, ?_, ?_, zWal_t h2.1 hr, zPos_of h2.2 (fun r hr => by rw [zgI_sI, if_neg (by omega)])⟩
  · unfold fX6_chooseTrue
    have := c_sumL h.1 n 0 zfuel (by omega) (by omega)
    rw [zgrd_h _ h.1.W, show (0 : Int32) = nI (zsm (zgI m 1) 16 0) from rfl]
    refine Eq.trans this ?_
    rw [if_pos (show (0 : Int32) < _ from nI_lt hS (by omega)), r1, zbd2_s, zremN (by omega) hS (by omega), zbd_s]
    exact p1
  · unfold fX8_builds
    rw [r2, zbd2_s, m_sumL h2.1, zbd2_s, eS, zremN (by omega) hS (by omega), zbd_s]
    exact p2
