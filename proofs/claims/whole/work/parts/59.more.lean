/-! ===== a run more ===== -/
theorem zWal_add {b n : Nat} {c0 m0 c m : zz_W} (h : zWal b n c0 m0 c m) (hn9 : n < 10) {k q l d : Nat} (hk : k < 6) (hq : q < 36) (hl1 : 1 ≤ l) (hl : l ≤ 99) (hd1 : 1 ≤ d) (hd : d ≤ 9) : zWal b (n + 1) c0 m0 (zsI (zsL (zsI (zsI (zsI (zsI (zsI c (b + 3) n (nI l)) (b + 4) n (nI d)) (b + 5) n (nI (1000 * l))) (b + 1) n (nI k)) (b + 2) n (nI q)) (b + 6) n (zways (nI k) (nI q))) b 9 (nI (n + 1))) (zsI (zsI (zsI (zsI (zsI (zsI m 1 1 (nI (n + 1))) 1 (14 + 5 * n) (nI k)) 1 (15 + 5 * n) (nI q)) 1 (16 + 5 * n) (nI l)) 1 (17 + 5 * n) (nI d)) 1 (18 + 5 * n) (nI (1000 * l))) := by
  unfold zWal
  refine ⟨?_, ?_, ?_, ?_, ?_, ?_, ?_, ?_, ?_, ?_, ?_, ?_, ?_, ?_, ?_, ?_, ?_, ?_, ?_, ?_, ?_, ?_, ?_, ?_, ?_, ?_, ?_, ?_, ?_, ?_⟩
  · exact h.W
  · omega
  · (repeat first | rw [zgI_sL] | rw [zgI_sI, if_neg (by omega)] | rw [zgI_sI, if_pos (by omega)] | rw [zgL_sI] | rw [zgL_sL, if_neg (by omega)] | rw [zgL_sL, if_pos (by omega)]); exact h.cz
  · (repeat first | rw [zgI_sL] | rw [zgI_sI, if_neg (by omega)] | rw [zgI_sI, if_pos (by omega)] | rw [zgL_sI] | rw [zgL_sL, if_neg (by omega)] | rw [zgL_sL, if_pos (by omega)])
  · (repeat first | rw [zgI_sL] | rw [zgI_sI, if_neg (by omega)] | rw [zgI_sI, if_pos (by omega)] | rw [zgL_sI] | rw [zgL_sL, if_neg (by omega)] | rw [zgL_sL, if_pos (by omega)])
  · (repeat first | rw [zgI_sL] | rw [zgI_sI, if_neg (by omega)] | rw [zgI_sI, if_pos (by omega)] | rw [zgL_sI] | rw [zgL_sL, if_neg (by omega)] | rw [zgL_sL, if_pos (by omega)]); exact h.cs
  · (repeat first | rw [zgI_sL] | rw [zgI_sI, if_neg (by omega)] | rw [zgI_sI, if_pos (by omega)] | rw [zgL_sI] | rw [zgL_sL, if_neg (by omega)] | rw [zgL_sL, if_pos (by omega)]); exact h.cp
  · (repeat first | rw [zgI_sL] | rw [zgI_sI, if_neg (by omega)] | rw [zgI_sI, if_pos (by omega)] | rw [zgL_sI] | rw [zgL_sL, if_neg (by omega)] | rw [zgL_sL, if_pos (by omega)]); exact h.cm
  · intro r hr; have e := h.ct r hr; (repeat first | rw [zgI_sL] | rw [zgI_sI, if_neg (by omega)] | rw [zgI_sI, if_pos (by omega)] | rw [zgL_sI] | rw [zgL_sL, if_neg (by omega)] | rw [zgL_sL, if_pos (by omega)]); exact e
  · (repeat first | rw [zgI_sL] | rw [zgI_sI, if_neg (by omega)] | rw [zgI_sI, if_pos (by omega)] | rw [zgL_sI] | rw [zgL_sL, if_neg (by omega)] | rw [zgL_sL, if_pos (by omega)]); exact h.ctr
  · rcases h.tr with e | ⟨r, hr, e⟩
    · left; (repeat first | rw [zgI_sL] | rw [zgI_sI, if_neg (by omega)] | rw [zgI_sI, if_pos (by omega)] | rw [zgL_sI] | rw [zgL_sL, if_neg (by omega)] | rw [zgL_sL, if_pos (by omega)]); exact e
    · right; refine ⟨r, by omega, ?_⟩; (repeat first | rw [zgI_sL] | rw [zgI_sI, if_neg (by omega)] | rw [zgI_sI, if_pos (by omega)] | rw [zgL_sI] | rw [zgL_sL, if_neg (by omega)] | rw [zgL_sL, if_pos (by omega)]); exact e
  · obtain ⟨s, hs, e⟩ := h.sl; refine ⟨s, hs, ?_⟩; (repeat first | rw [zgI_sL] | rw [zgI_sI, if_neg (by omega)] | rw [zgI_sI, if_pos (by omega)] | rw [zgL_sI] | rw [zgL_sL, if_neg (by omega)] | rw [zgL_sL, if_pos (by omega)]); exact e
  · intro r hr; by_cases z : r = n
    · subst z; (repeat first | rw [zgI_sL] | rw [zgI_sI, if_neg (by omega)] | rw [zgI_sI, if_pos (by omega)] | rw [zgL_sI] | rw [zgL_sL, if_neg (by omega)] | rw [zgL_sL, if_pos (by omega)])
    · have e := h.ck r (by omega); (repeat first | rw [zgI_sL] | rw [zgI_sI, if_neg (by omega)] | rw [zgI_sI, if_pos (by omega)] | rw [zgL_sI] | rw [zgL_sL, if_neg (by omega)] | rw [zgL_sL, if_pos (by omega)]); exact e
  · intro r hr; by_cases z : r = n
    · subst z; (repeat first | rw [zgI_sL] | rw [zgI_sI, if_neg (by omega)] | rw [zgI_sI, if_pos (by omega)] | rw [zgL_sI] | rw [zgL_sL, if_neg (by omega)] | rw [zgL_sL, if_pos (by omega)])
    · have e := h.cc r (by omega); (repeat first | rw [zgI_sL] | rw [zgI_sI, if_neg (by omega)] | rw [zgI_sI, if_pos (by omega)] | rw [zgL_sI] | rw [zgL_sL, if_neg (by omega)] | rw [zgL_sL, if_pos (by omega)]); exact e
  · intro r hr; by_cases z : r = n
    · subst z; (repeat first | rw [zgI_sL] | rw [zgI_sI, if_neg (by omega)] | rw [zgI_sI, if_pos (by omega)] | rw [zgL_sI] | rw [zgL_sL, if_neg (by omega)] | rw [zgL_sL, if_pos (by omega)])
    · have e := h.cl r (by omega); (repeat first | rw [zgI_sL] | rw [zgI_sI, if_neg (by omega)] | rw [zgI_sI, if_pos (by omega)] | rw [zgL_sI] | rw [zgL_sL, if_neg (by omega)] | rw [zgL_sL, if_pos (by omega)]); exact e
  · intro r hr; by_cases z : r = n
    · subst z; (repeat first | rw [zgI_sL] | rw [zgI_sI, if_neg (by omega)] | rw [zgI_sI, if_pos (by omega)] | rw [zgL_sI] | rw [zgL_sL, if_neg (by omega)] | rw [zgL_sL, if_pos (by omega)])
    · have e := h.cd r (by omega); (repeat first | rw [zgI_sL] | rw [zgI_sI, if_neg (by omega)] | rw [zgI_sI, if_pos (by omega)] | rw [zgL_sI] | rw [zgL_sL, if_neg (by omega)] | rw [zgL_sL, if_pos (by omega)]); exact e
  · intro r hr; by_cases z : r = n
    · subst z; (repeat first | rw [zgI_sL] | rw [zgI_sI, if_neg (by omega)] | rw [zgI_sI, if_pos (by omega)] | rw [zgL_sI] | rw [zgL_sL, if_neg (by omega)] | rw [zgL_sL, if_pos (by omega)])
    · have e := h.co r (by omega); (repeat first | rw [zgI_sL] | rw [zgI_sI, if_neg (by omega)] | rw [zgI_sI, if_pos (by omega)] | rw [zgL_sI] | rw [zgL_sL, if_neg (by omega)] | rw [zgL_sL, if_pos (by omega)]); exact e
  · intro r hr; by_cases z : r = n
    · subst z; (repeat first | rw [zgI_sL] | rw [zgI_sI, if_neg (by omega)] | rw [zgI_sI, if_pos (by omega)] | rw [zgL_sI] | rw [zgL_sL, if_neg (by omega)] | rw [zgL_sL, if_pos (by omega)])
    · have e := h.cw r (by omega); (repeat first | rw [zgI_sL] | rw [zgI_sI, if_neg (by omega)] | rw [zgI_sI, if_pos (by omega)] | rw [zgL_sI] | rw [zgL_sL, if_neg (by omega)] | rw [zgL_sL, if_pos (by omega)]); exact e
  · intro r hr; by_cases z : r = n
    · subst z; (repeat first | rw [zgI_sL] | rw [zgI_sI, if_neg (by omega)] | rw [zgI_sI, if_pos (by omega)] | rw [zgL_sI] | rw [zgL_sL, if_neg (by omega)] | rw [zgL_sL, if_pos (by omega)]); exact ⟨k, by omega, rfl⟩
    · have e := h.rk r (by omega); (repeat first | rw [zgI_sL] | rw [zgI_sI, if_neg (by omega)] | rw [zgI_sI, if_pos (by omega)] | rw [zgL_sI] | rw [zgL_sL, if_neg (by omega)] | rw [zgL_sL, if_pos (by omega)]); exact e
  · intro r hr; by_cases z : r = n
    · subst z; (repeat first | rw [zgI_sL] | rw [zgI_sI, if_neg (by omega)] | rw [zgI_sI, if_pos (by omega)] | rw [zgL_sI] | rw [zgL_sL, if_neg (by omega)] | rw [zgL_sL, if_pos (by omega)]); exact ⟨q, by omega, rfl⟩
    · have e := h.rc r (by omega); (repeat first | rw [zgI_sL] | rw [zgI_sI, if_neg (by omega)] | rw [zgI_sI, if_pos (by omega)] | rw [zgL_sI] | rw [zgL_sL, if_neg (by omega)] | rw [zgL_sL, if_pos (by omega)]); exact e
  · intro r hr; by_cases z : r = n
    · subst z; (repeat first | rw [zgI_sL] | rw [zgI_sI, if_neg (by omega)] | rw [zgI_sI, if_pos (by omega)] | rw [zgL_sI] | rw [zgL_sL, if_neg (by omega)] | rw [zgL_sL, if_pos (by omega)]); exact ⟨l, by omega, by omega, rfl⟩
    · have e := h.rl r (by omega); (repeat first | rw [zgI_sL] | rw [zgI_sI, if_neg (by omega)] | rw [zgI_sI, if_pos (by omega)] | rw [zgL_sI] | rw [zgL_sL, if_neg (by omega)] | rw [zgL_sL, if_pos (by omega)]); exact e
  · intro r hr; by_cases z : r = n
    · subst z; (repeat first | rw [zgI_sL] | rw [zgI_sI, if_neg (by omega)] | rw [zgI_sI, if_pos (by omega)] | rw [zgL_sI] | rw [zgL_sL, if_neg (by omega)] | rw [zgL_sL, if_pos (by omega)]); exact ⟨d, by omega, by omega, rfl⟩
    · have e := h.rd r (by omega); (repeat first | rw [zgI_sL] | rw [zgI_sI, if_neg (by omega)] | rw [zgI_sI, if_pos (by omega)] | rw [zgL_sI] | rw [zgL_sL, if_neg (by omega)] | rw [zgL_sL, if_pos (by omega)]); exact e
  · intro r hr; by_cases z : r = n
    · subst z; (repeat first | rw [zgI_sL] | rw [zgI_sI, if_neg (by omega)] | rw [zgI_sI, if_pos (by omega)] | rw [zgL_sI] | rw [zgL_sL, if_neg (by omega)] | rw [zgL_sL, if_pos (by omega)]); exact ⟨1000 * l, by omega, rfl⟩
    · have e := h.ro r (by omega); (repeat first | rw [zgI_sL] | rw [zgI_sI, if_neg (by omega)] | rw [zgI_sI, if_pos (by omega)] | rw [zgL_sI] | rw [zgL_sL, if_neg (by omega)] | rw [zgL_sL, if_pos (by omega)]); exact e
  · intro a i hr; have e := h.fc a i hr; (repeat first | rw [zgI_sL] | rw [zgI_sI, if_neg (by omega)] | rw [zgI_sI, if_pos (by omega)] | rw [zgL_sI] | rw [zgL_sL, if_neg (by omega)] | rw [zgL_sL, if_pos (by omega)]); exact e
  · intro r hr; have e := h.fb r hr; (repeat first | rw [zgI_sL] | rw [zgI_sI, if_neg (by omega)] | rw [zgI_sI, if_pos (by omega)] | rw [zgL_sI] | rw [zgL_sL, if_neg (by omega)] | rw [zgL_sL, if_pos (by omega)]); exact e
  · intro a i hr; have e := h.fl a i hr; (repeat first | rw [zgI_sL] | rw [zgI_sI, if_neg (by omega)] | rw [zgI_sI, if_pos (by omega)] | rw [zgL_sI] | rw [zgL_sL, if_neg (by omega)] | rw [zgL_sL, if_pos (by omega)]); exact e
  · exact h.fg
  · intro a i hr; have e := h.fm a i hr; (repeat first | rw [zgI_sL] | rw [zgI_sI, if_neg (by omega)] | rw [zgI_sI, if_pos (by omega)] | rw [zgL_sI] | rw [zgL_sL, if_neg (by omega)] | rw [zgL_sL, if_pos (by omega)]); exact e
  · exact h.fh
  · (repeat first | rw [zgI_sL] | rw [zgI_sI, if_neg (by omega)] | rw [zgI_sI, if_pos (by omega)] | rw [zgL_sI] | rw [zgL_sL, if_neg (by omega)] | rw [zgL_sL, if_pos (by omega)]); exact h.fz
theorem zidx (r k : Nat) : (14 : Int32) + 5 * nI r + nI k = nI (14 + 5 * r + k) := by
  rw [show (14 : Int32) = nI 14 from rfl, show (5 : Int32) = nI 5 from rfl, pk_mul, nI_add, nI_add]
theorem m_put0 {r : Nat} (hr : r < 10) (v : Int32) (m : zz_W) : fX8_put (nI r) 0 v m = some (zsI m 1 (14 + 5 * r) v) := m_put r 0 v hr (by decide) m
theorem m_put1 {r : Nat} (hr : r < 10) (v : Int32) (m : zz_W) : fX8_put (nI r) 1 v m = some (zsI m 1 (15 + 5 * r) v) := by rw [show 15 + 5 * r = 14 + 5 * r + 1 by omega]; exact m_put r 1 v hr (by decide) m
theorem m_put2 {r : Nat} (hr : r < 10) (v : Int32) (m : zz_W) : fX8_put (nI r) 2 v m = some (zsI m 1 (16 + 5 * r) v) := by rw [show 16 + 5 * r = 14 + 5 * r + 2 by omega]; exact m_put r 2 v hr (by decide) m
theorem m_put3 {r : Nat} (hr : r < 10) (v : Int32) (m : zz_W) : fX8_put (nI r) 3 v m = some (zsI m 1 (17 + 5 * r) v) := by rw [show 17 + 5 * r = 14 + 5 * r + 3 by omega]; exact m_put r 3 v hr (by decide) m
theorem w_add {b n : Nat} {c0 m0 c m : zz_W} (h : zWP b n c0 m0 c m) (hn9 : n < 10) {k q l d : Nat} (hk : k < 6) (hq : q < 36) (hl1 : 1 ≤ l) (hl : l ≤ 99) (hd1 : 1 ≤ d) (hd : d ≤ 9) :
    ∃ c1 m1, fX6_addRun b (nI k) (nI q) (nI l) (nI d) c = some c1 ∧ fX8_comes (nI k) (nI q) (nI l) (nI d) m = some (nI n, m1) ∧ zWP b (n + 1) c0 m0 c1 m1 := by
  have h2 := zWal_add h.1 hn9 hk hq hl1 hl hd1 hd
  refine ⟨_, _, ?_, ?_, h2, ?_⟩
  · unfold fX6_addRun fX6_shape
    rw [zgrd_h _ h.1.W, zbd_s, h.1.cn, if_pos (show nI n < 10 from nI_lt (b := 10) hn9 (by decide)), zbd_s, zst (i := n) (by omega) (by omega), zbd_s, zbd_s]
    rw [zgI_sI, if_neg (by omega), h.1.cn, zst (i := n) (by omega) (by omega), zbd_s, zbd_s]
    rw [zgI_sI, if_neg (by omega), zgI_sI, if_neg (by omega), h.1.cn, show (1000 : Int32) = nI 1000 from rfl, pk_mul, Nat.mul_comm l 1000, zst (i := n) (by omega) (by omega), zbd_s, zbd_s]
    rw [zgI_sI, if_neg (by omega), zgI_sI, if_neg (by omega), zgI_sI, if_neg (by omega), h.1.cn]
    rw [zgrd_h _ h.1.W, zst (i := n) (by omega) (by omega), zbd_s, zst (i := n) (by omega) (by omega), zbd_s, c_ways hk hq, zbd2_s, zstLn (i := n) (by omega) (by omega), zbd_s, zbd_s, zbd_s]
    rw [zgI_sL, zgI_sI, if_neg (by omega), zgI_sI, if_neg (by omega), zgI_sI, if_neg (by omega), zgI_sI, if_neg (by omega), zgI_sI, if_neg (by omega), h.1.cn, zbd_s, nI_1]
  · unfold fX8_comes
    rw [m_l1, zbd_s, zbd_s, m_t1, zbd_s, h.1.mn, nI_1, m_put0 hn9, zbd_s, m_put1 hn9, zbd_s, m_put2 hn9, zbd_s, m_put3 hn9, zbd_s, m_put4 hn9, zbd_s, show (1000 : Int32) = nI 1000 from rfl, pk_mul]
  · intro _
    exact ⟨n, by omega, by rw [zgI_sI, if_pos ⟨rfl, rfl⟩]; exact nI_ne0 (by omega) (by omega)⟩
theorem m_isOf1 (v : Int32) (w : zz_W) : fX8_isOf 1 v w = some (zwi v 0 35, w) := by
  unfold fX8_isOf
  rw [if_pos rfl]
  simp only [m_isCell, zbd2_e, zboo_wi, zbd_e]
theorem m_isOf2 (v : Int32) (w : zz_W) : fX8_isOf 2 v w = some (zwi v 1 99, w) := by
  unfold fX8_isOf fX8_isOf_26
  rw [if_neg (show ¬ (2 : Int32) = 1 by decide), if_pos rfl]
  simp only [m_in, zbd2_e, zboo_wi, zbd_e]
theorem m_isOf3 (v : Int32) (w : zz_W) : fX8_isOf 3 v w = some (zwi v 1 9, w) := by
  unfold fX8_isOf fX8_isOf_26
  rw [if_neg (show ¬ (3 : Int32) = 1 by decide), if_neg (show ¬ (3 : Int32) = 2 by decide)]
  simp only [m_in, zbd2_e, zboo_wi, zbd_e]
theorem s_run (a1 a2 a3 a4 : Int32) : zSIM (fX7_run a1 a2 a3 a4) (fX8_run a1 a2 a3 a4) := by
  intro c m h
  obtain ⟨n, hw, hp⟩ := zR1 h
  have hn10 := hw.hn
  unfold fX7_run fX8_run
  simp only [c_isKind, c_isCell, c_within, c_isDepth, m_in, m_isOf1, m_isOf2, m_isOf3, zbd2_e, zbd_e, m_l1, hw.cn, hw.mn]
  rcases zwi_lit a1 0 5 (by omega) (by omega) with e | ⟨e, k, _, hk, rfl⟩
  · rw [show zwi a1 0 5 = 0 from e, if_pos rfl, if_pos rfl]; exact zret _ h
  rw [show zwi (nI k) 0 5 = 1 from e, if_neg z10, if_neg z10]
  rcases zwi_lit a2 0 35 (by omega) (by omega) with e | ⟨e, q, _, hq, rfl⟩
  · rw [show zwi a2 0 35 = 0 from e, if_pos rfl, if_pos rfl]; exact zret _ h
  rw [show zwi (nI q) 0 35 = 1 from e, if_neg z10, if_neg z10]
  rcases zwi_lit a3 1 99 (by omega) (by omega) with e | ⟨e, l, hl1, hl, rfl⟩
  · rw [show zwi a3 1 99 = 0 from e, if_pos rfl, if_pos rfl]; exact zret _ h
  rw [show zwi (nI l) 1 99 = 1 from e, if_neg z10, if_neg z10]
  rcases zwi_lit a4 1 9 (by omega) (by omega) with e | ⟨e, d, hd1, hd, rfl⟩
  · rw [show zwi a4 1 9 = 0 from e, if_pos rfl, if_pos rfl]; exact zret _ h
  rw [show zwi (nI d) 1 9 = 1 from e, if_neg z10, if_neg z10]
  by_cases e10 : n = 10
  · subst e10
    rw [if_neg (show ¬ nI 10 < 10 by decide), if_pos (show nI 10 = 10 from rfl)]
    exact zret _ h
  · rw [if_pos (show nI n < 10 from nI_lt (b := 10) (by omega) (by decide)), if_neg (show ¬ nI n = 10 from fun z => e10 ((nI_eq (b := 10) (by omega) (by decide)).mp z))]
    obtain ⟨c1, m1, r1, r2, h2⟩ := w_add ⟨hw, hp⟩ (show n < 10 by omega) (show k < 6 by omega) (show q < 36 by omega) hl1 hl hd1 hd
    rw [r1, r2]
    simp only [zbd_e, zbd2_e, h2.1.cn]
    rw [nI_pred]
    exact ⟨_, _, _, rfl, rfl, zRel_wal h h2.1 h2.2⟩
theorem s_set (a1 a2 a3 : Int32) : zSIM (fX7_set a1 a2 a3) (fX8_set a1 a2 a3) := by
  intro c m h
  obtain ⟨n, hw, hp⟩ := zR1 h
  have hn10 := hw.hn
  unfold fX7_set fX8_set fX7_setCell fX7_exchange fX8_becomes
  simp only [c_isRun hw, m_isRun hw, m_in, zbd2_e, zbd_e]
  rcases zwi_run a1 n (by omega) with e0 | ⟨e0, r, hr, rfl⟩
  · rw [e0, if_pos rfl, if_pos rfl]; exact zret _ h
  rw [e0, if_neg z10, if_neg z10]
  rcases zwi_lit a2 1 3 (by omega) (by omega) with e | ⟨e, k, hk1, hk, rfl⟩
  · rw [show zwi a2 1 3 = 0 from e, if_pos rfl]
    have n1 : ¬ a2 = 1 := by intro q; subst q; exact absurd e (by decide)
    have n2 : ¬ a2 = 2 := by intro q; subst q; exact absurd e (by decide)
    have n3 : ¬ a2 = 3 := by intro q; subst q; exact absurd e (by decide)
    rw [if_neg n1, if_neg n2, if_neg n3]
    exact zret _ h
  rw [show zwi (nI k) 1 3 = 1 from e, if_neg z10, zidx]
  rcases (show k = 1 ∨ k = 2 ∨ k = 3 by omega) with rfl | rfl | rfl
  · rw [if_pos (show nI 1 = 1 from rfl), show nI 1 = 1 from rfl, m_isOf1, c_isCell, zbd2_s, zbd2_s]
    rcases zwi_lit a3 0 35 (by omega) (by omega) with e3 | ⟨e3, q, _, hq, rfl⟩
    · rw [show zwi a3 0 35 = 0 from e3, if_pos rfl, if_pos rfl, zbd2_s]; exact zret _ h
    · rw [show zwi (nI q) 0 35 = 1 from e3, if_neg z10, if_neg z10]
      obtain ⟨k, hk, ek⟩ := hw.rk r hr
      obtain ⟨c1, r1, h2⟩ := w_shape hw hr hk (show q < 36 by omega)
      rw [zsI_eq m ek] at h2
      rw [zld (i := r) (by omega) (by omega), zbd_s, zld (i := r) (by omega) (by omega), zbd_s, hw.ck r hr, hw.cc r hr, ek, r1, zbd_s, zbd2_s]
      rw [show 14 + 5 * r + 1 = 15 + 5 * r by omega, zld (i := 15 + 5 * r) (by omega) (by omega), zbd_s, zst (i := 15 + 5 * r) (by omega) (by omega), zbd_s, zbd2_s]
      exact ⟨_, _, _, rfl, rfl, zRel_wal h h2 (zPos_of hp (fun r hr => by rw [zgI_sI, if_neg (by omega)]))⟩
  · rw [if_neg (show ¬ nI 2 = 1 by decide), if_pos (show nI 2 = 2 from rfl), show nI 2 = 2 from rfl, m_isOf2, c_within, zbd2_s, zbd2_s]
    rcases zwi_lit a3 1 99 (by omega) (by omega) with e3 | ⟨e3, q, hq1, hq, rfl⟩
    · rw [show zwi a3 1 99 = 0 from e3, if_pos rfl, if_pos rfl]; exact zret _ h
    · rw [show zwi (nI q) 1 99 = 1 from e3, if_neg z10, if_neg z10]
      rw [zgrd_h _ (show zisX (1 + 3) (.inl (0, 10)) = true by decide), zld (i := r) (by omega) (by omega), zbd_s, zst (i := r) (by omega) (by omega), zbd_s, zbd2_s, hw.cl r hr]
      rw [show 14 + 5 * r + 2 = 16 + 5 * r by omega, zld (i := 16 + 5 * r) (by omega) (by omega), zbd_s, zst (i := 16 + 5 * r) (by omega) (by omega), zbd_s, zbd2_s]
      exact ⟨_, _, _, rfl, rfl, zRel_wal h (zWal_l hw hr hq1 hq) (zPos_of hp (fun r hr => by rw [zgI_sI, if_neg (by omega)]))⟩
  · rw [if_neg (show ¬ nI 3 = 1 by decide), if_neg (show ¬ nI 3 = 2 by decide), if_pos (show nI 3 = 3 from rfl), show nI 3 = 3 from rfl, m_isOf3, c_isDepth, zbd2_s, zbd2_s]
    rcases zwi_lit a3 1 9 (by omega) (by omega) with e3 | ⟨e3, q, hq1, hq, rfl⟩
    · rw [show zwi a3 1 9 = 0 from e3, if_pos rfl, if_pos rfl]; exact zret _ h
    · rw [show zwi (nI q) 1 9 = 1 from e3, if_neg z10, if_neg z10]
      rw [zgrd_h _ (show zisX (1 + 4) (.inl (0, 10)) = true by decide), zld (i := r) (by omega) (by omega), zbd_s, zst (i := r) (by omega) (by omega), zbd_s, zbd2_s, hw.cd r hr]
      rw [show 14 + 5 * r + 3 = 17 + 5 * r by omega, zld (i := 17 + 5 * r) (by omega) (by omega), zbd_s, zst (i := 17 + 5 * r) (by omega) (by omega), zbd_s, zbd2_s]
      exact ⟨_, _, _, rfl, rfl, zRel_wal h (zWal_d hw hr hq1 hq) (zPos_of hp (fun r hr => by rw [zgI_sI, if_neg (by omega)]))⟩

