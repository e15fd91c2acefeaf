/-! ===== the step: tests, the step itself, going on ===== -/
theorem zbd_e {α β : Type} (a : α) (f : α → Option β) : zbd (some a) f = f a := by unfold zbd; exact id rfl
theorem zbd2_e {α γ β : Type} (a : α) (c : γ) (f : α → γ → Option β) : zbd2 (some (a, c)) f = f a c := by unfold zbd2; exact id rfl
theorem c_isRun {b n : Nat} {c0 m0 c m : zz_W} (h : zWal b n c0 m0 c m) (v : Int32) : fX6_isRun b v c = some (zwi v 0 (nI n - 1), c) := by
  unfold fX6_isRun
  rw [zgrd_h _ h.W]
  simp only [zbd_s, c_within, zbd2_s, zboo_wi, h.cn]
theorem m_isRun {b n : Nat} {c0 m0 c m : zz_W} (h : zWal b n c0 m0 c m) (v : Int32) : fX8_isRun v m = some (zwi v 0 (nI n - 1), m) := by
  unfold fX8_isRun
  simp only [m_l1, zbd_s, m_in, zbd2_s, zboo_wi, h.mn]
theorem c_isBuilt {b n : Nat} {c0 m0 c m : zz_W} (h : zWal b n c0 m0 c m) : fX6_isBuilt b c = some (zwi (zgI m 1 12) 0 (nI n - 1), c) := by
  unfold fX6_isBuilt
  rw [zgrd_h _ h.W]
  simp only [zbd_s, c_isRun h, zbd2_s, zboo_wi, h.ctr]
/-- built or not, on both sides -/
theorem w_built {b n : Nat} {c0 m0 c m : zz_W} (h : zWal b n c0 m0 c m) : (zwi (zgI m 1 12) 0 (nI n - 1) = 0 ∧ ¬ 0 ≤ zgI m 1 12) ∨ (zwi (zgI m 1 12) 0 (nI n - 1) = 1 ∧ 0 ≤ zgI m 1 12 ∧ ∃ r, r < n ∧ zgI m 1 12 = nI r) := by
  have hn10 := h.hn
  rcases h.tr with e | ⟨r, hr, e⟩
  · left
    rw [e]
    exact ⟨by unfold zwi; rw [if_pos (by decide)], by decide⟩
  · right
    rw [e]
    refine ⟨?_, nI_pos' (by omega), r, hr, rfl⟩
    have e1 : nI n - 1 = nI (n - 1) := pk_sub (a := n) (b := 1) (by omega)
    rw [e1]
    exact zwi_yes (lo := 0) (by omega) (by omega) (by omega)
theorem zmins : ∀ s, s < 4 → (if nI s = 3 then 9 else nI s + 1) = zMINS s := by decide
theorem zt_01 (kd dp s c0 x : Int32) : s = 0 ∨ s = 1 ∨ s = 2 ∨ s = 3 → zt kd dp s c0 x = 0 ∨ zt kd dp s c0 x = 1 := by
  intro hs
  have hp := zp_01 kd c0 x
  unfold zt zt33
  rcases hs with rfl | rfl | rfl | rfl <;> simp (config := { decide := true }) only [if_true, if_false] <;> (repeat' split) <;> first | exact Or.inl rfl | exact Or.inr rfl | exact hp
theorem w_test44 {b n : Nat} {c0 m0 c m : zz_W} (h : zWal b n c0 m0 c m) (p1 p2 q1 q2 l3 : Int32) (hl : l3 = 0 ∨ l3 = 1) {s x : Nat} (hs : s < 4) (hx : x < 36) :
    ∃ c1 m1, fX6_testAt_44 b p1 p2 (nI s) (nI x) l3 c = some (l3, c1) ∧ fX8_tests_56 q1 q2 (nI s) (nI x) l3 m = some (l3, m1) ∧ zWP b n c0 m0 c1 m1 := by
  have hn10 := h.hn
  have hf := zfuel_big
  have h2 := zWal_y h (j := 3) (by decide) (zgI c (b + 7) 3 + 1)
  have h3 := zWal_y h2 (j := 5) (by decide) (zgI (zsI c (b + 7) 3 (zgI c (b + 7) 3 + 1)) (b + 7) 5 + zMINS s)
  obtain ⟨c1, m1, r1, r2, r3, r4⟩ := w_change (b := b) (n := n) (c0 := c0) (m0 := m0) (nI s) (nI x) l3 q1 q2 l3 hl hs hx n 0 zfuel zfuel _ _ (by omega) (by omega) (by omega) h3
  refine ⟨c1, m1, ?_, ?_, r3, r4⟩
  · unfold fX6_testAt_44 fX6_changeOdds
    rw [c_l3, zbd_s, c_t3, zbd_s, c_l5, zbd_s, zldFn (i := s) (by omega) (by omega), zbd_s, c_t5, zbd_s, zgrd_h _ h.W]
    have e : zsm (zgI (zsI (zsI m 1 (5 + 3) (zgI c (b + 7) 3 + 1)) 1 (5 + 5) (zgI (zsI c (b + 7) 3 (zgI c (b + 7) 3 + 1)) (b + 7) 5 + zMINS s)) 1) 18 0 = 0 := rfl
    rw [e] at r1
    rw [show (0 : Int32) = nI 0 from rfl, r1, zbd_s]
  · unfold fX8_tests_56 fX8_tests_88
    rw [m_l8, zbd_s, m_t8, zbd_s, m_l10, zbd_s]
    have e3 : zgI c (b + 7) 3 = zgI m 1 8 := h.ct 3 (by decide)
    have e5 : zgI (zsI c (b + 7) 3 (zgI c (b + 7) 3 + 1)) (b + 7) 5 = zgI (zsI m 1 8 (zgI m 1 8 + 1)) 1 10 := by
      rw [zgI_sI, if_neg (by omega), zgI_sI, if_neg (by omega)]; exact h.ct 5 (by decide)
    rw [e5, e3] at r2
    have e9 := zmins s hs
    by_cases e : nI s = 3
    · rw [if_pos e, m_t10, zbd_s, show (0 : Int32) = nI 0 from rfl]
      rw [if_pos e] at e9
      rw [e9]
      exact r2
    · rw [if_neg e, m_t10, zbd_s, show (0 : Int32) = nI 0 from rfl]
      rw [if_neg e] at e9
      rw [e9]
      exact r2
