theorem w_test {b n : Nat} {c0 m0 c m : zz_W} (h : zWP b n c0 m0 c m) (ht : ∃ r, r < n ∧ zgI m 1 12 = nI r) {s x : Nat} (hs : s < 4) (hx : x < 36) :
    ∃ y c1 m1, fX6_testAt b (nI s) (nI x) c = some (y, c1) ∧ fX8_tests (nI s) (nI x) m = some (y, m1) ∧ zWP b n c0 m0 c1 m1 ∧ (y = 0 ∨ y = 1) := by
  have hn10 := h.1.hn
  obtain ⟨r, hr, et⟩ := ht
  have hb := zt_01 (zgI m 1 (14 + 5 * r)) (zgI m 1 (17 + 5 * r)) (nI s) (zgI m 1 (15 + 5 * r)) (nI x) (by
    rcases (show s = 0 ∨ s = 1 ∨ s = 2 ∨ s = 3 by omega) with rfl | rfl | rfl | rfl
    · exact Or.inl rfl
    · exact Or.inr (Or.inl rfl)
    · exact Or.inr (Or.inr (Or.inl rfl))
    · exact Or.inr (Or.inr (Or.inr rfl)))
  unfold fX6_testAt fX8_tests
  rw [zgrd_h _ h.1.W, zbd_s, h.1.ctr, et, c_tell h.1 hr hs hx, zbd2_s, m_l12, zbd_s, et, m_tell (by omega), zbd2_s]
  generalize zt (zgI m 1 (14 + 5 * r)) (zgI m 1 (17 + 5 * r)) (nI s) (zgI m 1 (15 + 5 * r)) (nI x) = y at hb ⊢
  by_cases e3 : nI s = 3
  · rw [if_pos e3, if_pos e3]
    obtain ⟨c1, m1, q1, q2, q3⟩ := w_test44 h.1 _ _ _ _ y hb hs hx
    exact ⟨y, c1, m1, q1, q2, q3, hb⟩
  · rw [if_neg e3, if_neg e3]
    obtain ⟨z, hz, r1, r2, h2⟩ := w_draw h
    rw [r1, r2, zbd2_s, zbd2_s, show (100 : Int32) = nI 100 from rfl, zremN (by omega) (by decide) (by decide)]
    simp only [zbd_e, m_l3, h2.1.cp]
    by_cases e4 : zgI (zsI m 1 0 (zzv m)) 1 3 ≤ nI (z % 100)
    · rw [if_pos e4, if_pos e4]
      obtain ⟨c1, m1, q1, q2, q3⟩ := w_test44 h2.1 _ _ _ _ y hb hs hx
      exact ⟨y, c1, m1, q1, q2, q3, hb⟩
    · rw [if_neg e4, if_neg e4]
      have h3 := zWal_y h2.1 (j := 4) (by decide) (zgI (zsI c b 14 (zzv m)) (b + 7) 4 + 1)
      have e5 : zgI (zsI c b 14 (zzv m)) (b + 7) 4 = zgI (zsI m 1 0 (zzv m)) 1 9 := h2.1.ct 4 (by decide)
      unfold fX8_tests_44
      simp only [c_l4, zbd_e, c_t4, m_l9, m_t9]
      rw [e5] at h3 ⊢
      rcases hb with rfl | rfl
      · rw [if_pos rfl, show (1 : Int32) - 0 = 1 by decide]
        obtain ⟨c1, m1, q1, q2, q3⟩ := w_test44 h3 _ _ _ _ 1 (Or.inr rfl) hs hx
        exact ⟨1, c1, m1, q1, q2, q3, (Or.inr rfl)⟩
      · rw [if_neg z10, show (1 : Int32) - 1 = 0 by decide]
        obtain ⟨c1, m1, q1, q2, q3⟩ := w_test44 h3 _ _ _ _ 0 (Or.inl rfl) hs hx
        exact ⟨0, c1, m1, q1, q2, q3, (Or.inl rfl)⟩
theorem w_step {b n : Nat} {c0 m0 c m : zz_W} (h0 : zWP b n c0 m0 c m) : ∃ c1 m1, fX6_takeStep b c = some c1 ∧ fX8_step m = some m1 ∧ zWP b n c1 m1 c1 m1 ∧ zFr b c m c1 m1 ∧ zgI m1 1 2 = zgI m 1 2 + 1 ∧ (0 ≤ zgI m 1 12 → 0 ≤ zgI m1 1 12) := by
  have hn10 := h0.1.hn
  have h : zWP b n c m c m := ⟨zWal_move h0.1 h0.1.W (fun _ _ _ => rfl) (fun _ _ => rfl) (fun _ _ => rfl) (fun _ _ => rfl) (fun _ _ => rfl) (fun _ _ => rfl) (fun _ _ => rfl) (fun _ _ => rfl) (fun _ _ => rfl), h0.2⟩
  have fin : ∀ c' m', zWP b n c m c' m' → ∃ c1 m1, fX6_takeStep_41 b c' = some c1 ∧ fX8_step_46 m' = some m1 ∧ zWP b n c1 m1 c1 m1 ∧ zFr b c m c1 m1 ∧ zgI m1 1 2 = zgI m 1 2 + 1 ∧ (0 ≤ zgI m 1 12 → 0 ≤ zgI m1 1 12) := by
    intro c' m' h
    have e2 : zgI m' 1 2 = zgI m 1 2 := h.1.fm 1 2 (by omega)
    have hf := zFr_of h.1
    refine ⟨zsI c' b 13 (zgI m' 1 2 + 1), zsI m' 1 2 (zgI m' 1 2 + 1), ?_, ?_, ⟨zWal_s h.1 _, zPos_of h.2 (fun r hr => by rw [zgI_sI, if_neg (by omega)])⟩, ?_, ?_, ?_⟩
    · unfold fX6_takeStep_41
      rw [zbd_s, zbd_s, h.1.cs]
    · unfold fX8_step_46
      rw [m_l2, zbd_s, m_t2, zbd_s]
    · obtain ⟨f1, f2, f3, f4, f5, f6⟩ := hf
      refine ⟨fun a i hh => ?_, ?_, f3, f4, fun a i hh => ?_, f6⟩
      · rw [zgI_sI, if_neg (by omega)]; exact f1 a i hh
      · rw [zgI_sI, if_neg (by omega)]; exact f2
      · rw [zgI_sI, if_neg (by omega)]; exact f5 a i hh
    · rw [zgI_sI, if_pos ⟨rfl, rfl⟩, e2]
    · rw [zgI_sI, if_neg (by omega)]; exact h.1.fz
  unfold fX6_takeStep fX8_step
  rw [zgrd_h _ h.1.W, zbd_s, h.1.cn, m_l1, zbd_s, h.1.mn]
  by_cases hn : n = 0
  · subst hn
    rw [if_pos (show nI 0 ≤ 0 by decide), if_pos (show nI 0 ≤ 0 by decide)]
    exact fin c m h
  · rw [if_neg (nI_nle (by omega) (by omega)), if_neg (nI_nle (by omega) (by omega)), c_isBuilt h.1, zbd2_s, m_l12, zbd_s]
    rcases w_built h.1 with ⟨e1, e2⟩ | ⟨e1, e2, ht⟩
    · rw [e1, if_pos rfl, if_neg e2]
      obtain ⟨c1, m1, r1, r2, h2⟩ := w_build h (by omega)
      rw [r1, r2, zbd_s, zbd_s]
      exact fin c1 m1 h2
    · rw [e1, if_neg z10, if_pos e2]
      obtain ⟨x, hx, r1, r2, h2⟩ := w_draw h
      obtain ⟨y, hy, s1, s2, h3⟩ := w_draw h2
      rw [r1, r2, zbd2_s, zbd2_s, show (4 : Int32) = nI 4 from rfl, zremN (by omega) (by decide) (by decide), zbd_s, zbd_s, s1, s2, zbd2_s, zbd2_s, show (36 : Int32) = nI 36 from rfl, zremN (by omega) (by decide) (by decide), zbd_s, zbd_s]
      obtain ⟨v, c1, m1, t1, t2, h4, _⟩ := w_test (s := x % 4) (x := y % 36) h3 (by
        obtain ⟨r, hr, e⟩ := ht
        exact ⟨r, hr, by rw [zgI_sI, if_neg (by omega), zgI_sI, if_neg (by omega), e]⟩) (by omega) (by omega)
      rw [t1, t2, zbd2_s, zbd2_s]
      exact fin c1 m1 h4
theorem w_goOn {b n : Nat} (p q : Int32) {T : Nat} (hT : T < 2 ^ 31) : ∀ d j k k' c0 m0 c m, j + d = T → d < k → d < k' → zWP b n c0 m0 c m → ∃ c1 m1, fX6_goOn_2 b p k (nI T) (nI j) c = some c1 ∧ fX8_goesOn_2 q k' (nI T) (nI j) m = some m1 ∧ zWP b n c1 m1 c1 m1 ∧ zFr b c m c1 m1 ∧ zgI m1 1 2 = zgI m 1 2 + nI d ∧ (0 ≤ zgI m 1 12 → 0 ≤ zgI m1 1 12) := by
  intro d
  induction d with
  | zero =>
    intro j k k' c0 m0 c m hj hk hk' h
    obtain ⟨k, rfl⟩ : ∃ x, k = x + 1 := ⟨k - 1, by omega⟩
    obtain ⟨k', rfl⟩ : ∃ x, k' = x + 1 := ⟨k' - 1, by omega⟩
    exact ⟨c, m, by rw [fX6_goOn_2, if_pos (nI_le (by omega) (by omega))], by rw [fX8_goesOn_2, if_pos (nI_le (by omega) (by omega))], ⟨zWal_move h.1 h.1.W (fun _ _ _ => rfl) (fun _ _ => rfl) (fun _ _ => rfl) (fun _ _ => rfl) (fun _ _ => rfl) (fun _ _ => rfl) (fun _ _ => rfl) (fun _ _ => rfl) (fun _ _ => rfl), h.2⟩, zFr_rfl _ _ _, by rw [show nI 0 = 0 from rfl, Int32.add_zero], id⟩
  | succ d ih =>
    intro j k k' c0 m0 c m hj hk hk' h
    obtain ⟨k, rfl⟩ : ∃ x, k = x + 1 := ⟨k - 1, by omega⟩
    obtain ⟨k', rfl⟩ : ∃ x, k' = x + 1 := ⟨k' - 1, by omega⟩
    obtain ⟨c1, m1, r1, r2, h2, f2, e2, z2⟩ := w_step h
    obtain ⟨c3, m3, r3, r4, h3, f3, e3, z3⟩ := ih (j + 1) k k' c1 m1 c1 m1 (by omega) (by omega) (by omega) h2
    refine ⟨c3, m3, ?_, ?_, h3, zFr_tr f2 f3, ?_, fun z => z3 (z2 z)⟩
    · rw [fX6_goOn_2, if_neg (nI_ge (by omega) (by omega)), r1, zbd_s, zbd_s, nI_1]; exact r3
    · rw [fX8_goesOn_2, if_neg (nI_ge (by omega) (by omega)), r2, zbd_s, zbd_s, nI_1]; exact r4
    · rw [e3, e2, Int32.add_assoc, Nat.add_comm d 1, ← nI_add 1 d]; rfl
theorem w_goes {b n : Nat} {c0 m0 c m : zz_W} (h : zWP b n c0 m0 c m) {T : Nat} (hT : T ≤ 100) : ∃ c1 m1, fX6_goOn b (nI T) c = some c1 ∧ fX8_goesOn (nI T) m = some m1 ∧ zWP b n c1 m1 c1 m1 ∧ zFr b c m c1 m1 ∧ zgI m1 1 2 = zgI m 1 2 + nI T ∧ (0 ≤ zgI m 1 12 → 0 ≤ zgI m1 1 12) := by
  have hf := zfuel_big
  unfold fX6_goOn fX8_goesOn
  rw [zgrd_h _ h.1.W]
  exact w_goOn _ _ (by omega) T 0 zfuel zfuel c0 m0 c m (by omega) (by omega) (by omega) h
