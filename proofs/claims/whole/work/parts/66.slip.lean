/-! ===== slipped ===== -/
theorem w_share {n T s : Nat} {c m : zz_W} (h : zRel c m) (h6 : zP6 m) (hw : zWP 1 n c m c m) (hb : 0 ≤ zgI m 1 12) (hT : T ≤ 30) (hs : s ≤ 49) :
    ∃ v c1 m2 m3 x S, fX7_trueShareBehind (nI T) (nI s) c = some (Int64.toInt32 v, c1) ∧ fX8_goesOn (nI T) (zsI m 1 3 (nI s)) = some m2 ∧ (∃ r, r < 10 ∧ zgI m2 1 12 = nI r ∧ zgI m2 1 (18 + 5 * r) = x) ∧ fX8_sumOf 4 m2 = some (S, m2) ∧ zldiv (1000 * Int32.toInt64 x) (Int32.toInt64 S) = some v ∧
      fX8_putsBack m2 = some m3 ∧ zRel c1 m3 ∧ zP6 m3 ∧ zWP 1 n c1 m3 c1 m3 ∧ zgI m3 1 12 = zgI m 1 12 := by
  have hn10 := hw.1.hn
  obtain ⟨c1, u1, u2, u3, u4⟩ := w_take h hw
  have k1 := zWal_p u3.1 hs
  have k2 : zPos n (zsI m 1 3 (nI s)) := zPos_of u3.2 (fun r hr => by rw [zgI_sI, if_neg (by omega)])
  obtain ⟨c2, m2, g1, g2, h2, hf, _, hz⟩ := w_goes (T := T) ⟨k1, k2⟩ (by omega)
  have hf0 := zFr_tr (zFr_of k1) hf
  obtain ⟨m3, p1, p2, p3, p4, p5⟩ := w_puts u2 h6 u4 hf0
  have hb2 : 0 ≤ zgI m2 1 12 := hz (by rw [zgI_sI, if_neg (by omega)]; exact hb)
  rcases w_built h2.1 with ⟨_, q2⟩ | ⟨q1, _, r, hr, et⟩
  · exact absurd hb2 q2
  refine ⟨_, c2, m2, m3, _, _, ?_, g2, ⟨r, by omega, et, rfl⟩, m_sumO h2.1, m_div h2 (by omega) _, p1, p2, p3, p4, ?_⟩
  · unfold fX7_trueShareBehind
    rw [u1, zbd_s, zbd_s, g1, zbd_s, c_isBuilt h2.1, zbd2_s, q1, if_neg z10, zbd_s, h2.1.ctr, et, c_odds_at h2.1 hr, zbd_s, c_thousand h2 (by omega), zbd2_s]
  · exact p5 12
theorem w_slip {n T : Nat} (p q p' q' y : Int32) (hT : T ≤ 30) : ∀ d j k k' c m l3 l4, j + d = 50 → d < k → d < k' → zRel c m → zP6 m → zWP 1 n c m c m → 0 ≤ zgI m 1 12 →
    ∃ r c1 m1, fX7_slipped_43 p q k (nI T) y l3 l4 (nI j) c = some (r, c1) ∧ fX8_slipped_47 p' q' k' (nI T) y l3 l4 (nI j) m = some (r, m1) ∧ zRel c1 m1 := by
  intro d
  induction d with
  | zero =>
    intro j k k' c m l3 l4 hj hk hk' h h6 hw hb
    obtain ⟨k, rfl⟩ : ∃ x, k = x + 1 := ⟨k - 1, by omega⟩
    obtain ⟨k', rfl⟩ : ∃ x, k' = x + 1 := ⟨k' - 1, by omega⟩
    have hj' : j = 50 := by omega
    subst hj'
    rw [fX7_slipped_43, if_pos (show (49 : Int32) < nI 50 by decide), fX8_slipped_47, if_pos (show (50 : Int32) ≤ nI 50 by decide)]
    by_cases e : y = 0
    · rw [if_pos e, if_pos e]; exact zret _ h
    · rw [if_neg e, if_neg e]; exact zret _ h
  | succ d ih =>
    intro j k k' c m l3 l4 hj hk hk' h h6 hw hb
    obtain ⟨k, rfl⟩ : ∃ x, k = x + 1 := ⟨k - 1, by omega⟩
    obtain ⟨k', rfl⟩ : ∃ x, k' = x + 1 := ⟨k' - 1, by omega⟩
    obtain ⟨v, c1, m2, m3, x, S, r1, r2, ⟨r, hr, r3, r4⟩, r5, r6, r7, h2, h26, hw2, e12⟩ := w_share (T := T) (s := j) h h6 hw hb hT (by omega)
    have hA : ¬ (49 : Int32) < nI j := nI_nlt (a := 49) (by omega) (by omega)
    have hB : ¬ (50 : Int32) ≤ nI j := nI_ge (b := 50) (by omega) (by omega)
    rw [fX7_slipped_43, if_neg hA, r1, zbd2_s, fX8_slipped_47, if_neg hB, m_t3]
    unfold fX8_slipped_111
    simp only [zbd_e, zbd2_e, r2, m_l12, r3, m_of4 hr, r5, r4, r6, r7, nI_1]
    by_cases e : Int64.toInt32 v ≤ l4
    · rw [if_pos e, if_pos e, if_pos e]
      exact ih (j + 1) k k' c1 m3 l3 l4 (by omega) (by omega) (by omega) h2 h26 hw2 (by rw [e12]; exact hb)
    · rw [if_neg e, if_neg e, if_neg e]
      exact ih (j + 1) k k' c1 m3 (nI j) _ (by omega) (by omega) (by omega) h2 h26 hw2 (by rw [e12]; exact hb)
theorem s_slipped (a1 a2 : Int32) : zSIM (fX7_slipped a1 a2) (fX8_slipped a1 a2) := by
  intro c m h
  have hf := zfuel_big
  obtain ⟨n, hw⟩ := zR1 h
  unfold fX7_slipped fX8_slipped
  simp only [c_within, m_in, zbd2_e, zbd_e, c_isBuilt hw.1, m_l12]
  rcases zwi_lit a1 1 30 (by omega) (by omega) with e | ⟨e, T, _, hT, rfl⟩
  · rw [show zwi a1 1 30 = 0 from e, if_pos rfl, if_pos rfl]; exact zret _ h
  rw [show zwi (nI T) 1 30 = 1 from e, if_neg z10, if_neg z10]
  rcases zwi_01 a2 0 1 with e2 | e2
  · rw [e2, if_pos rfl, if_pos rfl]; exact zret _ h
  rw [e2, if_neg z10, if_neg z10]
  rcases w_built hw.1 with ⟨b1, b2⟩ | ⟨b1, b2, _⟩
  · rw [b1, if_pos rfl, if_neg b2]; exact zret _ h
  rw [b1, if_neg z10, if_pos b2]
  obtain ⟨m1, t1, t2, t3, t4⟩ := w_think h hw
  rw [t1, zbd_s]
  have e12 : zgI m1 1 12 = zgI m 1 12 := by rw [← t4.1.ctr, hw.1.ctr]
  exact w_slip _ _ _ _ a2 hT 50 0 zfuel zfuel c m1 0 (-1) (by omega) (by omega) (by omega) t2 t3 t4 (by rw [e12]; exact b2)
