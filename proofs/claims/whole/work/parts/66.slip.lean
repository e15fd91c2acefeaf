/-! ===== slipped ===== -/
theorem w_share {n T s : Nat} {c m : zz_W} (h : zRel c m) (h6 : zP6 m) (hw : zWP 1 n c m c m) (hb : 0 ≤ zgI m 1 12) (hT : T ≤ 30) (hs : s ≤ 49) :
    ∃ v c1 m2 m3 x S, fX7_trueShareBehind (nI T) (nI s) c = some (Int64.toInt32 v, c1) ∧ fX8_goesOn (nI T) (zsI m 1 3 (nI s)) = some m2 ∧ (∃ r, r < 10 ∧ zgI m2 1 12 = nI r ∧ zgI m2 1 (18 + 5 * r) = x) ∧ fX8_sumOf 4 m2 = some (S, m2) ∧ zldiv (1000 * Int32.toInt64 x) (Int32.toInt64 S) = some v ∧
      fX8_putsBack m2 = some m3 ∧ zRel c1 m3 ∧ zP6 m3 ∧ zWP 1 n c1 m3 c1 m3 ∧ zgI m3 1 12 = zgI m 1 12 := by
  have hn10 := hw.1.hn
  obtain ⟨c1, u1, u2, u3, u4⟩ := w_take h hw
  have k1 := zWal_p u3.1 hs
  have k2 : zPos n (zsI m 1 3 (nI s)) := zPos_of u3.2 (fun r hr => by rw [zgI_sI, if_neg (by omega)])
  obtain ⟨c2, m2, g1, g2, h2, hf, _, hz⟩ := w_goes (T := T) ⟨k1, k2⟩ (by omega)
  have hf0 := zFr_tr (zFr_of k1) hf
  obtain ⟨m3, p1, p2, p3, p4⟩ := w_puts u2 h6 u4 hf0
  have hb2 : 0 ≤ zgI m2 1 12 := hz (by rw [zgI_sI, if_neg (by omega)]; exact hb)
  rcases w_built h2.1 with ⟨_, q2⟩ | ⟨q1, _, r, hr, et⟩
  · exact absurd hb2 q2
  refine ⟨_, c2, m2, m3, _, _, ?_, g2, ⟨r, by omega, et, rfl⟩, m_sumO h2.1, m_div h2 (by omega) _, p1, p2, p3, p4, ?_⟩
  · unfold fX7_trueShareBehind
    rw [u1, zbd_s, zbd_s, g1, zbd_s, c_isBuilt h2.1, zbd2_s, q1, if_neg z10, zbd_s, h2.1.ctr, et, c_odds_at h2.1 hr, zbd_s, c_thousand h2 (by omega), zbd2_s]
  · have e1 := p4.1.ctr
    have e2 := hw.1.ctr
    sorry
