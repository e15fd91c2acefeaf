/-! ===== keep, back ===== -/
theorem zAll_ok {b : Nat} {c m : zz_W} (h : zAll b c m) : zokR c (b + 8) 0 14 = true := by
  obtain ⟨n, _, _, _, t, key, _, _, _, a4, _⟩ := h
  exact a4
theorem s_keep : zSIM fX7_keep fX8_keep := by
  intro c m h
  obtain ⟨n, hw, hp⟩ := zR1 h
  obtain ⟨a, r1, r2, r3, r4, r5, r6⟩ := id h
  obtain ⟨c1, e0, e1, e2, e3, e4, e5, e6, e7, e8, e9, e10⟩ := c_take (b := 11) (a := 1) (by decide) (by decide) (by omega) (zAll_ok a)
  obtain ⟨m1, f0, f1, f2, f3⟩ := m_copyAll (a1 := 1) (a2 := 2) (by decide) (by decide) (by decide) m
  unfold fX7_keep fX8_keep
  rw [e0, f0]
  simp only [zbd_e, m_l1]
  have g9 : zgI (zsI c1 0 8 1) 1 9 = nI n := by rw [zgI_sI, if_neg (by omega), e7 _ _ (by omega)]; exact hw.cn
  have g1 : zgI (zsI m1 0 3 1) 1 1 = nI n := by rw [zgI_sI, if_neg (by omega), f2 _ _ (by omega)]; exact hw.mn
  rw [g9, g1]
  have gc : ∀ x i, ¬ (11 ≤ x ∧ x ≤ 20) → ¬ (x = 0 ∧ i = 8) → zgI (zsI c1 0 8 1) x i = zgI c x i := fun x i h1 h2 => by rw [zgI_sI, if_neg (by omega)]; exact e7 x i (by omega)
  have gi : ∀ x i, 11 ≤ x → zgI (zsI c1 0 8 1) x i = zgI c1 x i := fun x i h1 => by rw [zgI_sI, if_neg (by omega)]
  have gm : ∀ x i, ¬ x = 2 → ¬ (x = 0 ∧ i = 3) → zgI (zsI m1 0 3 1) x i = zgI m x i := fun x i h1 h2 => by rw [zgI_sI, if_neg (by omega)]; exact f2 x i (by omega)
  refine ⟨_, _, _, rfl, rfl, zAll_keep a (fun x i hx => gc x i (by omega) (by omega)) (fun i => e8 7 i (by omega)) (fun i => e9 9 i (by omega)) e10 (fun i => gm 1 i (by omega) (by omega)), ⟨?_, Or.inr ⟨?_, ?_⟩⟩,
    zTape_keep r2 (gc _ _ (by omega) (by omega)) (fun i => gc _ _ (by omega) (by omega)) (gm _ _ (by omega) (by omega)) (fun i => gm _ _ (by omega) (by omega)),
    zSheets_keep r3 (fun a i _ _ => gc _ _ (by omega) (by omega)) (fun a i _ _ => gm _ _ (by omega) (by omega)), zSlots_keep r4 (fun a i _ _ => gc _ _ (by omega) (by omega)) (fun a i _ _ => gm _ _ (by omega) (by omega)),
    zWaits_keep r5 (gc _ _ (by omega) (by omega)) (fun i => gc _ _ (by omega) (by omega)) (gm _ _ (by omega) (by omega)) (fun i => gm _ _ (by omega) (by omega)), zKeys_keep r6 (fun a i _ _ => gm _ _ (by omega) (by omega)) (fun q => ⟨zokR_keep (zAll_ok a) e10 (fun i hi => e5 i hi), zokR_keep q.2 e10 (fun i _ => e9 29 i (by omega))⟩)⟩
  · rw [zgI_sI, if_pos ⟨rfl, rfl⟩, zgI_sI, if_pos ⟨rfl, rfl⟩]
  · rw [zgI_sI, if_pos ⟨rfl, rfl⟩]
  · refine zAll_move a (by decide) (fun i p q => (gi _ _ (by omega)).trans (e1 i p q)) (fun i p => (gi _ _ (by omega)).trans (e2 1 i (by omega) (by omega) p)) (fun i p => (gi _ _ (by omega)).trans (e2 2 i (by omega) (by omega) p)) (fun i p => (gi _ _ (by omega)).trans (e2 3 i (by omega) (by omega) p)) (fun i p => (gi _ _ (by omega)).trans (e2 4 i (by omega) (by omega) p)) (fun i p => (gi _ _ (by omega)).trans (e2 5 i (by omega) (by omega) p))
      (fun i p => e3 i p) (fun i p => (gi _ _ (by omega)).trans (e4 i p)) (fun i p => e5 i p) (fun i p => (gi _ _ (by omega)).trans (e6 i p)) e10 (fun x i p q => gc x i (by omega) (by omega)) (fun i p => ?_)
    rw [zIm_1, zgI_sI, if_neg (by omega)]
    exact f1 i p
theorem s_back : zSIM fX7_back fX8_back := by
  intro c m h
  obtain ⟨a, ⟨i1, i2⟩, r2, r3, r4, r5, r6⟩ := id h
  unfold fX7_back fX8_back
  rw [zbd_s, zbd_s, i1]
  rcases i2 with i2 | ⟨i2, i3⟩
  · rw [i2, if_pos rfl, if_pos rfl]; exact zret _ h
  · rw [i2, if_neg z10, if_neg z10]
    obtain ⟨c1, e0, e1, e2, e3, e4, e5, e6, e7, e8, e9, e10⟩ := c_take (b := 1) (a := 11) (by decide) (by decide) (by omega) (zAll_ok i3)
    obtain ⟨m1, f0, f1, f2, f3⟩ := m_copyAll (a1 := 2) (a2 := 1) (by decide) (by decide) (by decide) m
    rw [e0, f0]
    simp only [zbd_e, m_l1]
    have all : zAll 1 c1 m1 := zAll_move i3 (by decide) e1 (fun i p => e2 1 i (by omega) (by omega) p) (fun i p => e2 2 i (by omega) (by omega) p) (fun i p => e2 3 i (by omega) (by omega) p) (fun i p => e2 4 i (by omega) (by omega) p) (fun i p => e2 5 i (by omega) (by omega) p) e3 e4 e5 e6 e10 (fun x i p q => e7 x i (by omega)) (fun i p => by rw [zIm_1]; exact f1 i p)
    obtain ⟨n, hw, _⟩ := id all
    rw [hw.cn, hw.mn]
    have gc : ∀ x i, ¬ (1 ≤ x ∧ x ≤ 10) → zgI c1 x i = zgI c x i := fun x i hx => e7 x i (by omega)
    have gm : ∀ x i, ¬ x = 1 → zgI m1 x i = zgI m x i := fun x i hx => f2 x i (by omega)
    exact ⟨_, _, _, rfl, rfl, all, zRest_keep h.2 ⟨fun x i hx => gc x i (by omega), fun i => e8 17 i (by omega), fun i => e9 19 i (by omega), e10⟩ (fun x i hx => gm x i (by omega)) (fun q => zok2_k q e10 (fun i => e9 19 i (by omega)) (fun i => e9 29 i (by omega)))⟩
