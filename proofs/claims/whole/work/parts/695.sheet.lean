/-! ===== sheets ===== -/
theorem zisS4 : ∀ i, i < 4 → zisS (42 + 2 * i) = true := by decide
theorem zRel_mark {c m : zz_W} (h : zRel c m) {i j : Nat} (hi : i < 4) (hj : j < 24) (v : Int32) : zRel (zsI c (43 + 2 * i) j v) (zsI m 17 (24 * i + j) v) := by
  obtain ⟨a, r1, r2, r3, r4, r5, r6⟩ := h
  have gc : ∀ x y, ¬ x = 43 + 2 * i → zgI (zsI c (43 + 2 * i) j v) x y = zgI c x y := fun x y hx => by rw [zgI_sI, if_neg (by omega)]
  have gm : ∀ x y, ¬ x = 17 → zgI (zsI m 17 (24 * i + j) v) x y = zgI m x y := fun x y hx => by rw [zgI_sI, if_neg (by omega)]
  refine ⟨zAll_keep a (fun a i _ => gc _ _ (by omega)) (fun _ => rfl) (fun _ => rfl) rfl (fun i => gm _ _ (by omega)),
    zImg_keep r1 (gc _ _ (by omega)) (fun a i _ => gc _ _ (by omega)) (fun _ => rfl) (fun _ => rfl) rfl (gm _ _ (by omega)) (fun i => gm _ _ (by omega)),
    zTape_keep r2 (gc _ _ (by omega)) (fun i => gc _ _ (by omega)) (gm _ _ (by omega)) (fun i => gm _ _ (by omega)), ?_,
    zSlots_keep r4 (fun a i _ _ => gc _ _ (by omega)) (fun a i _ _ => gm _ _ (by omega)),
    zWaits_keep r5 (gc _ _ (by omega)) (fun i => gc _ _ (by omega)) (gm _ _ (by omega)) (fun i => gm _ _ (by omega)), zKeys_keep r6 (fun a i _ _ => gm _ _ (by omega))⟩
  intro i' hi'
  obtain ⟨b1, b2, b3, b4, b5⟩ := r3 i' hi'
  rw [gc (42 + 2 * i') 1 (by omega), gc (42 + 2 * i') 2 (by omega), gm 15 _ (by omega), gm 16 _ (by omega)]
  refine ⟨b1, b2, b3, b4, fun j' hj' => ?_⟩
  by_cases e : i' = i ∧ j' = j
  · rw [e.1, e.2, zgI_sI, if_pos ⟨rfl, rfl⟩, zgI_sI, if_pos ⟨rfl, rfl⟩]
  · rw [zgI_sI, if_neg (by omega), zgI_sI, if_neg (by omega)]
    exact b5 j' hj'
theorem s_mark (a1 a2 a3 : Int32) : zSIM (fX7_mark a1 a2 a3) (fX8_mark a1 a2 a3) := by
  intro c m h
  obtain ⟨_, _, _, sh, _⟩ := id h
  unfold fX7_mark fX8_mark fX7_mark_91 fX8_mark_60 fX8_mark_91 fX8_mark_116 fX2_isMissing fX2_hasPlace
  simp only [c_isSheet, m_isSheet, zbd2_e]
  rcases zwi_lit a1 0 3 (by omega) (by omega) with e | ⟨e, i, _, hi, rfl⟩
  · rw [show zwi a1 0 3 = 0 from e, if_pos rfl, if_pos rfl]; exact zret _ h
  rw [show zwi (nI i) 0 3 = 1 from e, if_neg z10, if_neg z10]
  obtain ⟨b1, b2, b3, ⟨s, hs, b4⟩, b5⟩ := sh i (by omega)
  rw [zldQn (i := i) (by omega) (by omega), zbd_s, show zq4 i = 42 + 2 * i from rfl]
  simp only [zld (i := i) (n := 4) (show i < 4 by omega) (by decide), zbd_e, b1, b3, b4, zgrd_h _ (zisS4 i (by omega)), m_in, c_within, zbd2_e, zboo_wi]
  have go : ∀ {j : Nat} (_ : j < 24) (v : Int32), ∃ r c1 m1, (zbd (zstI c (42 + 2 * i + 1) 24 (nI j) v) fun w20 => some ((1 : Int32), w20)) = some (r, c1) ∧ (zbd (zstI m 17 96 (24 * nI i + nI j) v) fun w22 => some ((1 : Int32), w22)) = some (r, m1) ∧ zRel c1 m1 := by
    intro j hj v
    have ei : (24 : Int32) * nI i + nI j = nI (24 * i + j) := by rw [show (24 : Int32) = nI 24 from rfl, pk_mul, nI_add]
    rw [ei, zst (i := j) (by omega) (by omega), zst (i := 24 * i + j) (by omega) (by omega), zbd_s, zbd_s, show 42 + 2 * i + 1 = 43 + 2 * i by omega]
    exact ⟨_, _, _, rfl, rfl, zRel_mark h (by omega) hj v⟩
  rcases b2 with b2 | b2 | b2
  · rw [b2, if_pos rfl, zbd2_s, if_neg z10, if_neg (show ¬ (0 : Int32) ≤ -1 by decide)]; exact zret _ h
  · rw [b2, if_neg (show ¬ (0 : Int32) = -1 by decide), zbd2_s, if_pos rfl, if_pos (show (0 : Int32) ≤ 0 by decide), b3, b4, b1, b2]
    rcases zwi_run a2 s (by omega) with e2 | ⟨e2, j, hj, rfl⟩
    · rw [e2, if_pos rfl, if_pos rfl]; exact zret _ h
    rw [e2, if_neg z10, if_neg z10, if_pos rfl, if_pos rfl]
    by_cases q : a3 = -1000000005
    · rw [if_pos q, if_pos q]; exact zret _ h
    rw [if_neg q, if_neg q, if_neg (show ¬ (0 : Int32) = 1 by decide), if_pos rfl]
    exact go (by omega) _
  · rw [b2, if_neg (show ¬ (1 : Int32) = -1 by decide), zbd2_s, if_pos rfl, if_pos (show (0 : Int32) ≤ 1 by decide), b3, b4, b1, b2]
    rcases zwi_run a2 s (by omega) with e2 | ⟨e2, j, hj, rfl⟩
    · rw [e2, if_pos rfl, if_pos rfl]; exact zret _ h
    rw [e2, if_neg z10, if_neg z10, if_neg z10, if_neg z10, if_pos rfl]
    by_cases q : a3 = -1000000005
    · rw [if_pos q, if_pos q, if_neg z10]
      exact go (by omega) _
    rw [if_neg q, if_neg q, if_neg z10]
    rcases zwi_01 a3 (-99999) 99999 with q2 | q2
    · rw [q2, if_pos rfl, if_pos rfl]; exact zret _ h
    · rw [q2, if_neg z10, if_neg z10]
      exact go (by omega) _
