theorem zRel_sz {c m : zz_W} (h : zRel c m) {i s : Nat} {a : Int32} (hi : i < 4) (hs : s ≤ 24) (ha : a = -1 ∨ a = 0 ∨ a = 1) : zRel (zsI (zsI c (42 + 2 * i) 1 a) (42 + 2 * i) 2 (nI s)) (zsI (zsI m 15 i a) 16 i (nI s)) := by
  obtain ⟨al, r1, r2, r3, r4, r5, r6⟩ := h
  have gc : ∀ x y, ¬ (x = 42 + 2 * i ∧ (y = 1 ∨ y = 2)) → zgI (zsI (zsI c (42 + 2 * i) 1 a) (42 + 2 * i) 2 (nI s)) x y = zgI c x y := fun x y hx => by rw [zgI_sI, if_neg (by omega), zgI_sI, if_neg (by omega)]
  have gm : ∀ x y, ¬ ((x = 15 ∨ x = 16) ∧ y = i) → zgI (zsI (zsI m 15 i a) 16 i (nI s)) x y = zgI m x y := fun x y hx => by rw [zgI_sI, if_neg (by omega), zgI_sI, if_neg (by omega)]
  refine ⟨zAll_keep al (fun a i _ => gc _ _ (by omega)) (fun _ => rfl) (fun _ => rfl) rfl (fun i => gm _ _ (by omega)),
    zImg_keep r1 (gc _ _ (by omega)) (fun a i _ => gc _ _ (by omega)) (fun _ => rfl) (fun _ => rfl) rfl (gm _ _ (by omega)) (fun i => gm _ _ (by omega)),
    zTape_keep r2 (gc _ _ (by omega)) (fun i => gc _ _ (by omega)) (gm _ _ (by omega)) (fun i => gm _ _ (by omega)), ?_,
    zSlots_keep r4 (fun a i _ _ => gc _ _ (by omega)) (fun a i _ _ => gm _ _ (by omega)),
    zWaits_keep r5 (gc _ _ (by omega)) (fun i => gc _ _ (by omega)) (gm _ _ (by omega)) (fun i => gm _ _ (by omega)), zKeys_keep r6 (fun a i _ _ => gm _ _ (by omega))⟩
  intro i' hi'
  obtain ⟨b1, b2, b3, b4, b5⟩ := r3 i' hi'
  by_cases e : i' = i
  · subst e
    have x1 : zgI (zsI (zsI c (42 + 2 * i') 1 a) (42 + 2 * i') 2 (nI s)) (42 + 2 * i') 1 = a := by rw [zgI_sI, if_neg (by omega), zgI_sI, if_pos ⟨rfl, rfl⟩]
    have x2 : zgI (zsI (zsI c (42 + 2 * i') 1 a) (42 + 2 * i') 2 (nI s)) (42 + 2 * i') 2 = nI s := by rw [zgI_sI, if_pos ⟨rfl, rfl⟩]
    have x3 : zgI (zsI (zsI m 15 i' a) 16 i' (nI s)) 15 i' = a := by rw [zgI_sI, if_neg (by omega), zgI_sI, if_pos ⟨rfl, rfl⟩]
    have x4 : zgI (zsI (zsI m 15 i' a) 16 i' (nI s)) 16 i' = nI s := by rw [zgI_sI, if_pos ⟨rfl, rfl⟩]
    rw [x1, x2, x3, x4]
    exact ⟨rfl, ha, rfl, ⟨s, hs, rfl⟩, fun j hj => by rw [gc _ _ (by omega), gm _ _ (by omega)]; exact b5 j hj⟩
  · rw [gc (42 + 2 * i') 1 (by omega), gc (42 + 2 * i') 2 (by omega), gm 15 i' (by omega), gm 16 i' (by omega)]
    exact ⟨b1, b2, b3, b4, fun j hj => by rw [gc _ _ (by omega), gm _ _ (by omega)]; exact b5 j hj⟩
theorem w_fill {i : Nat} (hi : i < 4) (p p1 p2 p3 : Int32) {s : Int32} : ∀ d j k k' c m, j + d = 24 → d < k → d < k' → zRel c m → zgI m 16 i = s →
    ∃ c1 m1, fJ7_fill_53178_5 (42 + 2 * i + 1) p k 0 (nI j) (nI 24) c = some c1 ∧ fX8_sheet_66 p1 p2 p3 k' (nI i) (nI j) m = some (s, m1) ∧ zRel c1 m1 := by
  intro d
  induction d with
  | zero =>
    intro j k k' c m hj hk hk' h hs
    obtain ⟨k, rfl⟩ : ∃ x, k = x + 1 := ⟨k - 1, by omega⟩
    obtain ⟨k', rfl⟩ : ∃ x, k' = x + 1 := ⟨k' - 1, by omega⟩
    refine ⟨c, m, ?_, ?_, h⟩
    · rw [fJ7_fill_53178_5, if_pos (nI_le (by omega) (by omega))]
    · rw [fX8_sheet_66, if_pos (show (24 : Int32) ≤ nI j from nI_le (a := 24) (by omega) (by omega)), zld (i := i) (by omega) (by omega), zbd_s, hs]
  | succ d ih =>
    intro j k k' c m hj hk hk' h hs
    obtain ⟨k, rfl⟩ : ∃ x, k = x + 1 := ⟨k - 1, by omega⟩
    obtain ⟨k', rfl⟩ : ∃ x, k' = x + 1 := ⟨k' - 1, by omega⟩
    have ei : (24 : Int32) * nI i + nI j = nI (24 * i + j) := by rw [show (24 : Int32) = nI 24 from rfl, pk_mul, nI_add]
    obtain ⟨c1, m1, r1, r2, r3⟩ := ih (j + 1) k k' _ _ (by omega) (by omega) (by omega) (zRel_mark h hi (show j < 24 by omega) 0) (by rw [zgI_sI, if_neg (by omega)]; exact hs)
    refine ⟨c1, m1, ?_, ?_, r3⟩
    · rw [fJ7_fill_53178_5, if_neg (nI_ge (by omega) (by omega)), zst (i := j) (by omega) (by omega), zbd_s, zbd_s, nI_1, show 42 + 2 * i + 1 = 43 + 2 * i by omega]
      rw [show 42 + 2 * i + 1 = 43 + 2 * i by omega] at r1
      exact r1
    · rw [fX8_sheet_66, if_neg (show ¬ (24 : Int32) ≤ nI j from nI_ge (b := 24) (by omega) (by omega)), ei, zst (i := 24 * i + j) (by omega) (by omega), zbd_s, zbd_s, nI_1]
      exact r2
