theorem zRel_sz {c m : zz_W} (h : zRel c m) {i s : Nat} {a : Int32} (hi : i < 4) (hs : s ≤ 24) (ha : a = -1 ∨ a = 0 ∨ a = 1) : zRel (zsI (zsI c (42 + 2 * i) 1 a) (42 + 2 * i) 2 (nI s)) (zsI (zsI m 15 i a) 16 i (nI s)) := by
  obtain ⟨al, r1, r2, r3, r4, r5, r6⟩ := h
  have gc : ∀ x y, ¬ (x = 42 + 2 * i ∧ (y = 1 ∨ y = 2)) → zgI (zsI (zsI c (42 + 2 * i) 1 a) (42 + 2 * i) 2 (nI s)) x y = zgI c x y := fun x y hx => by rw [zgI_sI, if_neg (by omega), zgI_sI, if_neg (by omega)]
  have gm : ∀ x y, ¬ ((x = 15 ∨ x = 16) ∧ y = i) → zgI (zsI (zsI m 15 i a) 16 i (nI s)) x y = zgI m x y := fun x y hx => by rw [zgI_sI, if_neg (by omega), zgI_sI, if_neg (by omega)]
  refine ⟨zAll_keep al (fun a i _ => gc _ _ (by omega)) (fun _ => rfl) (fun _ => rfl) rfl (fun i => gm _ _ (by omega)),
    zImg_keep r1 (gc _ _ (by omega)) (fun a i _ => gc _ _ (by omega)) (fun _ => rfl) (fun _ => rfl) rfl (gm _ _ (by omega)) (fun i => gm _ _ (by omega)),
    zTape_keep r2 (gc _ _ (by omega)) (fun i => gc _ _ (by omega)) (gm _ _ (by omega)) (fun i => gm _ _ (by omega)), ?_,
    zSlots_keep r4 (fun a i _ _ => gc _ _ (by omega)) (fun a i _ _ => gm _ _ (by omega)),
    zWaits_keep r5 (gc _ _ (by omega)) (fun i => gc _ _ (by omega)) (gm _ _ (by omega)) (fun i => gm _ _ (by omega)), zKeys_keep r6 (fun a i _ _ => gm _ _ (by omega))⟩
  intro i' hi'
  obtain ⟨b1, b2, b3, b4, b5⟩ := r3 i' hi'
  by_cases e : i' = i
  · subst e
    have x1 : zgI (zsI (zsI c (42 + 2 * i') 1 a) (42 + 2 * i') 2 (nI s)) (42 + 2 * i') 1 = a := by rw [zgI_sI, if_neg (by omega), zgI_sI, if_pos ⟨rfl, rfl⟩]
    have x2 : zgI (zsI (zsI c (42 + 2 * i') 1 a) (42 + 2 * i') 2 (nI s)) (42 + 2 * i') 2 = nI s := by rw [zgI_sI, if_pos ⟨rfl, rfl⟩]
    have x3 : zgI (zsI (zsI m 15 i' a) 16 i' (nI s)) 15 i' = a := by rw [zgI_sI, if_neg (by omega), zgI_sI, if_pos ⟨rfl, rfl⟩]
    have x4 : zgI (zsI (zsI m 15 i' a) 16 i' (nI s)) 16 i' = nI s := by rw [zgI_sI, if_pos ⟨rfl, rfl⟩]
    rw [x1, x2, x3, x4]
    exact ⟨rfl, ha, rfl, ⟨s, hs, rfl⟩, fun j hj => by rw [gc _ _ (by omega), gm _ _ (by omega)]; exact b5 j hj⟩
  · rw [gc (42 + 2 * i') 1 (by omega), gc (42 + 2 * i') 2 (by omega), gm 15 i' (by omega), gm 16 i' (by omega)]
    exact ⟨b1, b2, b3, b4, fun j hj => by rw [gc _ _ (by omega), gm _ _ (by omega)]; exact b5 j hj⟩
