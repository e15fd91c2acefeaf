/-! ===== lay, copy ===== -/
def zSlot1 (c m : zz_W) (i : Nat) : Prop := zgI c (50 + 3 * i) 1 = zgI m 18 i ∧ (zgI m 18 i = 0 ∨
    (zgI m 18 i = 1 ∧ zgI c (50 + 3 * i) 2 = zgI m 19 i ∧ zgI m 20 i = zwo (zgI m 19 i) (zgI c (50 + 3 * i) 3) ∧ ∃ k, k < 6 ∧ zgI m 19 i = nI k) ∨
    (zgI m 18 i = 2 ∧ zgI c (51 + 3 * i) 2 = zgI m 19 i ∧ (∃ s, s ≤ 24 ∧ zgI m 19 i = nI s) ∧ ∀ j, j < 24 → zgI c (52 + 3 * i) j = zgI m 21 (24 * i + j)) ∨
    (zgI m 18 i = 3 ∧ zgI c (50 + 3 * i) 4 = zgI m 19 i))
theorem zRel_slot {c m c1 m1 : zz_W} (h : zRel c m) {i : Nat} (hi : i < 5) (gc : ∀ a y, ¬ (50 + 3 * i ≤ a ∧ a ≤ 52 + 3 * i) → zgI c1 a y = zgI c a y) (c2 : c1.2 = c.2)
    (gm : ∀ a y, ¬ ((18 ≤ a ∧ a ≤ 20 ∧ y = i) ∨ (a = 21 ∧ 24 * i ≤ y ∧ y < 24 * i + 24)) → zgI m1 a y = zgI m a y) (hs : zSlot1 c1 m1 i) : zRel c1 m1 := by
  obtain ⟨al, r1, r2, r3, r4, r5, r6⟩ := h
  have gL : ∀ x i, zgL c1 x i = zgL c x i := fun x i => by show c1.2.1 x i = c.2.1 x i; rw [c2]
  have gR : ∀ x i, zgR c1 x i = zgR c x i := fun x i => by show c1.2.2.1 x i = c.2.2.1 x i; rw [c2]
  have gG : c1.2.2.2 = c.2.2.2 := by rw [c2]
  refine ⟨zAll_keep al (fun a i _ => gc _ _ (by omega)) (fun _ => gL _ _) (fun _ => gR _ _) gG (fun i => gm _ _ (by omega)),
    zImg_keep r1 (gc _ _ (by omega)) (fun a i _ => gc _ _ (by omega)) (fun _ => gL _ _) (fun _ => gR _ _) gG (gm _ _ (by omega)) (fun i => gm _ _ (by omega)),
    zTape_keep r2 (gc _ _ (by omega)) (fun i => gc _ _ (by omega)) (gm _ _ (by omega)) (fun i => gm _ _ (by omega)),
    zSheets_keep r3 (fun a i _ _ => gc _ _ (by omega)) (fun a i _ _ => gm _ _ (by omega)), ?_,
    zWaits_keep r5 (gc _ _ (by omega)) (fun i => gc _ _ (by omega)) (gm _ _ (by omega)) (fun i => gm _ _ (by omega)), zKeys_keep r6 (fun a i _ _ => gm _ _ (by omega)) (fun q => zok2_R q (congrArg Prod.snd c2))⟩
  intro i' hi'
  by_cases e : i' = i
  · rw [e]; exact hs
  · rw [gc (50 + 3 * i') 1 (by omega), gc (50 + 3 * i') 2 (by omega), gc (50 + 3 * i') 3 (by omega), gc (50 + 3 * i') 4 (by omega), gc (51 + 3 * i') 2 (by omega), gm 18 i' (by omega), gm 19 i' (by omega), gm 20 i' (by omega)]
    obtain ⟨b1, b2⟩ := r4 i' hi'
    refine ⟨b1, ?_⟩
    rcases b2 with b2 | b2 | ⟨b2, b3, b4, b5⟩ | b2
    · exact Or.inl b2
    · exact Or.inr (Or.inl b2)
    · exact Or.inr (Or.inr (Or.inl ⟨b2, b3, b4, fun j hj => by rw [gc (52 + 3 * i') j (by omega), gm 21 _ (by omega)]; exact b5 j hj⟩))
    · exact Or.inr (Or.inr (Or.inr b2))
theorem m_lay2 (p1 p2 p3 was : Int32) {i q : Nat} (hi : i < 5) (hq : q < 4) : ∀ d j k m, j + d = 24 → d < k → ∃ m1, fX8_lay_134 p1 p2 p3 k (nI i) 2 (nI q) was (nI j) m = some (was, m1) ∧ (∀ y, j ≤ y → y < 24 → zgI m1 21 (24 * i + y) = zgI m 17 (24 * q + y)) ∧
    (∀ x y, ¬ (x = 21 ∧ 24 * i + j ≤ y ∧ y < 24 * i + 24) → zgI m1 x y = zgI m x y) := by
  intro d
  induction d with
  | zero =>
    intro j k m hj hk
    obtain ⟨k, rfl⟩ : ∃ x, k = x + 1 := ⟨k - 1, by omega⟩
    exact ⟨m, by rw [fX8_lay_134, if_pos (show (24 : Int32) ≤ nI j from nI_le (a := 24) (by omega) (by omega))], fun y h1 h2 => absurd h1 (by omega), fun x y _ => rfl⟩
  | succ d ih =>
    intro j k m hj hk
    obtain ⟨k, rfl⟩ : ∃ x, k = x + 1 := ⟨k - 1, by omega⟩
    obtain ⟨m1, r1, r2, r3⟩ := ih (j + 1) k (zsI m 21 (24 * i + j) (zgI m 17 (24 * q + j))) (by omega) (by omega)
    refine ⟨m1, ?_, ?_, ?_⟩
    · rw [fX8_lay_134, if_neg (show ¬ (24 : Int32) ≤ nI j from nI_ge (b := 24) (by omega) (by omega)), if_pos rfl, zidx24, zld (i := 24 * q + j) (by omega) (by omega), zbd_s, zidx24, zst (i := 24 * i + j) (by omega) (by omega), zbd_s, zbd_s, nI_1]
      exact r1
    · intro y h1 h2
      by_cases e : y = j
      · subst e
        rw [r3 21 _ (by omega), zgI_sI, if_pos ⟨rfl, rfl⟩]
      · rw [r2 y (by omega) h2, zgI_sI, if_neg (by omega)]
    · intro x y hx
      rw [r3 x y (by omega), zgI_sI, if_neg (by omega)]
theorem m_lay0 (p1 p2 p3 was l1 l2 l3 : Int32) (m : zz_W) (h2 : ¬ l2 = 2) : fX8_lay_134 p1 p2 p3 zfuel l1 l2 l3 was 0 m = some (was, m) := by
  obtain ⟨k, hk⟩ : ∃ x, zfuel = x + 1 := ⟨3999, rfl⟩
  rw [hk, fX8_lay_134, if_neg (show ¬ (24 : Int32) ≤ 0 by decide), if_neg h2]
theorem m_worth {r : Nat} (hr : r < 10) (m : zz_W) : fX8_worthOf (nI r) m = some (zwo (zgI m 1 (14 + 5 * r)) (zgI m 1 (17 + 5 * r)), m) := by
  unfold fX8_worthOf zwo
  simp only [m_of0 hr, m_of3 hr, zbd2_e, zite_some]
theorem zcp24 (w : zz_W) (k0 k1 : Nat) : zcpI w k0 24 0 k1 24 0 24 = some (zcI w k0 0 k1 0 24) := by unfold zcpI; rw [if_pos (by decide)]; rfl
theorem w_lay {c m : zz_W} (h : zRel c m) (p1 p2 p3 q1 q2 q3 : Int32) {i t : Nat} (hi : i < 5) (ht : t < 4) (v : Int32) (hr : t = 1 → ∃ n r, zWal 1 n c m c m ∧ r < n ∧ v = nI r) (hq : t = 2 → ∃ q, q < 4 ∧ v = nI q) :
    ∃ r c1 m1, fX7_lay_70 p1 p2 p3 (nI i) (nI t) v c = some (r, c1) ∧ fX8_lay_61 q1 q2 q3 (nI i) (nI t) v m = some (r, m1) ∧ zRel c1 m1 := by
  have hf := zfuel_big
  obtain ⟨_, _, _, sh, sl, _⟩ := id h
  obtain ⟨b1, _⟩ := sl i hi
  unfold fX7_lay_70 fX8_lay_61 fX8_lay_110 fX8_lay_130
  rw [zldQn (i := i) (by omega) (by omega), show zq5 i = 50 + 3 * i from rfl, zld (i := i) (by omega) (by omega), zst (i := i) (by omega) (by omega)]
  simp only [zbd_e]
  rw [b1]
  rcases (show t = 0 ∨ t = 3 ∨ t = 1 ∨ t = 2 by omega) with rfl | rfl | rfl | rfl
  · rw [if_neg (show ¬ nI 0 = 1 by decide), if_neg (show ¬ nI 0 = 2 by decide), if_neg (show ¬ nI 0 = 1 by decide), if_neg (show ¬ nI 0 = 2 by decide)]
    rw [zst (i := i) (by omega) (by omega), zbd_s, if_neg (show ¬ nI 0 = 1 by decide), zst (i := i) (by omega) (by omega), zbd_s, m_lay0 _ _ _ _ _ _ _ _ (show ¬ nI 0 = 2 by decide)]
    refine ⟨_, _, _, rfl, rfl, zRel_slot h hi (fun a y hh => by rw [zgI_sI, if_neg (by omega), zgI_sI, if_neg (by omega)]) rfl (fun a y hh => by rw [zgI_sI, if_neg (by omega), zgI_sI, if_neg (by omega), zgI_sI, if_neg (by omega)]) ⟨?_, Or.inl ?_⟩⟩
    · repeat rw [zgI_sI]
      simp
    · repeat rw [zgI_sI]
      simp; rfl
  · rw [if_neg (show ¬ nI 3 = 1 by decide), if_neg (show ¬ nI 3 = 2 by decide), if_neg (show ¬ nI 3 = 1 by decide), if_neg (show ¬ nI 3 = 2 by decide)]
    rw [zst (i := i) (by omega) (by omega), zbd_s, if_neg (show ¬ nI 3 = 1 by decide), zst (i := i) (by omega) (by omega), zbd_s, m_lay0 _ _ _ _ _ _ _ _ (show ¬ nI 3 = 2 by decide)]
    refine ⟨_, _, _, rfl, rfl, zRel_slot h hi (fun a y hh => by rw [zgI_sI, if_neg (by omega), zgI_sI, if_neg (by omega)]) rfl (fun a y hh => by rw [zgI_sI, if_neg (by omega), zgI_sI, if_neg (by omega), zgI_sI, if_neg (by omega)]) ⟨?_, Or.inr (Or.inr (Or.inr ⟨?_, ?_⟩))⟩⟩
    · repeat rw [zgI_sI]
      simp
    · repeat rw [zgI_sI]
      simp; rfl
    · repeat rw [zgI_sI]
      simp
  · obtain ⟨n, r, hw, hrn, rfl⟩ := hr rfl
    have hn10 := hw.hn
    have k1 : zgI c (1 + 1) r = zgI m 1 (14 + 5 * r) := hw.ck r hrn
    have k4 : zgI c (1 + 4) r = zgI m 1 (17 + 5 * r) := hw.cd r hrn
    obtain ⟨x, hx, ex⟩ := hw.rk r hrn
    rw [if_pos (show nI 1 = 1 from rfl), if_pos (show nI 1 = 1 from rfl), m_of0 (by omega), zbd2_s, zst (i := i) (by omega) (by omega), zbd_s, if_pos (show nI 1 = 1 from rfl), m_worth (by omega), zbd2_s, zst (i := i) (by omega) (by omega), zbd_s, m_lay0 _ _ _ _ _ _ _ _ (show ¬ nI 1 = 2 by decide)]
    rw [zld (i := r) (by omega) (by omega), zbd_s, zld (i := r) (by omega) (by omega), zbd_s]
    refine ⟨_, _, _, rfl, rfl, zRel_slot h hi (fun a y hh => by rw [zgI_sI, if_neg (by omega), zgI_sI, if_neg (by omega), zgI_sI, if_neg (by omega)]) rfl (fun a y hh => by rw [zgI_sI, if_neg (by omega), zgI_sI, if_neg (by omega), zgI_sI, if_neg (by omega)]) ⟨?_, Or.inr (Or.inl ⟨?_, ?_, ?_, x, hx, ?_⟩)⟩⟩
    · repeat rw [zgI_sI]
      simp
    · repeat rw [zgI_sI]
      simp; rfl
    · repeat rw [zgI_sI]
      simp [show ¬ (2 = 50 + 3 * i) by omega, show ¬ (5 = 50 + 3 * i) by omega, k1]
    · repeat rw [zgI_sI]
      simp [show ¬ (2 = 50 + 3 * i) by omega, show ¬ (5 = 50 + 3 * i) by omega, k4]
    · repeat rw [zgI_sI]
      simp [ex]
  · obtain ⟨q, hq4, rfl⟩ := hq rfl
    obtain ⟨d1, d2, d3, ⟨s, hs, d4⟩, d5⟩ := sh q hq4
    rw [if_neg (show ¬ nI 2 = 1 by decide), if_pos (show nI 2 = 2 from rfl), if_neg (show ¬ nI 2 = 1 by decide), if_pos (show nI 2 = 2 from rfl)]
    rw [zldQn (i := q) (by omega) (by omega), zbd_s, show zq4 q = 42 + 2 * q from rfl, zld (i := q) (by omega) (by omega), zbd_s, zst (i := i) (by omega) (by omega), zbd_s, if_neg (show ¬ nI 2 = 1 by decide), zst (i := i) (by omega) (by omega), zbd_s]
    unfold fX2_takeFrom
    rw [zgrd_h _ (zisS5 i hi), zgrd_h _ (zisS4 q hq4)]
    simp only [zbd_e, zcp24]
    obtain ⟨m1, u1, u2, u3⟩ := m_lay2 q1 q2 q3 (zgI m 18 i) hi hq4 24 0 zfuel (zsI (zsI (zsI m 18 i (nI 2)) 19 i (zgI (zsI m 18 i (nI 2)) 16 q)) 20 i 0) (by omega) (by omega)
    refine ⟨_, _, m1, rfl, u1, zRel_slot h hi (fun a y hh => ?_) rfl (fun a y hh => ?_) ⟨?_, Or.inr (Or.inr (Or.inl ⟨?_, ?_, ⟨s, hs, ?_⟩, fun j hj => ?_⟩))⟩⟩
    · rw [zgI_cI, if_neg (by omega)]
      repeat rw [zgI_sI, if_neg (by omega)]
    · rw [u3 a y (by omega)]
      repeat rw [zgI_sI, if_neg (by omega)]
    · rw [zgI_cI, if_neg (by omega), u3 18 i (by omega)]
      repeat rw [zgI_sI]
      simp
    · rw [u3 18 i (by omega)]
      repeat rw [zgI_sI]
      simp; rfl
    · rw [zgI_cI, if_neg (by omega), u3 19 i (by omega), show 51 + 3 * i = 50 + 3 * i + 1 by omega]
      repeat rw [zgI_sI]
      simp [show ¬ (42 + 2 * q = 50 + 3 * i) by omega, show ¬ (42 + 2 * q = 50 + 3 * i + 1) by omega, d3]
    · rw [u3 19 i (by omega)]
      repeat rw [zgI_sI]
      simp [d4]
    · rw [zgI_cI, if_pos ⟨by omega, hj⟩, u2 j (by omega) hj]
      repeat rw [zgI_sI, if_neg (by omega)]
      rw [show 42 + 2 * q + 1 = 43 + 2 * q by omega]
      exact d5 j hj
theorem zmiss (v : Int32) (hv : v = -1 ∨ v = 0 ∨ v = 1) : (v = -1 ∧ ¬ 0 ≤ v) ∨ (¬ v = -1 ∧ 0 ≤ v) := by
  rcases hv with rfl | rfl | rfl <;> decide
theorem s_lay (a1 a2 a3 : Int32) : zSIM (fX7_lay a1 a2 a3) (fX8_lay a1 a2 a3) := by
  intro c m h
  obtain ⟨n, hw, hp⟩ := zR1 h
  have hn10 := hw.hn
  obtain ⟨_, _, _, sh, _⟩ := id h
  unfold fX7_lay fX8_lay fX7_lay_35 fX8_lay_29 fX7_lay_50 fX8_lay_44
  simp only [c_isSlot, m_isSlot, zbd2_e, c_within, m_in, c_isRun hw, m_isRun hw, c_isSheet, m_isSheet]
  rcases zwi_lit a1 0 4 (by omega) (by omega) with e | ⟨e, i, _, hi, rfl⟩
  · rw [show zwi a1 0 4 = 0 from e, if_pos rfl, if_pos rfl]; exact zret _ h
  rw [show zwi (nI i) 0 4 = 1 from e, if_neg z10, if_neg z10]
  rcases zwi_lit a2 0 3 (by omega) (by omega) with e2 | ⟨e2, t, _, ht, rfl⟩
  · rw [show zwi a2 0 3 = 0 from e2, if_pos rfl, if_pos rfl]; exact zret _ h
  rw [show zwi (nI t) 0 3 = 1 from e2, if_neg z10, if_neg z10]
  by_cases t1 : t = 1
  · subst t1
    rw [if_pos (show nI 1 = 1 from rfl), if_pos (show nI 1 = 1 from rfl), if_neg (show ¬ nI 1 = 2 by decide), if_neg (show ¬ nI 1 = 2 by decide), if_neg (show ¬ nI 1 = 2 by decide), if_neg (show ¬ nI 1 = 2 by decide)]
    rcases zwi_run a3 n (by omega) with q | ⟨q, r, hr, rfl⟩
    · rw [q, if_pos rfl, if_pos rfl]; exact zret _ h
    · rw [q, if_neg z10, if_neg z10]
      exact w_lay h _ _ _ _ _ _ (by omega) (by omega) _ (fun _ => ⟨n, r, hw, hr, rfl⟩) (fun q => absurd q (by omega))
  have n1 : ¬ nI t = 1 := fun q => t1 ((nI_eq (b := 1) (by omega) (by decide)).mp q)
  rw [if_neg n1, if_neg n1]
  by_cases t2 : t = 2
  · subst t2
    rw [if_pos (show nI 2 = 2 from rfl), if_pos (show nI 2 = 2 from rfl), if_pos (show nI 2 = 2 from rfl), if_pos (show nI 2 = 2 from rfl)]
    rcases zwi_lit a3 0 3 (by omega) (by omega) with e3 | ⟨e3, q, _, hq, rfl⟩
    · rw [show zwi a3 0 3 = 0 from e3, if_pos rfl, if_pos rfl]; exact zret _ h
    rw [show zwi (nI q) 0 3 = 1 from e3, if_neg z10, if_neg z10]
    obtain ⟨d1, d2, _⟩ := sh q (by omega)
    unfold fX2_isMissing
    rw [zldQn (i := q) (by omega) (by omega), zbd_s, show zq4 q = 42 + 2 * q from rfl, zgrd_h _ (zisS4 q (by omega)), zbd_s, d1, zld (i := q) (by omega) (by omega), zbd_s]
    rcases zmiss _ d2 with ⟨x1, x2⟩ | ⟨x1, x2⟩
    · rw [if_pos x1, if_neg x2, zbd2_s, if_neg z10]; exact zret _ h
    · rw [if_neg x1, if_pos x2, zbd2_s, if_pos rfl]
      exact w_lay h _ _ _ _ _ _ (by omega) (by omega) _ (fun q => absurd q (by omega)) (fun _ => ⟨q, by omega, rfl⟩)
  have n2 : ¬ nI t = 2 := fun q => t2 ((nI_eq (b := 2) (by omega) (by decide)).mp q)
  rw [if_neg n2, if_neg n2, if_neg n2, if_neg n2]
  exact w_lay h _ _ _ _ _ _ (by omega) (by omega) _ (fun q => absurd q t1) (fun q => absurd q t2)
theorem zRel_sh {c m c1 m1 : zz_W} (h : zRel c m) {i : Nat} (hi : i < 4) (gc : ∀ a y, ¬ a = 43 + 2 * i → zgI c1 a y = zgI c a y) (c2 : c1.2 = c.2)
    (gm : ∀ a y, ¬ a = 22 → ¬ (a = 17 ∧ 24 * i ≤ y ∧ y < 24 * i + 24) → zgI m1 a y = zgI m a y) (hs : ∀ j, j < 24 → zgI c1 (43 + 2 * i) j = zgI m1 17 (24 * i + j)) : zRel c1 m1 := by
  obtain ⟨al, r1, r2, r3, r4, r5, r6⟩ := h
  have gL : ∀ x i, zgL c1 x i = zgL c x i := fun x i => by show c1.2.1 x i = c.2.1 x i; rw [c2]
  have gR : ∀ x i, zgR c1 x i = zgR c x i := fun x i => by show c1.2.2.1 x i = c.2.2.1 x i; rw [c2]
  have gG : c1.2.2.2 = c.2.2.2 := by rw [c2]
  refine ⟨zAll_keep al (fun a i _ => gc _ _ (by omega)) (fun _ => gL _ _) (fun _ => gR _ _) gG (fun i => gm _ _ (by omega) (by omega)),
    zImg_keep r1 (gc _ _ (by omega)) (fun a i _ => gc _ _ (by omega)) (fun _ => gL _ _) (fun _ => gR _ _) gG (gm _ _ (by omega) (by omega)) (fun i => gm _ _ (by omega) (by omega)),
    zTape_keep r2 (gc _ _ (by omega)) (fun i => gc _ _ (by omega)) (gm _ _ (by omega) (by omega)) (fun i => gm _ _ (by omega) (by omega)), ?_,
    zSlots_keep r4 (fun a i _ _ => gc _ _ (by omega)) (fun a i _ _ => gm _ _ (by omega) (by omega)),
    zWaits_keep r5 (gc _ _ (by omega)) (fun i => gc _ _ (by omega)) (gm _ _ (by omega) (by omega)) (fun i => gm _ _ (by omega) (by omega)), zKeys_keep r6 (fun a i _ _ => gm _ _ (by omega) (by omega)) (fun q => zok2_R q (congrArg Prod.snd c2))⟩
  intro i' hi'
  obtain ⟨b1, b2, b3, b4, b5⟩ := r3 i' hi'
  rw [gc (42 + 2 * i') 1 (by omega), gc (42 + 2 * i') 2 (by omega), gm 15 _ (by omega) (by omega), gm 16 _ (by omega) (by omega)]
  refine ⟨b1, b2, b3, b4, fun j hj => ?_⟩
  by_cases e : i' = i
  · rw [e]; exact hs j hj
  · rw [gc _ _ (by omega), gm _ _ (by omega) (by omega)]; exact b5 j hj
theorem m_copyB (p1 p2 p3 p4 p5 : Int32) {i x n : Nat} (hi : i < 4) (hx : x + n ≤ 24) : ∀ d j k m, j + d = n → d < k → ∃ m1, fX8_copy_141 p1 p2 p3 p4 p5 k (nI i) (nI x) (nI n) (nI j) m = some (nI n, m1) ∧ (∀ y, j ≤ y → y < n → zgI m1 17 (24 * i + x + y) = zgI m 22 y) ∧
    (∀ a y, ¬ (a = 17 ∧ 24 * i + x + j ≤ y ∧ y < 24 * i + x + n) → zgI m1 a y = zgI m a y) := by
  intro d
  induction d with
  | zero =>
    intro j k m hj hk
    obtain ⟨k, rfl⟩ : ∃ x, k = x + 1 := ⟨k - 1, by omega⟩
    exact ⟨m, by rw [fX8_copy_141, if_pos (nI_le (by omega) (by omega))], fun y h1 h2 => absurd h1 (by omega), fun x y _ => rfl⟩
  | succ d ih =>
    intro j k m hj hk
    obtain ⟨k, rfl⟩ : ∃ x, k = x + 1 := ⟨k - 1, by omega⟩
    obtain ⟨m1, r1, r2, r3⟩ := ih (j + 1) k (zsI m 17 (24 * i + x + j) (zgI m 22 j)) (by omega) (by omega)
    refine ⟨m1, ?_, ?_, ?_⟩
    · rw [fX8_copy_141, if_neg (nI_ge (by omega) (by omega)), zld (i := j) (by omega) (by omega), zbd_s, zidx24, nI_add, zst (i := 24 * i + x + j) (by omega) (by omega), zbd_s, zbd_s, nI_1]
      exact r1
    · intro y h1 h2
      by_cases e : y = j
      · subst e
        rw [r3 17 _ (by omega), zgI_sI, if_pos ⟨rfl, rfl⟩]
      · rw [r2 y (by omega) h2, zgI_sI, if_neg (by omega)]
    · intro a y hx
      rw [r3 a y (by omega), zgI_sI, if_neg (by omega)]
theorem m_copyA (p1 p2 p3 p4 p5 : Int32) {i x i' x' n : Nat} (hi : i < 4) (hx : x + n ≤ 24) (hi' : i' < 4) (hx' : x' + n ≤ 24) : ∀ d j k m, j + d = n → d < k → ∃ m1, fX8_copy_104 p1 p2 p3 p4 p5 k (nI i) (nI x) (nI i') (nI x') (nI n) (nI j) m = some (nI n, m1) ∧
    (∀ y, y < n → zgI m1 17 (24 * i' + x' + y) = if y < j then zgI m 22 y else zgI m 17 (24 * i + x + y)) ∧
    (∀ a y, ¬ a = 22 → ¬ (a = 17 ∧ 24 * i' + x' ≤ y ∧ y < 24 * i' + x' + n) → zgI m1 a y = zgI m a y) := by
  have hf := zfuel_big
  intro d
  induction d with
  | zero =>
    intro j k m hj hk
    obtain ⟨k, rfl⟩ : ∃ x, k = x + 1 := ⟨k - 1, by omega⟩
    obtain ⟨m1, r1, r2, r3⟩ := m_copyB p1 p2 p3 p4 p5 hi' hx' n 0 zfuel m (by omega) (by omega)
    refine ⟨m1, ?_, fun y hy => ?_, fun a y h1 h2 => r3 a y (by omega)⟩
    · rw [fX8_copy_104, if_pos (nI_le (by omega) (by omega))]
      exact r1
    · rw [r2 y (by omega) hy, if_pos (by omega)]
  | succ d ih =>
    intro j k m hj hk
    obtain ⟨k, rfl⟩ : ∃ x, k = x + 1 := ⟨k - 1, by omega⟩
    obtain ⟨m1, r1, r2, r3⟩ := ih (j + 1) k (zsI m 22 j (zgI m 17 (24 * i + x + j))) (by omega) (by omega)
    refine ⟨m1, ?_, ?_, ?_⟩
    · rw [fX8_copy_104, if_neg (nI_ge (by omega) (by omega)), zidx24, nI_add, zld (i := 24 * i + x + j) (by omega) (by omega), zbd_s, zst (i := j) (by omega) (by omega), zbd_s, zbd_s, nI_1]
      exact r1
    · intro y hy
      rw [r2 y hy]
      by_cases e : y = j
      · subst e
        rw [if_pos (by omega), if_neg (by omega), zgI_sI, if_pos ⟨rfl, rfl⟩]
      · by_cases e2 : y < j
        · rw [if_pos (by omega), if_pos e2, zgI_sI, if_neg (by omega)]
        · rw [if_neg (by omega), if_neg e2, zgI_sI, if_neg (by omega)]
    · intro a y h1 h2
      rw [r3 a y h1 h2, zgI_sI, if_neg (by omega)]
theorem s_copy (a1 a2 a3 a4 a5 : Int32) : zSIM (fX7_copy a1 a2 a3 a4 a5) (fX8_copy a1 a2 a3 a4 a5) := by
  intro c m h
  have hf := zfuel_big
  obtain ⟨_, _, _, sh, _⟩ := id h
  unfold fX7_copy fX8_copy fX2_isMissing fX2_hasPlaces
  simp only [c_isSheet, m_isSheet, zbd2_e]
  rcases zwi_lit a1 0 3 (by omega) (by omega) with e | ⟨e, i, _, hi, rfl⟩
  · rw [show zwi a1 0 3 = 0 from e, if_pos rfl, if_pos rfl]; exact zret _ h
  rw [show zwi (nI i) 0 3 = 1 from e, if_neg z10, if_neg z10]
  rcases zwi_lit a3 0 3 (by omega) (by omega) with e3 | ⟨e3, i', _, hi', rfl⟩
  · rw [show zwi a3 0 3 = 0 from e3, if_pos rfl, if_pos rfl]; exact zret _ h
  rw [show zwi (nI i') 0 3 = 1 from e3, if_neg z10, if_neg z10]
  obtain ⟨b1, b2, b3, ⟨s, hs, b4⟩, b5⟩ := sh i (by omega)
  obtain ⟨d1, d2, d3, ⟨s', hs', d4⟩, d5⟩ := sh i' (by omega)
  rw [zldQn (i := i) (by omega) (by omega), zldQn (i := i') (by omega) (by omega), show zq4 i = 42 + 2 * i from rfl, show zq4 i' = 42 + 2 * i' from rfl]
  simp only [zld (i := i) (n := 4) (show i < 4 by omega) (by decide), zld (i := i') (n := 4) (show i' < 4 by omega) (by decide), zbd_e, zgrd_h _ (zisS4 i (by omega)), zgrd_h _ (zisS4 i' (by omega)), b1, b3, b4, d1, d3, d4]
  rcases zmiss _ b2 with ⟨x1, x2⟩ | ⟨x1, x2⟩
  · rw [if_pos x1, zbd2_s, if_neg z10, if_pos (show zgI m 15 i < 0 by rw [x1]; decide)]; exact zret _ h
  rw [if_neg x1, zbd2_s, if_pos rfl, if_neg (show ¬ zgI m 15 i < 0 by rcases b2 with q | q | q; exact absurd q x1; rw [q]; decide; rw [q]; decide), d1]
  rcases zmiss _ d2 with ⟨y1, y2⟩ | ⟨y1, y2⟩
  · rw [if_pos y1, zbd2_s, if_neg z10, if_neg y2]; exact zret _ h
  rw [if_neg y1, zbd2_s, if_pos rfl, if_pos y2]
  simp only [b1, d1, b3, d3, b4, d4]
  by_cases q : zgI m 15 i = zgI m 15 i'
  · rw [if_pos q, if_pos q]
    by_cases n5 : a5 < 0
    · rw [if_pos n5, zbd2_s, if_pos rfl, if_pos n5]
      by_cases n2 : a2 < 0
      · rw [if_pos n2]; exact zret _ h
      rw [if_neg n2]
      by_cases n4 : a4 < 0
      · rw [if_pos n4]; exact zret _ h
      rw [if_neg n4]; exact zret _ h
    rw [if_neg n5, if_neg n5]
    by_cases n2 : a2 < 0
    · rw [if_pos n2, zbd2_s, if_pos rfl, if_pos n2]; exact zret _ h
    rw [if_neg n2, if_neg n2]
    by_cases w2 : nI s - a5 < a2
    · rw [if_pos w2, zbd2_s, if_pos rfl, if_pos w2]
      by_cases n4 : a4 < 0
      · rw [if_pos n4]; exact zret _ h
      rw [if_neg n4]; exact zret _ h
    rw [if_neg w2, zbd2_s, if_neg z10, if_neg w2]
    simp only [d3, d4]
    rw [if_neg n5]
    by_cases n4 : a4 < 0
    · rw [if_pos n4, zbd2_s, if_pos rfl, if_pos n4]; exact zret _ h
    rw [if_neg n4, if_neg n4]
    by_cases w4 : nI s' - a5 < a4
    · have w4' : ¬ a4 ≤ nI s' - a5 := by rw [Int32.le_iff_toInt_le]; rw [Int32.lt_iff_toInt_lt] at w4; omega
      rw [if_pos w4, zbd2_s, if_pos rfl, if_neg w4']; exact zret _ h
    have w4' : a4 ≤ nI s' - a5 := by rw [Int32.le_iff_toInt_le]; rw [Int32.lt_iff_toInt_lt] at w4; omega
    rw [if_neg w4, zbd2_s, if_neg z10, if_pos w4']
    obtain ⟨n, hn, rfl⟩ := nI_of n5
    obtain ⟨x, hx, rfl⟩ := nI_of n2
    obtain ⟨x', hx', rfl⟩ := nI_of n4
    have sub : ∀ {s n x : Nat}, s ≤ 24 → n < 2 ^ 31 → x < 2 ^ 31 → ¬ nI s - nI n < nI x → x + n ≤ s := by
      intro s n x hs hn hx hh
      rw [Int32.lt_iff_toInt_lt, nI_toInt hx] at hh
      by_cases c0 : n ≤ s
      · rw [pk_sub c0, nI_toInt (by omega)] at hh
        omega
      · have : (nI s - nI n).toInt < 0 := by
          have e1 : (nI s - nI n).toInt = ((s : Int) - n).bmod (2 ^ 32) := by
            rw [Int32.toInt_sub, nI_toInt (by omega), nI_toInt hn]
          rw [e1, Int.bmod_eq_of_le (by omega) (by omega)]
          omega
        omega
    have k1 := sub hs hn hx w2
    have k2 := sub hs' hn hx' w4
    have k3 : zcpI c (42 + 2 * i + 1) 24 (nI x) (42 + 2 * i' + 1) 24 (nI x') (nI n) = some (zcI c (43 + 2 * i) x (43 + 2 * i') x' n) := by
      unfold zcpI
      rw [nI_clamp hn, nI_clamp hx, nI_clamp hx', if_pos ⟨n2, n4, n5, by omega, by omega⟩, show 42 + 2 * i + 1 = 43 + 2 * i by omega, show 42 + 2 * i' + 1 = 43 + 2 * i' by omega]
    have gcI : ∀ a y, zgI (zcI c (43 + 2 * i) x (43 + 2 * i') x' n) a y = if a = 43 + 2 * i' ∧ x' ≤ y ∧ y < x' + n then zgI c (43 + 2 * i) (x + (y - x')) else zgI c a y := fun a y => rfl
    obtain ⟨m1, r1, r2, r3⟩ := m_copyA (nI i) (nI x) (nI i') (nI x') (nI n) (i := i) (x := x) (i' := i') (x' := x') (n := n) (by omega) (by omega) (by omega) (by omega) n 0 zfuel m (by omega) (by omega)
    rw [k3, zbd_s]
    refine ⟨nI n, _, m1, rfl, r1, zRel_sh h (i := i') (by omega) (fun a y hh => by rw [gcI, if_neg (by omega)]) rfl (fun a y h1 h2 => r3 a y h1 (by omega)) (fun j hj => ?_)⟩
    rw [gcI]
    by_cases cc : x' ≤ j ∧ j < x' + n
    · rw [if_pos ⟨rfl, cc⟩, b5 _ (by omega)]
      have := r2 (j - x') (by omega)
      rw [if_neg (by omega), show 24 * i' + x' + (j - x') = 24 * i' + j by omega] at this
      rw [this]
      congr 1
      omega
    · rw [if_neg (fun q => cc q.2), r3 17 _ (by omega) (by omega)]
      exact d5 j hj
  · rw [if_neg q, if_neg q]; exact zret _ h
