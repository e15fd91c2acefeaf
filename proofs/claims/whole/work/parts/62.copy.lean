/-! ===== one Wall takes from another; the reference copies its row ===== -/
theorem zgI_cI (w : zz_W) (k0 k n a i : Nat) : zgI (zcI w k0 0 k 0 n) a i = if a = k ∧ i < n then zgI w k0 i else zgI w a i := by
  show (if a = k ∧ 0 ≤ i ∧ i < 0 + n then w.1 k0 (0 + (i - 0)) else w.1 a i) = _
  rw [Nat.zero_add, Nat.zero_add, Nat.sub_zero]
  by_cases e : a = k ∧ i < n
  · rw [if_pos e, if_pos ⟨e.1, Nat.zero_le _, e.2⟩]; rfl
  · rw [if_neg e, if_neg (by omega)]; rfl
theorem zgL_cL (w : zz_W) (k0 k n a i : Nat) : zgL (zcL w k0 0 k 0 n) a i = if a = k ∧ i < n then zgL w k0 i else zgL w a i := by
  show (if a = k ∧ 0 ≤ i ∧ i < 0 + n then w.2.1 k0 (0 + (i - 0)) else w.2.1 a i) = _
  rw [Nat.zero_add, Nat.zero_add, Nat.sub_zero]
  by_cases e : a = k ∧ i < n
  · rw [if_pos e, if_pos ⟨e.1, Nat.zero_le _, e.2⟩]; rfl
  · rw [if_neg e, if_neg (by omega)]; rfl
theorem zgR_cR (w : zz_W) (k0 k n a i : Nat) : zgR (zcR w k0 0 k 0 n) a i = if a = k ∧ i < n then zgR w k0 i else zgR w a i := by
  show (if a = k ∧ 0 ≤ i ∧ i < 0 + n then w.2.2.1 k0 (0 + (i - 0)) else w.2.2.1 a i) = _
  rw [Nat.zero_add, Nat.zero_add, Nat.sub_zero]
  by_cases e : a = k ∧ i < n
  · rw [if_pos e, if_pos ⟨e.1, Nat.zero_le _, e.2⟩]; rfl
  · rw [if_neg e, if_neg (by omega)]; rfl
theorem zcp10 (w : zz_W) (k0 k1 : Nat) : zcpI w k0 10 0 k1 10 0 10 = some (zcI w k0 0 k1 0 10) := by unfold zcpI; rw [if_pos (by decide)]; rfl
theorem zcp7 (w : zz_W) (k0 k1 : Nat) : zcpI w k0 7 0 k1 7 0 7 = some (zcI w k0 0 k1 0 7) := by unfold zcpI; rw [if_pos (by decide)]; rfl
theorem zcp3 (w : zz_W) (k0 k1 : Nat) : zcpI w k0 3 0 k1 3 0 3 = some (zcI w k0 0 k1 0 3) := by unfold zcpI; rw [if_pos (by decide)]; rfl
theorem zcpL10 (w : zz_W) (k0 k1 : Nat) : zcpL w k0 10 0 k1 10 0 10 = some (zcL w k0 0 k1 0 10) := by unfold zcpL; rw [if_pos (by decide)]; rfl
theorem zcpR14 (w : zz_W) (k0 k1 : Nat) (h : zokR w k0 0 14 = true) : zcpR w k0 14 0 k1 14 0 14 = some (zcR w k0 0 k1 0 14) := by unfold zcpR; rw [if_pos ⟨by decide, h⟩]; rfl
theorem zgI_cL (w : zz_W) (k0 k n a i : Nat) : zgI (zcL w k0 0 k 0 n) a i = zgI w a i := rfl
theorem zgI_cR (w : zz_W) (k0 k n a i : Nat) : zgI (zcR w k0 0 k 0 n) a i = zgI w a i := rfl
theorem zgL_cI (w : zz_W) (k0 k n a i : Nat) : zgL (zcI w k0 0 k 0 n) a i = zgL w a i := rfl
theorem zgL_cR (w : zz_W) (k0 k n a i : Nat) : zgL (zcR w k0 0 k 0 n) a i = zgL w a i := rfl
theorem zgR_cI (w : zz_W) (k0 k n a i : Nat) : zgR (zcI w k0 0 k 0 n) a i = zgR w a i := rfl
theorem zgR_cL (w : zz_W) (k0 k n a i : Nat) : zgR (zcL w k0 0 k 0 n) a i = zgR w a i := rfl
theorem zopt_n {β : Type} (x : β) (f : Nat → β) : zopt none x f = x := rfl
theorem zopt_q {β : Type} (q : Nat) (x : β) (f : Nat → β) : zopt (some q) x f = f q := rfl
/-- the loop that copies the laws, and the fields behind it -/
theorem c_laws {b a : Nat} (hne : ¬ a = b) : ∀ d j k c, j + d = 14 → d < k → zokR c (a + 8) 0 14 = true → ∃ c1, fX6_takeFrom_121 b a k (nI j) c = some c1 ∧
    (∀ i, 9 ≤ i → i ≤ 15 → zgI c1 b i = zgI c a i) ∧ (∀ x i, ¬ (x = b ∧ 9 ≤ i ∧ i ≤ 15) → zgI c1 x i = zgI c x i) ∧ (∀ x i, zgL c1 x i = zgL c x i) ∧
    (∀ i, j ≤ i → i < 14 → zgR c1 (b + 8) i = zgR c (a + 8) i) ∧ (∀ x i, ¬ (x = b + 8 ∧ j ≤ i ∧ i < 14) → zgR c1 x i = zgR c x i) ∧ c1.2.2.2 = c.2.2.2 := by
  intro d
  induction d with
  | zero =>
    intro j k c hj hk hR
    obtain ⟨k, rfl⟩ : ∃ x, k = x + 1 := ⟨k - 1, by omega⟩
    rw [fX6_takeFrom_121, if_pos (show (14 : Int32) ≤ nI j from nI_le (a := 14) (by omega) (by omega))]
    simp only [zbd_e]
    refine ⟨_, rfl, ?_, ?_, fun _ _ => rfl, fun i h1 h2 => absurd h1 (by omega), fun x i _ => rfl, rfl⟩
    · intro i h1 h2
      rcases (show i = 9 ∨ i = 10 ∨ i = 11 ∨ i = 12 ∨ i = 13 ∨ i = 14 ∨ i = 15 by omega) with rfl | rfl | rfl | rfl | rfl | rfl | rfl
      all_goals repeat first | rw [zgI_sI, if_neg (by omega)] | rw [zgI_sI, if_pos (by omega)]
    · intro x i hx
      repeat rw [zgI_sI, if_neg (by omega)]
  | succ d ih =>
    intro j k c hj hk hR
    obtain ⟨k, rfl⟩ : ∃ x, k = x + 1 := ⟨k - 1, by omega⟩
    have go : ∀ v : Option Nat, zgR c (a + 8) j = v → ∃ c1, fX6_takeFrom_121 b a k (nI (j + 1)) (zsR c (b + 8) j v) = some c1 ∧
        (∀ i, 9 ≤ i → i ≤ 15 → zgI c1 b i = zgI c a i) ∧ (∀ x i, ¬ (x = b ∧ 9 ≤ i ∧ i ≤ 15) → zgI c1 x i = zgI c x i) ∧ (∀ x i, zgL c1 x i = zgL c x i) ∧
        (∀ i, j ≤ i → i < 14 → zgR c1 (b + 8) i = zgR c (a + 8) i) ∧ (∀ x i, ¬ (x = b + 8 ∧ j ≤ i ∧ i < 14) → zgR c1 x i = zgR c x i) ∧ c1.2.2.2 = c.2.2.2 := by
      intro v hv
      have hR1 : zokR (zsR c (b + 8) j v) (a + 8) 0 14 = true := zokR_keep hR rfl (fun i _ => by rw [zgR_sR, if_neg (by omega)])
      obtain ⟨c1, r0, r1, r2, r3, r4, r5, r6⟩ := ih (j + 1) k (zsR c (b + 8) j v) (by omega) (by omega) hR1
      refine ⟨c1, r0, r1, r2, r3, ?_, ?_, r6⟩
      · intro i h1 h2
        by_cases e : i = j
        · subst e
          rw [r5 (b + 8) i (by omega), zgR_sR, if_pos ⟨rfl, rfl⟩, hv]
        · rw [r4 i (by omega) h2, zgR_sR, if_neg (by omega)]
      · intro x i hx
        rw [r5 x i (by omega), zgR_sR, if_neg (by omega)]
    rw [fX6_takeFrom_121, if_neg (show ¬ (14 : Int32) ≤ nI j from nI_ge (b := 14) (by omega) (by omega)), zldRn (i := j) (by omega) (by omega), zbd_s]
    cases hz : zgR c (a + 8) j with
    | none =>
      obtain ⟨c1, r0, r⟩ := go none hz
      refine ⟨c1, ?_, r⟩
      rw [zopt_n, zstRn (i := j) (by omega) (by omega), zbd_s, zbd_s, nI_1]
      exact r0
    | some q =>
      obtain ⟨c1, r0, r⟩ := go (some q) hz
      refine ⟨c1, ?_, r⟩
      rw [zopt_q, zgrd_h _ (zokR_at hR (show j < 14 by omega) (by rw [Nat.zero_add]; exact hz)), zstRn (i := j) (by omega) (by omega), zbd_s, zbd_s, nI_1]
      exact r0
theorem c_take {b a : Nat} (hb : zisW b = true) (ha : zisW a = true) (hd : a + 10 ≤ b ∨ b + 10 ≤ a) {c : zz_W} (hR : zokR c (a + 8) 0 14 = true) : ∃ c1, fX6_takeFrom b a c = some c1 ∧
    (∀ i, 9 ≤ i → i ≤ 15 → zgI c1 b i = zgI c a i) ∧ (∀ j i, 1 ≤ j → j ≤ 5 → i < 10 → zgI c1 (b + j) i = zgI c (a + j) i) ∧ (∀ i, i < 10 → zgL c1 (b + 6) i = zgL c (a + 6) i) ∧ (∀ i, i < 7 → zgI c1 (b + 7) i = zgI c (a + 7) i) ∧
    (∀ i, i < 14 → zgR c1 (b + 8) i = zgR c (a + 8) i) ∧ (∀ i, i < 3 → zgI c1 (b + 9) i = zgI c (a + 9) i) ∧ (∀ x i, ¬ (b ≤ x ∧ x ≤ b + 9) → zgI c1 x i = zgI c x i) ∧ (∀ x i, ¬ x = b + 6 → zgL c1 x i = zgL c x i) ∧
    (∀ x i, ¬ x = b + 8 → zgR c1 x i = zgR c x i) ∧ c1.2.2.2 = c.2.2.2 := by
  unfold fX6_takeFrom
  rw [zgrd_h _ hb, zgrd_h _ ha, zcp10, zbd_s, zcp10, zbd_s, zcp10, zbd_s, zcp10, zbd_s, zcp10, zbd_s, zcpL10, zbd_s, zcp7, zbd_s, zcp3, zbd_s]
  have hf := zfuel_big
  obtain ⟨c1, r0, r1, r2, r3, r4, r5, r6⟩ := c_laws (b := b) (a := a) (by omega) 14 0 zfuel (zcI (zcI (zcL (zcI (zcI (zcI (zcI (zcI c (a + 1) 0 (b + 1) 0 10) (a + 2) 0 (b + 2) 0 10) (a + 3) 0 (b + 3) 0 10) (a + 4) 0 (b + 4) 0 10) (a + 5) 0 (b + 5) 0 10) (a + 6) 0 (b + 6) 0 10) (a + 7) 0 (b + 7) 0 7) (a + 9) 0 (b + 9) 0 3) (by omega) (by omega) hR
  refine ⟨c1, r0, ?_, ?_, ?_, ?_, ?_, ?_, ?_, ?_, ?_, r6⟩
  · intro i h1 h2
    rw [r1 i h1 h2]
    repeat first | rw [zgI_cI, if_neg (by omega)] | rw [zgI_cL]
  · intro j i h1 h2 h3
    rw [r2 _ _ (by omega)]
    rcases (show j = 1 ∨ j = 2 ∨ j = 3 ∨ j = 4 ∨ j = 5 by omega) with rfl | rfl | rfl | rfl | rfl
    all_goals repeat first | rw [zgI_cI, if_neg (by omega)] | rw [zgI_cI, if_pos (by omega)] | rw [zgI_cL]
  · intro i hi
    rw [r3]
    repeat first | rw [zgL_cI] | rw [zgL_cL, if_pos (by omega)]
  · intro i hi
    rw [r2 _ _ (by omega)]
    repeat first | rw [zgI_cI, if_neg (by omega)] | rw [zgI_cI, if_pos (by omega)] | rw [zgI_cL]
  · intro i hi
    rw [r4 i (by omega) hi]
    repeat first | rw [zgR_cI] | rw [zgR_cL]
  · intro i hi
    rw [r2 _ _ (by omega)]
    repeat first | rw [zgI_cI, if_neg (by omega)] | rw [zgI_cI, if_pos (by omega)] | rw [zgI_cL]
  · intro x i hx
    rw [r2 _ _ (by omega)]
    repeat first | rw [zgI_cI, if_neg (by omega)] | rw [zgI_cL]
  · intro x i hx
    rw [r3]
    repeat first | rw [zgL_cI] | rw [zgL_cL, if_neg (by omega)]
  · intro x i hx
    rw [r5 x i (by omega)]
    repeat first | rw [zgR_cI] | rw [zgR_cL]
theorem m_copy {a1 a2 : Nat} (hne : ¬ a1 = a2) : ∀ d j k m, j + d = 1436 → d < k → ∃ m1, fX8_copyAll_2 a1 a2 k (nI j) m = some m1 ∧ (∀ i, j ≤ i → i < 1436 → zgI m1 a2 i = zgI m a1 i) ∧ (∀ x i, ¬ (x = a2 ∧ j ≤ i ∧ i < 1436) → zgI m1 x i = zgI m x i) ∧ m1.2 = m.2 := by
  intro d
  induction d with
  | zero =>
    intro j k m hj hk
    obtain ⟨k, rfl⟩ : ∃ x, k = x + 1 := ⟨k - 1, by omega⟩
    exact ⟨m, by rw [fX8_copyAll_2, if_pos (show (1436 : Int32) ≤ nI j from nI_le (a := 1436) (by omega) (by omega))], fun i h1 h2 => absurd h1 (by omega), fun x i _ => rfl, rfl⟩
  | succ d ih =>
    intro j k m hj hk
    obtain ⟨k, rfl⟩ : ∃ x, k = x + 1 := ⟨k - 1, by omega⟩
    obtain ⟨m1, r1, r2, r3, r4⟩ := ih (j + 1) k (zsI m a2 j (zgI m a1 j)) (by omega) (by omega)
    refine ⟨m1, ?_, ?_, ?_, r4⟩
    · rw [fX8_copyAll_2, if_neg (show ¬ (1436 : Int32) ≤ nI j from nI_ge (b := 1436) (by omega) (by omega)), zld (i := j) (by omega) (by omega), zbd_s, zst (i := j) (by omega) (by omega), zbd_s, zbd_s, nI_1]
      exact r1
    · intro i h1 h2
      by_cases e : i = j
      · subst e
        rw [r3 a2 i (by omega), zgI_sI, if_pos ⟨rfl, rfl⟩]
      · rw [r2 i (by omega) h2, zgI_sI, if_neg (by omega)]
    · intro x i hx
      rw [r3 x i (by omega), zgI_sI, if_neg (by omega)]
theorem m_copyAll {a1 a2 : Nat} (h1 : zisM a1 (.inl (0, 1436)) = true) (h2 : zisM a2 (.inl (0, 1436)) = true) (hne : ¬ a1 = a2) (m : zz_W) : ∃ m1, fX8_copyAll a1 a2 m = some m1 ∧ (∀ i, i < 1436 → zgI m1 a2 i = zgI m a1 i) ∧ (∀ x i, ¬ (x = a2 ∧ i < 1436) → zgI m1 x i = zgI m x i) ∧ m1.2 = m.2 := by
  have hf := zfuel_big
  obtain ⟨m1, r1, r2, r3, r4⟩ := m_copy hne 1436 0 zfuel m (by omega) (by omega)
  refine ⟨m1, ?_, fun i hi => r2 i (by omega) hi, fun x i hx => r3 x i (by omega), r4⟩
  unfold fX8_copyAll
  rw [zgrd_h _ h1, zgrd_h _ h2]
  exact r1
