/-! ===== text: the words of a tape ===== -/
def zLc (c c1 : zz_W) : Prop := (∀ a i, ¬ (a = 36 ∧ 3 ≤ i ∧ i ≤ 6) → zgI c1 a i = zgI c a i) ∧ c1.2 = c.2
def zLm (m m1 : zz_W) : Prop := ∀ a i, ¬ (a = 0 ∧ 9 ≤ i ∧ i ≤ 13) → zgI m1 a i = zgI m a i
theorem zLc_tr {c c1 c2 : zz_W} (h : zLc c c1) (h1 : zLc c1 c2) : zLc c c2 := ⟨fun a i hh => by rw [h1.1 a i hh, h.1 a i hh], by rw [h1.2, h.2]⟩
theorem zLm_tr {m m1 m2 : zz_W} (h : zLm m m1) (h1 : zLm m1 m2) : zLm m m2 := fun a i hh => by rw [h1 a i hh, h a i hh]
theorem zLc_s (c : zz_W) {i : Nat} (hi : 3 ≤ i ∧ i ≤ 6) (v : Int32) : zLc c (zsI c 36 i v) := ⟨fun a y hh => by rw [zgI_sI, if_neg (by omega)], rfl⟩
theorem zLm_s (m : zz_W) {i : Nat} (hi : 9 ≤ i ∧ i ≤ 13) (v : Int32) : zLm m (zsI m 0 i v) := fun a y hh => by rw [zgI_sI, if_neg (by omega)]
def zBy (c m : zz_W) (T : Nat) (B : Nat → Nat) : Prop := T ≤ 96 ∧ zgI c 36 0 = nI T ∧ zgI m 0 8 = nI T ∧ ∀ j, j < T → zgI c 37 j = nI (B j) ∧ zgI m 7 j = nI (B j) ∧ B j < 256
theorem zBy_L {c m c1 m1 : zz_W} {T : Nat} {B : Nat → Nat} (h : zBy c m T B) (hc : zLc c c1) (hm : zLm m m1) : zBy c1 m1 T B := by
  obtain ⟨b1, b2, b3, b4⟩ := h
  exact ⟨b1, by rw [hc.1 _ _ (by omega)]; exact b2, by rw [hm _ _ (by omega)]; exact b3, fun j hj => by rw [hc.1 _ _ (by omega), hm _ _ (by omega)]; exact b4 j hj⟩
def zkd (T : Nat) (B : Nat → Nat) (p : Nat) : Nat := if p < T then (if B p < 97 then (if B p < 48 then 3 else if 57 < B p then 3 else 2) else if 122 < B p then 3 else 1) else 0
theorem zkd_0 {T : Nat} {B : Nat → Nat} {p : Nat} : zkd T B p = 0 ↔ T ≤ p := by
  unfold zkd
  (repeat' split) <;> omega
theorem zkd_le (T : Nat) (B : Nat → Nat) (p : Nat) : zkd T B p ≤ 3 := by
  unfold zkd
  (repeat' split) <;> omega
theorem zkd_2 {T : Nat} {B : Nat → Nat} {p : Nat} (h : zkd T B p = 2) : 48 ≤ B p ∧ B p ≤ 57 := by
  unfold zkd at h
  split at h
  · split at h
    · split at h
      · omega
      · split at h <;> omega
    · split at h <;> omega
  · omega
theorem zcmp {a b : Nat} (ha : a < 2 ^ 31) (hb : b < 2 ^ 31) {α : Type} (x y : α) : (if nI a < nI b then x else y) = if a < b then x else y := by
  by_cases h : a < b
  · rw [if_pos h, if_pos (nI_lt h hb)]
  · rw [if_neg h, if_neg (nI_nlt (by omega) ha)]
theorem zcle {a b : Nat} (ha : a < 2 ^ 31) (hb : b < 2 ^ 31) {α : Type} (x y : α) : (if nI a ≤ nI b then x else y) = if a ≤ b then x else y := by
  by_cases h : a ≤ b
  · rw [if_pos h, if_pos (nI_le h hb)]
  · rw [if_neg h, if_neg (nI_ge (by omega) ha)]
theorem zceq {a b : Nat} (ha : a < 2 ^ 31) (hb : b < 2 ^ 31) {α : Type} (x y : α) : (if nI a = nI b then x else y) = if a = b then x else y := by
  by_cases h : a = b
  · rw [if_pos h, if_pos (by rw [h])]
  · rw [if_neg h, if_neg (fun z => h ((nI_eq ha hb).mp z))]
theorem c_sortAt {c m : zz_W} {T p : Nat} {B : Nat → Nat} (h : zBy c m T B) (hp : p < 2 ^ 31) : fX4_sortAt (nI p) c = some (nI (zkd T B p), c) := by
  obtain ⟨b1, b2, b3, b4⟩ := h
  unfold fX4_sortAt fX4_sortAt_31 zkd
  rw [zbd_s, b2, zcmp hp (by omega)]
  by_cases e : p < T
  · obtain ⟨e1, _, e3⟩ := b4 p e
    rw [if_pos e, if_pos e, zld (i := p) (by omega) (by omega), zbd_s, e1]
    rw [show (97 : Int32) = nI 97 from rfl, show (48 : Int32) = nI 48 from rfl, show (57 : Int32) = nI 57 from rfl, show (122 : Int32) = nI 122 from rfl]
    simp only [zcmp (show B p < 2 ^ 31 by omega) (show 97 < 2 ^ 31 by omega), zcmp (show B p < 2 ^ 31 by omega) (show 48 < 2 ^ 31 by omega), zcmp (show 57 < 2 ^ 31 by omega) (show B p < 2 ^ 31 by omega), zcmp (show 122 < 2 ^ 31 by omega) (show B p < 2 ^ 31 by omega)]
    (repeat' split) <;> first | rfl | omega
  · rw [if_neg e, if_neg e]; rfl
theorem m_isLetter {c m : zz_W} {T p : Nat} {B : Nat → Nat} (h : zBy c m T B) (hp : p < 2 ^ 31) : fX8_isLetter (nI p) m = some ((if zkd T B p = 1 then 1 else 0), m) := by
  obtain ⟨b1, b2, b3, b4⟩ := h
  unfold fX8_isLetter zkd
  rw [zbd_s, b3, zcle (by omega) hp]
  by_cases e : p < T
  · obtain ⟨_, e1, e3⟩ := b4 p e
    rw [if_neg (by omega), if_pos e, zld (i := p) (by omega) (by omega)]
    simp only [zbd_e]
    rw [e1, show (97 : Int32) = nI 97 from rfl, show (122 : Int32) = nI 122 from rfl]
    simp only [zcmp (show B p < 2 ^ 31 by omega) (show 97 < 2 ^ 31 by omega), zcmp (show 122 < 2 ^ 31 by omega) (show B p < 2 ^ 31 by omega)]
    (repeat' split) <;> first | rfl | omega
  · rw [if_pos (by omega), if_neg e]; rfl
theorem m_isFigure {c m : zz_W} {T p : Nat} {B : Nat → Nat} (h : zBy c m T B) (hp : p < 2 ^ 31) : fX8_isFigure (nI p) m = some ((if zkd T B p = 2 then 1 else 0), m) := by
  obtain ⟨b1, b2, b3, b4⟩ := h
  unfold fX8_isFigure zkd
  rw [zbd_s, b3, zcle (by omega) hp]
  by_cases e : p < T
  · obtain ⟨_, e1, e3⟩ := b4 p e
    rw [if_neg (by omega), if_pos e, zld (i := p) (by omega) (by omega)]
    simp only [zbd_e]
    rw [e1, show (48 : Int32) = nI 48 from rfl, show (57 : Int32) = nI 57 from rfl]
    simp only [zcmp (show B p < 2 ^ 31 by omega) (show 48 < 2 ^ 31 by omega), zcmp (show 57 < 2 ^ 31 by omega) (show B p < 2 ^ 31 by omega)]
    (repeat' split) <;> first | rfl | omega
  · rw [if_pos (by omega), if_neg e]; rfl
theorem w_skip (l1 l2 : Int32) {T : Nat} {B : Nat → Nat} : ∀ d p k k' c m, zBy c m T B → zgI c 36 3 = nI p → zgI m 0 9 = nI p → p + d = T → d < k → d < k' →
    ∃ st c1 m1, p ≤ st ∧ st ≤ T ∧ fX4_advance_18 k l1 l2 c = fX4_advance_56 l1 l2 c1 ∧ fX8_go_0 k' m = fX8_go_38 m1 ∧ zgI c1 36 3 = nI st ∧ zgI m1 0 9 = nI st ∧ (∀ a i, ¬ (a = 36 ∧ i = 3) → zgI c1 a i = zgI c a i) ∧ c1.2 = c.2 ∧ (∀ a i, ¬ (a = 0 ∧ i = 9) → zgI m1 a i = zgI m a i) ∧ (st < T → ¬ B st = 32) := by
  intro d
  induction d with
  | zero =>
    intro p k k' c m hb h1 h2 hp hk hk'
    obtain ⟨k, rfl⟩ : ∃ x, k = x + 1 := ⟨k - 1, by omega⟩
    obtain ⟨k', rfl⟩ : ∃ x, k' = x + 1 := ⟨k' - 1, by omega⟩
    obtain ⟨b1, b2, b3, b4⟩ := hb
    refine ⟨p, c, m, Nat.le_refl p, by omega, ?_, ?_, h1, h2, fun _ _ _ => rfl, rfl, fun _ _ _ => rfl, fun z => absurd z (by omega)⟩
    · rw [fX4_advance_18, zbd_s, zbd_s, h1, b2, if_pos (nI_le (by omega) (by omega))]
    · rw [fX8_go_0, zbd_s, zbd_s, h2, b3, if_pos (nI_le (by omega) (by omega))]
  | succ d ih =>
    intro p k k' c m hb h1 h2 hp hk hk'
    obtain ⟨k, rfl⟩ : ∃ x, k = x + 1 := ⟨k - 1, by omega⟩
    obtain ⟨k', rfl⟩ : ∃ x, k' = x + 1 := ⟨k' - 1, by omega⟩
    obtain ⟨b1, b2, b3, b4⟩ := id hb
    obtain ⟨e1, e2, e3⟩ := b4 p (by omega)
    rw [fX4_advance_18, zbd_s, zbd_s, h1, b2, if_neg (nI_ge (by omega) (by omega)), zbd_s, zld (i := p) (by omega) (by omega), zbd_s, e1, zbd_s, nI_1, zbd_s]
    rw [fX8_go_0, zbd_s, zbd_s, h2, b3, if_neg (nI_ge (by omega) (by omega)), zbd_s, zld (i := p) (by omega) (by omega), zbd_s, e2, zbd_s, nI_1, zbd_s]
    rw [show (32 : Int32) = nI 32 from rfl, zceq (by omega) (by omega), zceq (by omega) (by omega)]
    by_cases e : B p = 32
    · rw [if_pos e, if_pos e]
      obtain ⟨st, c1, m1, r1, r2, r3, r4, r5, r6, r7, r8, r9, r10⟩ := ih (p + 1) k k' (zsI c 36 3 (nI (p + 1))) (zsI m 0 9 (nI (p + 1))) (zBy_L hb (zLc_s c (by omega) _) (zLm_s m (by omega) _)) (by rw [zgI_sI, if_pos ⟨rfl, rfl⟩]) (by rw [zgI_sI, if_pos ⟨rfl, rfl⟩]) (by omega) (by omega) (by omega)
      exact ⟨st, c1, m1, by omega, r2, r3, r4, r5, r6, fun a i hh => by rw [r7 a i hh, zgI_sI, if_neg hh], by rw [r8]; rfl, fun a i hh => by rw [r9 a i hh, zgI_sI, if_neg hh], r10⟩
    · rw [if_neg e, if_neg e]
      exact ⟨p, c, m, Nat.le_refl p, by omega, rfl, rfl, h1, h2, fun _ _ _ => rfl, rfl, fun _ _ _ => rfl, fun _ => e⟩
theorem w_let (l1 l2 l : Int32) {T : Nat} {B : Nat → Nat} : ∀ d e k k' c m, zBy c m T B → zgI c 36 4 = nI e → zgI c 36 5 = nI 1 → zgI m 0 9 = nI e → e + d = T → d < k → d < k' →
    ∃ en c1 m1, e ≤ en ∧ en ≤ T ∧ fX4_advance_85 k l1 l2 c = fX4_advance_131 l1 l2 c1 ∧ fX8_go_93 k' l m = (if l = 0 then fX8_go_127 1 m1 else fX8_go_127 4 m1) ∧ zgI c1 36 4 = nI en ∧ zgI m1 0 9 = nI en ∧ (∀ a i, ¬ (a = 36 ∧ i = 4) → zgI c1 a i = zgI c a i) ∧ c1.2 = c.2 ∧ (∀ a i, ¬ (a = 0 ∧ i = 9) → zgI m1 a i = zgI m a i) := by
  intro d
  induction d with
  | zero =>
    intro e k k' c m hb h1 hs h2 hp hk hk'
    obtain ⟨k, rfl⟩ : ∃ x, k = x + 1 := ⟨k - 1, by omega⟩
    obtain ⟨k', rfl⟩ : ∃ x, k' = x + 1 := ⟨k' - 1, by omega⟩
    obtain ⟨b1, b2, b3, b4⟩ := id hb
    refine ⟨e, c, m, Nat.le_refl e, by omega, ?_, ?_, h1, h2, fun _ _ _ => rfl, rfl, fun _ _ _ => rfl⟩
    · rw [fX4_advance_85, zbd_s, zbd_s, h1, b2, if_pos (nI_le (by omega) (by omega))]
    · rw [fX8_go_93, zbd_s, h2, m_isLetter hb (by omega), zbd2_s, if_neg (show ¬ zkd T B e = 1 by rw [zkd_0.mpr (by omega)]; decide), if_pos rfl]
  | succ d ih =>
    intro e k k' c m hb h1 hs h2 hp hk hk'
    obtain ⟨k, rfl⟩ : ∃ x, k = x + 1 := ⟨k - 1, by omega⟩
    obtain ⟨k', rfl⟩ : ∃ x, k' = x + 1 := ⟨k' - 1, by omega⟩
    obtain ⟨b1, b2, b3, b4⟩ := id hb
    have hkl := zkd_le T B e
    have iw : fX4_isWord c = some (1, c) := by unfold fX4_isWord; rw [zbd_s, hs, if_pos (show nI 1 = 1 from rfl)]
    rw [fX4_advance_85, zbd_s, zbd_s, h1, b2, if_neg (nI_ge (by omega) (by omega)), iw, zbd2_s, if_neg z10, zbd_s, h1, c_sortAt hb (by omega), zbd2_s, zbd_s, hs, zceq (by omega) (by omega), zbd_s, h1, nI_1, zbd_s]
    rw [fX8_go_93, zbd_s, h2, m_isLetter hb (by omega), zbd2_s, zbd_s, h2, nI_1, zbd_s]
    by_cases q : zkd T B e = 1
    · rw [if_pos q, if_pos q, if_neg z10]
      obtain ⟨en, c1, m1, r1, r2, r3, r4, r5, r6, r7, r8, r9⟩ := ih (e + 1) k k' (zsI c 36 4 (nI (e + 1))) (zsI m 0 9 (nI (e + 1))) (zBy_L hb (zLc_s c (by omega) _) (zLm_s m (by omega) _)) (by rw [zgI_sI, if_pos ⟨rfl, rfl⟩]) (by rw [zgI_sI, if_neg (by omega)]; exact hs) (by rw [zgI_sI, if_pos ⟨rfl, rfl⟩]) (by omega) (by omega) (by omega)
      exact ⟨en, c1, m1, by omega, r2, r3, r4, r5, r6, fun a i hh => by rw [r7 a i hh, zgI_sI, if_neg hh], by rw [r8]; rfl, fun a i hh => by rw [r9 a i hh, zgI_sI, if_neg hh]⟩
    · rw [if_neg q, if_neg q, if_pos rfl]
      exact ⟨e, c, m, Nat.le_refl e, by omega, rfl, rfl, h1, h2, fun _ _ _ => rfl, rfl, fun _ _ _ => rfl⟩
def zdg (B : Nat → Nat) (st : Nat) : Nat → Nat
  | 0 => 0
  | k + 1 => 10 * zdg B st k + B (st + k) - 48
theorem zdg_lt {B : Nat → Nat} {st : Nat} : ∀ k, (∀ j, j < k → 48 ≤ B (st + j) ∧ B (st + j) ≤ 57) → zdg B st k < 10 ^ k := by
  intro k
  induction k with
  | zero => intro _; exact Nat.one_pos
  | succ k ih =>
    intro h
    have h1 := ih (fun j hj => h j (by omega))
    have h2 := h k (by omega)
    rw [zdg, Nat.pow_succ]
    omega
theorem zdg_lt4 {B : Nat → Nat} {st k : Nat} (hk : k ≤ 4) (h : ∀ j, j < k → 48 ≤ B (st + j) ∧ B (st + j) ≤ 57) : zdg B st k < 10000 := by
  have := zdg_lt k h
  have : 10 ^ k ≤ 10 ^ 4 := Nat.pow_le_pow_right (by omega) hk
  omega
theorem w_fig (l1 l2 l : Int32) {T st : Nat} {B : Nat → Nat} : ∀ d e k k' c m, zBy c m T B → st < e → zgI c 36 4 = nI e → zgI c 36 5 = nI 2 → zgI m 0 9 = nI e → zgI m 0 10 = nI st → zgI m 0 12 = nI (zdg B st (min (e - st) 4)) → (∀ j, st ≤ j → j < e → zkd T B j = 2) → e + d = T → d < k → d < k' →
    ∃ en c1 m1, e ≤ en ∧ en ≤ T ∧ fX4_advance_85 k l1 l2 c = fX4_advance_131 l1 l2 c1 ∧ fX8_go_170 k' l m = (if l = 0 then (if en - st ≤ 4 then fX8_go_261 2 m1 else fX8_go_256 m1) else fX8_go_256 m1) ∧ zgI c1 36 4 = nI en ∧ zgI m1 0 9 = nI en ∧ zgI m1 0 12 = nI (zdg B st (min (en - st) 4)) ∧ (∀ j, st ≤ j → j < en → zkd T B j = 2) ∧ (∀ a i, ¬ (a = 36 ∧ i = 4) → zgI c1 a i = zgI c a i) ∧ c1.2 = c.2 ∧ (∀ a i, ¬ (a = 0 ∧ (i = 9 ∨ i = 12)) → zgI m1 a i = zgI m a i) := by
  intro d
  induction d with
  | zero =>
    intro e k k' c m hb hse h1 hs h2 h10 h12 hd hp hk hk'
    obtain ⟨k, rfl⟩ : ∃ x, k = x + 1 := ⟨k - 1, by omega⟩
    obtain ⟨k', rfl⟩ : ∃ x, k' = x + 1 := ⟨k' - 1, by omega⟩
    obtain ⟨b1, b2, b3, b4⟩ := id hb
    refine ⟨e, c, m, Nat.le_refl e, by omega, ?_, ?_, h1, h2, h12, hd, fun _ _ _ => rfl, rfl, fun _ _ _ => rfl⟩
    · rw [fX4_advance_85, zbd_s, zbd_s, h1, b2, if_pos (nI_le (by omega) (by omega))]
    · rw [fX8_go_170, zbd_s, h2, m_isFigure hb (by omega), zbd2_s, if_neg (show ¬ zkd T B e = 2 by rw [zkd_0.mpr (by omega)]; decide), if_pos rfl, zbd_s, zbd_s, h2, h10, pk_sub (by omega), show (4 : Int32) = nI 4 from rfl, zcle (by omega) (by omega)]
  | succ d ih =>
    intro e k k' c m hb hse h1 hs h2 h10 h12 hd hp hk hk'
    obtain ⟨k, rfl⟩ : ∃ x, k = x + 1 := ⟨k - 1, by omega⟩
    obtain ⟨k', rfl⟩ : ∃ x, k' = x + 1 := ⟨k' - 1, by omega⟩
    obtain ⟨b1, b2, b3, b4⟩ := id hb
    have hkl := zkd_le T B e
    have iw : fX4_isWord c = some (1, c) := by unfold fX4_isWord; rw [zbd_s, hs, if_neg (show ¬ nI 2 = 1 by decide), zbd_s, if_pos (show nI 2 = 2 from rfl)]
    rw [fX4_advance_85, zbd_s, zbd_s, h1, b2, if_neg (nI_ge (by omega) (by omega)), iw, zbd2_s, if_neg z10, zbd_s, h1, c_sortAt hb (by omega), zbd2_s, zbd_s, hs, zceq (by omega) (by omega), zbd_s, h1, nI_1, zbd_s]
    rw [fX8_go_170, zbd_s, h2, m_isFigure hb (by omega), zbd2_s]
    by_cases q : zkd T B e = 2
    · have hB := zkd_2 q
      obtain ⟨_, e2, e3⟩ := b4 e (by omega)
      have go : ∀ v, v = nI (zdg B st (min (e + 1 - st) 4)) → ∃ en c1 m1, e ≤ en ∧ en ≤ T ∧ fX4_advance_85 k l1 l2 (zsI c 36 4 (nI (e + 1))) = fX4_advance_131 l1 l2 c1 ∧ fX8_go_222 (fX8_go_170 k') l v m = (if l = 0 then (if en - st ≤ 4 then fX8_go_261 2 m1 else fX8_go_256 m1) else fX8_go_256 m1) ∧ zgI c1 36 4 = nI en ∧ zgI m1 0 9 = nI en ∧ zgI m1 0 12 = nI (zdg B st (min (en - st) 4)) ∧ (∀ j, st ≤ j → j < en → zkd T B j = 2) ∧ (∀ a i, ¬ (a = 36 ∧ i = 4) → zgI c1 a i = zgI c a i) ∧ c1.2 = c.2 ∧ (∀ a i, ¬ (a = 0 ∧ (i = 9 ∨ i = 12)) → zgI m1 a i = zgI m a i) := by
        intro v hv
        unfold fX8_go_222
        have x9 : zgI (zsI m 0 12 v) 0 9 = nI e := by rw [zgI_sI, if_neg (by omega)]; exact h2
        rw [zbd_s, zbd_s, x9, nI_1, zbd_s]
        obtain ⟨en, c1, m1, r1, r2, r3, r4, r5, r6, r7, r8, r9, r10, r11⟩ := ih (e + 1) k k' (zsI c 36 4 (nI (e + 1))) (zsI (zsI m 0 12 v) 0 9 (nI (e + 1))) (zBy_L hb (zLc_s c (by omega) _) (zLm_tr (zLm_s m (by omega) _) (zLm_s _ (by omega) _))) (by omega) (by rw [zgI_sI, if_pos ⟨rfl, rfl⟩]) (by rw [zgI_sI, if_neg (by omega)]; exact hs) (by rw [zgI_sI, if_pos ⟨rfl, rfl⟩]) (by rw [zgI_sI, if_neg (by omega), zgI_sI, if_neg (by omega)]; exact h10) (by rw [zgI_sI, if_neg (by omega), zgI_sI, if_pos ⟨rfl, rfl⟩]; exact hv) (fun j h1 h2 => by
          by_cases z : j = e
          · rw [z]; exact q
          · exact hd j h1 (by omega)) (by omega) (by omega) (by omega)
        exact ⟨en, c1, m1, by omega, r2, r3, r4, r5, r6, r7, r8, fun a i hh => by rw [r9 a i hh, zgI_sI, if_neg hh], by rw [r10]; rfl, fun a i hh => by rw [r11 a i hh, zgI_sI, if_neg (by omega), zgI_sI, if_neg (by omega)]⟩
      rw [if_pos q, if_pos q, if_neg z10, zbd_s, zbd_s, h2, h10, pk_sub (by omega), show (4 : Int32) = nI 4 from rfl, zcle (by omega) (by omega)]
      by_cases q4 : 4 ≤ e - st
      · rw [if_pos q4, zbd_s, h12]
        exact go _ (by rw [show min (e - st) 4 = 4 by omega, show min (e + 1 - st) 4 = 4 by omega])
      · rw [if_neg q4, zbd_s, zbd_s, h12, zld (i := e) (by omega) (by omega), zbd_s, e2]
        refine go _ ?_
        rw [show min (e - st) 4 = e - st by omega, show min (e + 1 - st) 4 = (e - st) + 1 by omega, zdg, show st + (e - st) = e by omega]
        have lt := zdg_lt4 (B := B) (st := st) (k := e - st) (by omega) (fun j hj => zkd_2 (hd (st + j) (by omega) (by omega)))
        rw [show (10 : Int32) * nI (zdg B st (e - st)) = nI (10 * zdg B st (e - st)) from pk_mul 10 _, nI_add, show (48 : Int32) = nI 48 from rfl, pk_sub (by omega)]
    · rw [if_neg q, if_neg q, if_pos rfl, zbd_s, zbd_s, h2, h10, pk_sub (by omega), show (4 : Int32) = nI 4 from rfl, zcle (by omega) (by omega)]
      exact ⟨e, c, m, Nat.le_refl e, by omega, rfl, rfl, h1, h2, h12, hd, fun _ _ _ => rfl, rfl, fun _ _ _ => rfl⟩
/-- a word stands read, on both sides -/
def zTk (T : Nat) (B : Nat → Nat) (c m : zz_W) (st en κ : Nat) (bad : Prop) : Prop :=
  zgI c 36 3 = nI st ∧ zgI c 36 4 = nI en ∧ zgI c 36 5 = nI κ ∧ zgI m 0 10 = nI st ∧ zgI m 0 9 = nI en ∧ κ = zkd T B st ∧ st ≤ en ∧ en ≤ T ∧ (¬ κ = 0 → st < en) ∧ (κ = 3 → en = st + 1) ∧
  ((κ = 1 ∨ κ = 2) → zgI m 0 13 = nI en) ∧ (κ = 3 → zgI m 0 13 = -1 ∨ ∃ e, e < en ∧ zgI m 0 13 = nI e) ∧
  ((κ = 1 ∨ κ = 3) → zgI m 0 12 = nI (B st)) ∧ (κ = 2 → zgI m 0 12 = nI (zdg B st (min (en - st) 4)) ∧ ∀ j, st ≤ j → j < en → zkd T B j = 2) ∧
  ((bad ∧ zgI c 36 6 = nI st ∧ zgI m 0 11 = 4 ∧ (κ = 1 ∨ κ = 2)) ∨ (¬ bad ∧ zgI c 36 6 = -1 ∧ zgI m 0 11 = (if κ = 2 ∧ 4 < en - st then 4 else nI κ)))
theorem c_131 (l2 : Nat) (hl : l2 ≤ 96) {w st κ : Nat} {c : zz_W} (hw : w = 0 ∨ w = 1) (hst : st ≤ 96) (hκ : κ ≤ 3) (h3 : zgI c 36 3 = nI st) (h5 : zgI c 36 5 = nI κ) (h6 : zgI c 36 6 = -1) :
    fX4_advance_131 (nI w) (nI l2) c = some (if w = 1 ∧ (κ = 1 ∨ κ = 2) ∧ st = l2 then zsI c 36 6 (nI st) else c) := by
  unfold fX4_advance_131 fX4_isWord fX4_blame
  rcases hw with rfl | rfl
  · rw [if_pos (show nI 0 = 0 from rfl), if_neg (by omega)]
  · rw [if_neg (show ¬ nI 1 = 0 by decide), zbd_s, h5]
    rw [show (1 : Int32) = nI 1 from rfl, show (2 : Int32) = nI 2 from rfl]
    rw [zceq (by omega) (by omega)]
    have go : zbd2 (some (nI 1, c)) (fun x42 w43 => if x42 = 0 then some w43 else zbd (some (zgI w43 36 3)) fun x45 => if x45 = nI l2 then zbd (zbd (some (zgI w43 36 6)) fun x5 => if 0 ≤ x5 then some w43 else zbd (some (zgI w43 36 3)) fun x7 => zbd (some (zsI w43 36 6 x7)) fun w8 => some w8) (fun w47 => some w47) else some w43) = some (if st = l2 then zsI c 36 6 (nI st) else c) := by
      rw [zbd2_s, if_neg (show ¬ nI 1 = 0 by decide), zbd_s, h3, zceq (by omega) (by omega)]
      by_cases e : st = l2
      · rw [if_pos e, if_pos e, zbd_s, h6, if_neg (show ¬ (0 : Int32) ≤ -1 by decide), zbd_s, zbd_s, zbd_s]
      · rw [if_neg e, if_neg e]
    by_cases e1 : κ = 1
    · rw [if_pos e1, go]
      congr 1
      by_cases e : st = l2
      · rw [if_pos e, if_pos ⟨rfl, Or.inl e1, e⟩]
      · rw [if_neg e, if_neg (fun z => e z.2.2)]
    · rw [if_neg e1, zbd_s, zceq (by omega) (by omega)]
      by_cases e2 : κ = 2
      · rw [if_pos e2, go]
        congr 1
        by_cases e : st = l2
        · rw [if_pos e, if_pos ⟨rfl, Or.inr e2, e⟩]
        · rw [if_neg e, if_neg (fun z => e z.2.2)]
      · rw [if_neg e2, zbd2_s, if_pos rfl, if_neg (by omega)]
theorem w_lex {c m : zz_W} {T p κ0 : Nat} {B : Nat → Nat} (hb : zBy c m T B) (hκ0 : κ0 ≤ 3) (hp : p ≤ T) (h4 : zgI c 36 4 = nI p) (h5 : zgI c 36 5 = nI κ0) (h6 : zgI c 36 6 = -1) (h9 : zgI m 0 9 = nI p) (hw : (κ0 = 1 ∨ κ0 = 2) → zgI m 0 13 = nI p) (hn : ¬ (κ0 = 1 ∨ κ0 = 2) → zgI m 0 13 = -1 ∨ ∃ e, e < p ∧ zgI m 0 13 = nI e) :
    ∃ c1 m1 st en κ bad, fX4_advance c = some c1 ∧ fX8_go m = some m1 ∧ p ≤ st ∧ zTk T B c1 m1 st en κ bad ∧ zLc c c1 ∧ zLm m m1 ∧ (bad → κ0 = 1 ∨ κ0 = 2) := by
  have hf := zfuel_big
  have hT := hb.1
  obtain ⟨w, hw01, iw, hww⟩ : ∃ w, (w = 0 ∨ w = 1) ∧ fX4_isWord c = some (nI w, c) ∧ (w = 1 ↔ (κ0 = 1 ∨ κ0 = 2)) := by
    unfold fX4_isWord
    rw [zbd_s, h5]
    rcases (show κ0 = 0 ∨ κ0 = 1 ∨ κ0 = 2 ∨ κ0 = 3 by omega) with rfl | rfl | rfl | rfl
    · exact ⟨0, Or.inl rfl, rfl, by omega⟩
    · exact ⟨1, Or.inr rfl, rfl, by omega⟩
    · exact ⟨1, Or.inr rfl, rfl, by omega⟩
    · exact ⟨0, Or.inl rfl, rfl, by omega⟩
  obtain ⟨st, c1, m1, s1, s2, s3, s4, s5, s6, s7, s8, s9, s10⟩ := w_skip (nI w) (nI p) (T := T) (B := B) (T - p) p zfuel (zfuel + 1) (zsI c 36 3 (nI p)) m (zBy_L hb (zLc_s c (by omega) _) (fun _ _ _ => rfl)) (by rw [zgI_sI, if_pos ⟨rfl, rfl⟩]) h9 (by omega) (by omega) (by omega)
  have lc1 : zLc c c1 := ⟨fun a i hh => by rw [s7 a i (by omega), zgI_sI, if_neg (by omega)], by rw [s8]; rfl⟩
  have lm1 : zLm m m1 := fun a i hh => s9 a i (by omega)
  have hA : fX4_advance c = fX4_advance_56 (nI w) (nI p) c1 := by
    unfold fX4_advance
    rw [iw, zbd2_s, zbd_s, zbd_s, zbd_s, h4, s3]
  have hG : fX8_go m = fX8_go_38 m1 := s4
  have hb1 := zBy_L hb lc1 lm1
  have h6' : zgI c1 36 6 = -1 := by rw [s7 _ _ (by omega), zgI_sI, if_neg (by omega)]; exact h6
  have h13 : zgI m1 0 13 = zgI m 0 13 := s9 _ _ (by omega)
  obtain ⟨b1, b2, b3, b4⟩ := id hb1
  -- is it close behind a word?
  have hcl : zgI m1 0 13 = nI st ↔ (w = 1 ∧ st = p) := by
    rw [h13]
    by_cases q : κ0 = 1 ∨ κ0 = 2
    · rw [hw q]
      exact ⟨fun z => ⟨hww.mpr q, ((nI_eq (by omega) (by omega)).mp z).symm⟩, fun z => by rw [z.2]⟩
    · have w0 : ¬ w = 1 := fun z => q (hww.mp z)
      refine ⟨fun z => ?_, fun z => absurd z.1 w0⟩
      exfalso
      rcases hn q with e | ⟨e, he, e1⟩
      · rw [e] at z
        have := congrArg Int32.toInt z
        rw [nI_toInt (by omega)] at this
        have : (-1 : Int32).toInt = -1 := by decide
        omega
      · rw [e1] at z
        have := (nI_eq (by omega) (by omega)).mp z
        omega
  -- the component up to its run of like bytes
  have kle := zkd_le T B st
  have hC : fX4_advance_56 (nI w) (nI p) c1 = fX4_advance_85 zfuel (nI w) (nI p) (zsI (zsI c1 36 5 (nI (zkd T B st))) 36 4 (nI (min T (st + 1)))) := by
    unfold fX4_advance_56
    rw [zbd_s, s5, c_sortAt hb1 (by omega), zbd2_s, zbd_s, zbd_s, zbd_s, zgI_sI, if_neg (by omega), zgI_sI, if_neg (by omega), b2, s5, nI_1, zbd_s]
    congr 2
    have := zmin_min (d := st + 1) (T := T) (by omega) (by omega)
    rw [Nat.min_comm] at this
    rw [this]
  have lc2 : zLc c1 (zsI (zsI c1 36 5 (nI (zkd T B st))) 36 4 (nI (min T (st + 1)))) := zLc_tr (zLc_s _ (by omega) _) (zLc_s _ (by omega) _)
  -- the reference up to its choice
  have hM : fX8_go_38 m1 = fX8_go_62 (if zgI m1 0 13 = nI st then 1 else 0) (zsI m1 0 10 (nI st)) := by
    unfold fX8_go_38
    rw [zbd_s, s6, zbd_s, zbd_s, zbd_s, show zgI (zsI m1 0 10 (nI st)) 0 10 = nI st by rw [zgI_sI, if_pos ⟨rfl, rfl⟩], show zgI (zsI m1 0 10 (nI st)) 0 13 = zgI m1 0 13 by rw [zgI_sI, if_neg (by omega)]]
    by_cases q : zgI m1 0 13 = nI st
    · rw [if_pos q.symm, if_pos q]
    · rw [if_neg (fun z => q z.symm), if_neg q]
  have lm2 : zLm m1 (zsI m1 0 10 (nI st)) := zLm_s _ (by omega) _
  have hb2 := zBy_L hb1 lc2 lm2
  have x3 : zgI (zsI (zsI c1 36 5 (nI (zkd T B st))) 36 4 (nI (min T (st + 1)))) 36 3 = nI st := by rw [zgI_sI, if_neg (by omega), zgI_sI, if_neg (by omega)]; exact s5
  have x4 : zgI (zsI (zsI c1 36 5 (nI (zkd T B st))) 36 4 (nI (min T (st + 1)))) 36 4 = nI (min T (st + 1)) := by rw [zgI_sI, if_pos ⟨rfl, rfl⟩]
  have x5 : zgI (zsI (zsI c1 36 5 (nI (zkd T B st))) 36 4 (nI (min T (st + 1)))) 36 5 = nI (zkd T B st) := by rw [zgI_sI, if_neg (by omega), zgI_sI, if_pos ⟨rfl, rfl⟩]
  have x6 : zgI (zsI (zsI c1 36 5 (nI (zkd T B st))) 36 4 (nI (min T (st + 1)))) 36 6 = -1 := by rw [zgI_sI, if_neg (by omega), zgI_sI, if_neg (by omega)]; exact h6'
  generalize (zsI (zsI c1 36 5 (nI (zkd T B st))) 36 4 (nI (min T (st + 1)))) = c2 at *
  have y10 : zgI (zsI m1 0 10 (nI st)) 0 10 = nI st := by rw [zgI_sI, if_pos ⟨rfl, rfl⟩]
  have y9 : zgI (zsI m1 0 10 (nI st)) 0 9 = nI st := by rw [zgI_sI, if_neg (by omega)]; exact s6
  have y13 : zgI (zsI m1 0 10 (nI st)) 0 13 = zgI m1 0 13 := by rw [zgI_sI, if_neg (by omega)]
  rw [hA, hC, hG, hM]
  generalize (zsI m1 0 10 (nI st)) = m2 at *
  generalize hcl1 : (if zgI m1 0 13 = nI st then (1 : Int32) else 0) = cl at *
  have lcT : ∀ {c3}, zLc c2 c3 → zLc c c3 := fun h => zLc_tr lc1 (zLc_tr lc2 h)
  have lmT : ∀ {m3}, zLm m2 m3 → zLm m m3 := fun h => zLm_tr lm1 (zLm_tr lm2 h)
  rcases (show zkd T B st = 0 ∨ zkd T B st = 3 ∨ zkd T B st = 1 ∨ zkd T B st = 2 by omega) with e | e | e | e
  · -- the end
    have hst : st = T := by have := zkd_0.mp e; omega
    subst hst
    rw [e] at x5
    refine ⟨c2, zsI m2 0 11 0, st, st, 0, False, ?_, ?_, s1, ⟨x3, by rw [x4]; congr 1; omega, x5, by rw [zgI_sI, if_neg (by omega)]; exact y10, by rw [zgI_sI, if_neg (by omega)]; exact y9, e.symm, Nat.le_refl _, Nat.le_refl _, fun z => absurd rfl z, fun z => by omega, fun z => by omega, fun z => by omega, fun z => by omega, fun z => by omega, Or.inr ⟨id, x6, by rw [zgI_sI, if_pos ⟨rfl, rfl⟩]; rfl⟩⟩, lcT ⟨fun _ _ _ => rfl, rfl⟩, lmT (zLm_s _ (by omega) _), False.elim⟩
    · obtain ⟨f, hf1⟩ : ∃ f, zfuel = f + 1 := ⟨3999, rfl⟩
      rw [hf1, fX4_advance_85, zbd_s, zbd_s, x4, hb2.2.1, if_pos (nI_le (by omega) (by omega)), c_131 p (by omega) hw01 (by omega) (show 0 ≤ 3 by omega) x3 x5 x6, if_neg (by omega)]
    · unfold fX8_go_62
      rw [zbd_s, zbd_s, y10, hb2.2.2.1, if_pos rfl, zbd_s]
  · -- a sign
    have hst : st < T := by
      rcases Nat.lt_or_ge st T with z | z
      · exact z
      · have := (zkd_0 (B := B)).mpr z; omega
    obtain ⟨_, e2, e3⟩ := hb2.2.2.2 st hst
    rw [e] at x5
    have em : min T (st + 1) = st + 1 := by omega
    rw [em] at x4
    refine ⟨c2, zsI (zsI (zsI m2 0 11 3) 0 12 (nI (B st))) 0 9 (nI (st + 1)), st, st + 1, 3, False, ?_, ?_, s1, ⟨x3, x4, x5, ?_, by rw [zgI_sI, if_pos ⟨rfl, rfl⟩], e.symm, by omega, by omega, fun _ => by omega, fun _ => rfl, fun z => by omega, fun _ => ?_, fun _ => ?_, fun z => by omega, Or.inr ⟨id, x6, ?_⟩⟩, lcT ⟨fun _ _ _ => rfl, rfl⟩, lmT (zLm_tr (zLm_s _ (by omega) _) (zLm_tr (zLm_s _ (by omega) _) (zLm_s _ (by omega) _))), False.elim⟩
    · obtain ⟨f, hf1⟩ : ∃ f, zfuel = f + 1 := ⟨3999, rfl⟩
      have fin := c_131 p (by omega) hw01 (show st ≤ 96 by omega) (show 3 ≤ 3 by omega) x3 x5 x6
      rw [if_neg (by omega)] at fin
      have iw2 : fX4_isWord c2 = some (0, c2) := by unfold fX4_isWord; rw [zbd_s, x5]; rfl
      rw [hf1, fX4_advance_85, zbd_s, zbd_s, x4, hb2.2.1, iw2, zbd2_s, if_pos rfl, fin]
      split <;> rfl
    · unfold fX8_go_62
      rw [zbd_s, zbd_s, y10, hb2.2.2.1, zceq (by omega) (by omega), if_neg (by omega), zbd_s, m_isLetter hb2 (by omega), zbd2_s, if_neg (show ¬ zkd T B st = 1 by omega), if_pos rfl, zbd_s, y10, m_isFigure hb2 (by omega), zbd2_s, if_neg (show ¬ zkd T B st = 2 by omega), if_pos rfl, zbd_s, zbd_s, zgI_sI, if_neg (by omega), y10, zld (i := st) (by omega) (by omega), zbd_s, zgI_sI, if_neg (by omega), e2, zbd_s, zbd_s, zgI_sI, if_neg (by omega), zgI_sI, if_neg (by omega), y9, nI_1, zbd_s]
    · rw [zgI_sI, if_neg (by omega), zgI_sI, if_neg (by omega), zgI_sI, if_neg (by omega)]; exact y10
    · rw [zgI_sI, if_neg (by omega), zgI_sI, if_neg (by omega), zgI_sI, if_neg (by omega), y13, h13]
      by_cases q : κ0 = 1 ∨ κ0 = 2
      · exact Or.inr ⟨p, by omega, hw q⟩
      · rcases hn q with z | ⟨z, z1, z2⟩
        · exact Or.inl z
        · exact Or.inr ⟨z, by omega, z2⟩
    · rw [zgI_sI, if_neg (by omega), zgI_sI, if_pos ⟨rfl, rfl⟩]
    · rw [zgI_sI, if_neg (by omega), zgI_sI, if_neg (by omega), zgI_sI, if_pos ⟨rfl, rfl⟩, if_neg (by omega)]; rfl
  · -- letters
    have hst : st < T := by
      rcases Nat.lt_or_ge st T with z | z
      · exact z
      · have := (zkd_0 (B := B)).mpr z; omega
    obtain ⟨_, e2, e3⟩ := hb2.2.2.2 st hst
    rw [e] at x5
    have em : min T (st + 1) = st + 1 := by omega
    rw [em] at x4
    obtain ⟨en, c3, m3, r1, r2, r3, r4, r5, r6, r7, r8, r9⟩ := w_let (nI w) (nI p) cl (T := T) (B := B) (T - (st + 1)) (st + 1) zfuel (zfuel - 1) c2 (zsI m2 0 9 (nI (st + 1))) (zBy_L hb2 ⟨fun _ _ _ => rfl, rfl⟩ (zLm_s _ (by omega) _)) x4 x5 (by rw [zgI_sI, if_pos ⟨rfl, rfl⟩]) (by omega) (by omega) (by omega)
    have f3 : zgI c3 36 3 = nI st := by rw [r7 _ _ (by omega)]; exact x3
    have f5 : zgI c3 36 5 = nI 1 := by rw [r7 _ _ (by omega)]; exact x5
    have f6 : zgI c3 36 6 = -1 := by rw [r7 _ _ (by omega)]; exact x6
    have lc3 : zLc c2 c3 := ⟨fun a i hh => r7 a i (by omega), r8⟩
    have lm3 : zLm m2 m3 := fun a i hh => by rw [r9 a i (by omega), zgI_sI, if_neg (by omega)]
    have hb3 := zBy_L hb2 lc3 lm3
    have f10 : zgI m3 0 10 = nI st := by rw [r9 _ _ (by omega), zgI_sI, if_neg (by omega)]; exact y10
    have hgo : fX8_go_62 cl m2 = (if cl = 0 then fX8_go_127 1 m3 else fX8_go_127 4 m3) := by
      unfold fX8_go_62
      rw [zbd_s, zbd_s, y10, hb2.2.2.1, zceq (by omega) (by omega), if_neg (by omega), zbd_s, m_isLetter hb2 (by omega), zbd2_s, if_pos e, if_neg z10, show zfuel = zfuel - 1 + 1 from rfl, fX8_go_93, zbd_s, y9, m_isLetter hb2 (by omega), zbd2_s, if_pos e, if_neg z10, zbd_s, y9, nI_1, zbd_s]
      exact r4
    have g127 : ∀ v, fX8_go_127 v m3 = some (zsI (zsI (zsI m3 0 11 v) 0 12 (nI (B st))) 0 13 (nI en)) := by
      intro v
      unfold fX8_go_127
      rw [zbd_s, zbd_s, zgI_sI, if_neg (by omega), f10, zld (i := st) (by omega) (by omega), zbd_s, zgI_sI, if_neg (by omega), (hb3.2.2.2 st hst).2.1, zbd_s, zbd_s, zgI_sI, if_neg (by omega), zgI_sI, if_neg (by omega), r6, zbd_s]
    have fin := c_131 p (by omega) hw01 (show st ≤ 96 by omega) (show 1 ≤ 3 by omega) f3 f5 f6
    have hb3k := (hb3.2.2.2 st hst).2.1
    by_cases q : w = 1 ∧ st = p
    · have hcl2 : cl = 1 := by rw [← hcl1, if_pos (hcl.mpr q)]
      rw [if_pos ⟨q.1, Or.inl rfl, q.2⟩] at fin
      refine ⟨_, _, st, en, 1, True, by rw [r3, fin], by rw [hgo, hcl2, if_neg z10, g127], s1, ⟨?_, ?_, ?_, ?_, ?_, e.symm, by omega, r2, fun _ => by omega, fun z => by omega, fun _ => ?_, fun z => by omega, fun _ => ?_, fun z => by omega, Or.inl ⟨trivial, ?_, ?_, Or.inl rfl⟩⟩, lcT (zLc_tr lc3 (zLc_s _ (by omega) _)), lmT (zLm_tr lm3 (zLm_tr (zLm_s _ (by omega) _) (zLm_tr (zLm_s _ (by omega) _) (zLm_s _ (by omega) _)))), fun _ => hww.mp q.1⟩
      · rw [zgI_sI, if_neg (by omega)]; exact f3
      · rw [zgI_sI, if_neg (by omega)]; exact r5
      · rw [zgI_sI, if_neg (by omega)]; exact f5
      · rw [zgI_sI, if_neg (by omega), zgI_sI, if_neg (by omega), zgI_sI, if_neg (by omega)]; exact f10
      · rw [zgI_sI, if_neg (by omega), zgI_sI, if_neg (by omega), zgI_sI, if_neg (by omega)]; exact r6
      · rw [zgI_sI, if_pos ⟨rfl, rfl⟩]
      · rw [zgI_sI, if_neg (by omega), zgI_sI, if_pos ⟨rfl, rfl⟩]
      · rw [zgI_sI, if_pos ⟨rfl, rfl⟩]
      · rw [zgI_sI, if_neg (by omega), zgI_sI, if_neg (by omega), zgI_sI, if_pos ⟨rfl, rfl⟩]
    · have hcl2 : cl = 0 := by rw [← hcl1, if_neg (fun z => q (hcl.mp z))]
      rw [if_neg (fun z => q ⟨z.1, z.2.2⟩)] at fin
      refine ⟨_, _, st, en, 1, False, by rw [r3, fin], by rw [hgo, hcl2, if_pos rfl, g127], s1, ⟨f3, r5, f5, ?_, ?_, e.symm, by omega, r2, fun _ => by omega, fun z => by omega, fun _ => ?_, fun z => by omega, fun _ => ?_, fun z => by omega, Or.inr ⟨id, f6, ?_⟩⟩, lcT lc3, lmT (zLm_tr lm3 (zLm_tr (zLm_s _ (by omega) _) (zLm_tr (zLm_s _ (by omega) _) (zLm_s _ (by omega) _)))), False.elim⟩
      · rw [zgI_sI, if_neg (by omega), zgI_sI, if_neg (by omega), zgI_sI, if_neg (by omega)]; exact f10
      · rw [zgI_sI, if_neg (by omega), zgI_sI, if_neg (by omega), zgI_sI, if_neg (by omega)]; exact r6
      · rw [zgI_sI, if_pos ⟨rfl, rfl⟩]
      · rw [zgI_sI, if_neg (by omega), zgI_sI, if_pos ⟨rfl, rfl⟩]
      · rw [zgI_sI, if_neg (by omega), zgI_sI, if_neg (by omega), zgI_sI, if_pos ⟨rfl, rfl⟩, if_neg (by omega)]; rfl
  · -- figures
    have hst : st < T := by
      rcases Nat.lt_or_ge st T with z | z
      · exact z
      · have := (zkd_0 (B := B)).mpr z; omega
    obtain ⟨_, e2, e3⟩ := hb2.2.2.2 st hst
    have hB := zkd_2 e
    rw [e] at x5
    have em : min T (st + 1) = st + 1 := by omega
    rw [em] at x4
    have ez : nI (zdg B st (min (st + 1 - st) 4)) = (10 * (0 : Int32) + nI (B st)) - 48 := by
      rw [show min (st + 1 - st) 4 = 0 + 1 by omega, zdg, zdg, Nat.add_zero, show (10 : Int32) * 0 = nI 0 from rfl, nI_add, show (48 : Int32) = nI 48 from rfl, pk_sub (by omega)]
    obtain ⟨en, c3, m3, r1, r2, r3, r4, r5, r6, r12, rd, r7, r8, r9⟩ := w_fig (nI w) (nI p) cl (T := T) (st := st) (B := B) (T - (st + 1)) (st + 1) zfuel (zfuel - 1) c2 (zsI (zsI (zsI m2 0 12 0) 0 12 (10 * (0 : Int32) + nI (B st) - 48)) 0 9 (nI (st + 1))) (zBy_L hb2 ⟨fun _ _ _ => rfl, rfl⟩ (zLm_tr (zLm_s _ (by omega) _) (zLm_tr (zLm_s _ (by omega) _) (zLm_s _ (by omega) _)))) (by omega) x4 x5 (by rw [zgI_sI, if_pos ⟨rfl, rfl⟩]) (by rw [zgI_sI, if_neg (by omega), zgI_sI, if_neg (by omega), zgI_sI, if_neg (by omega)]; exact y10) (by rw [zgI_sI, if_neg (by omega), zgI_sI, if_pos ⟨rfl, rfl⟩, ez]) (fun j h1 h2 => by rw [show j = st by omega]; exact e) (by omega) (by omega) (by omega)
    have f3 : zgI c3 36 3 = nI st := by rw [r7 _ _ (by omega)]; exact x3
    have f5 : zgI c3 36 5 = nI 2 := by rw [r7 _ _ (by omega)]; exact x5
    have f6 : zgI c3 36 6 = -1 := by rw [r7 _ _ (by omega)]; exact x6
    have lc3 : zLc c2 c3 := ⟨fun a i hh => r7 a i (by omega), r8⟩
    have lm3 : zLm m2 m3 := fun a i hh => by rw [r9 a i (by omega), zgI_sI, if_neg (by omega), zgI_sI, if_neg (by omega), zgI_sI, if_neg (by omega)]
    have f10 : zgI m3 0 10 = nI st := by rw [r9 _ _ (by omega), zgI_sI, if_neg (by omega), zgI_sI, if_neg (by omega), zgI_sI, if_neg (by omega)]; exact y10
    have hb3 := zBy_L hb2 lc3 lm3
    have hgo : fX8_go_62 cl m2 = (if cl = 0 then (if en - st ≤ 4 then fX8_go_261 2 m3 else fX8_go_256 m3) else fX8_go_256 m3) := by
      have hb2' : zBy c2 (zsI m2 0 12 0) T B := zBy_L hb2 ⟨fun _ _ _ => rfl, rfl⟩ (zLm_s _ (by omega) _)
      have w9 : zgI (zsI m2 0 12 0) 0 9 = nI st := by rw [zgI_sI, if_neg (by omega)]; exact y9
      have w10 : zgI (zsI m2 0 12 0) 0 10 = nI st := by rw [zgI_sI, if_neg (by omega)]; exact y10
      have w12 : zgI (zsI m2 0 12 0) 0 12 = 0 := by rw [zgI_sI, if_pos ⟨rfl, rfl⟩]
      have w7 : zgI (zsI m2 0 12 0) 7 st = nI (B st) := (hb2'.2.2.2 st hst).2.1
      have ww9 : zgI (zsI (zsI m2 0 12 0) 0 12 (10 * (0 : Int32) + nI (B st) - 48)) 0 9 = nI st := by rw [zgI_sI, if_neg (by omega)]; exact w9
      unfold fX8_go_62
      rw [zbd_s, zbd_s, y10, hb2.2.2.1, zceq (by omega) (by omega), if_neg (by omega), zbd_s, m_isLetter hb2 (by omega), zbd2_s, if_neg (show ¬ zkd T B st = 1 by omega), if_pos rfl, zbd_s, y10, m_isFigure hb2 (by omega), zbd2_s, if_pos e, if_neg z10, zbd_s, show zfuel = zfuel - 1 + 1 from rfl, fX8_go_170, zbd_s, w9, m_isFigure hb2' (by omega), zbd2_s, if_pos e, if_neg z10, zbd_s, zbd_s, w9, w10, pk_sub (Nat.le_refl st), Nat.sub_self, if_neg (show ¬ (4 : Int32) ≤ nI 0 by decide), zbd_s, zbd_s, w12, zld (i := st) (by omega) (by omega), zbd_s, w7]
      unfold fX8_go_222
      rw [zbd_s, zbd_s, ww9, nI_1, zbd_s]
      exact r4
    have g261 : ∀ v, fX8_go_261 v m3 = some (zsI (zsI m3 0 11 v) 0 13 (nI en)) := by
      intro v
      unfold fX8_go_261
      rw [zbd_s, zbd_s, zgI_sI, if_neg (by omega), r6, zbd_s]
    have fin := c_131 p (by omega) hw01 (show st ≤ 96 by omega) (show 2 ≤ 3 by omega) f3 f5 f6
    by_cases q : w = 1 ∧ st = p
    · have hcl2 : cl = 1 := by rw [← hcl1, if_pos (hcl.mpr q)]
      rw [if_pos ⟨q.1, Or.inr rfl, q.2⟩] at fin
      refine ⟨_, _, st, en, 2, True, by rw [r3, fin], by rw [hgo, hcl2, if_neg z10]; unfold fX8_go_256; rw [g261], s1, ⟨?_, ?_, ?_, ?_, ?_, e.symm, by omega, r2, fun _ => by omega, fun z => by omega, fun _ => ?_, fun z => by omega, fun z => by omega, fun _ => ⟨?_, rd⟩, Or.inl ⟨trivial, ?_, ?_, Or.inr rfl⟩⟩, lcT (zLc_tr lc3 (zLc_s _ (by omega) _)), lmT (zLm_tr lm3 (zLm_tr (zLm_s _ (by omega) _) (zLm_s _ (by omega) _))), fun _ => hww.mp q.1⟩
      · rw [zgI_sI, if_neg (by omega)]; exact f3
      · rw [zgI_sI, if_neg (by omega)]; exact r5
      · rw [zgI_sI, if_neg (by omega)]; exact f5
      · rw [zgI_sI, if_neg (by omega), zgI_sI, if_neg (by omega)]; exact f10
      · rw [zgI_sI, if_neg (by omega), zgI_sI, if_neg (by omega)]; exact r6
      · rw [zgI_sI, if_pos ⟨rfl, rfl⟩]
      · rw [zgI_sI, if_neg (by omega), zgI_sI, if_neg (by omega)]; exact r12
      · rw [zgI_sI, if_pos ⟨rfl, rfl⟩]
      · rw [zgI_sI, if_neg (by omega), zgI_sI, if_pos ⟨rfl, rfl⟩]
    · have hcl2 : cl = 0 := by rw [← hcl1, if_neg (fun z => q (hcl.mp z))]
      rw [if_neg (fun z => q ⟨z.1, z.2.2⟩)] at fin
      refine ⟨_, zsI (zsI m3 0 11 (if en - st ≤ 4 then 2 else 4)) 0 13 (nI en), st, en, 2, False, by rw [r3, fin], ?_, s1, ⟨f3, r5, f5, ?_, ?_, e.symm, by omega, r2, fun _ => by omega, fun z => by omega, fun _ => ?_, fun z => by omega, fun z => by omega, fun _ => ⟨?_, rd⟩, Or.inr ⟨id, f6, ?_⟩⟩, lcT lc3, lmT (zLm_tr lm3 (zLm_tr (zLm_s _ (by omega) _) (zLm_s _ (by omega) _))), False.elim⟩
      · rw [hgo, hcl2, if_pos rfl]
        unfold fX8_go_256
        by_cases q4 : en - st ≤ 4
        · rw [if_pos q4, if_pos q4, g261]
        · rw [if_neg q4, if_neg q4, g261]
      · rw [zgI_sI, if_neg (by omega), zgI_sI, if_neg (by omega)]; exact f10
      · rw [zgI_sI, if_neg (by omega), zgI_sI, if_neg (by omega)]; exact r6
      · rw [zgI_sI, if_pos ⟨rfl, rfl⟩]
      · rw [zgI_sI, if_neg (by omega), zgI_sI, if_neg (by omega)]; exact r12
      · rw [zgI_sI, if_neg (by omega), zgI_sI, if_pos ⟨rfl, rfl⟩]
        by_cases q4 : en - st ≤ 4
        · rw [if_pos q4, if_neg (by omega)]; rfl
        · rw [if_neg q4, if_pos ⟨rfl, by omega⟩]
