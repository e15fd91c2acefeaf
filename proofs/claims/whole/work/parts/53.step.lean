/-! ===== the step: both sides ===== -/
theorem m_l0 (m : zz_W) : zldI m 1 1436 0 = some (zgI m 1 0) := zld (i := 0) (by decide) (by decide)
theorem m_t0 (m : zz_W) (v : Int32) : zstI m 1 1436 0 v = some (zsI m 1 0 v) := zst (i := 0) (by decide) (by decide)
theorem m_l1 (m : zz_W) : zldI m 1 1436 1 = some (zgI m 1 1) := zld (i := 1) (by decide) (by decide)
theorem m_t1 (m : zz_W) (v : Int32) : zstI m 1 1436 1 v = some (zsI m 1 1 v) := zst (i := 1) (by decide) (by decide)
theorem m_l2 (m : zz_W) : zldI m 1 1436 2 = some (zgI m 1 2) := zld (i := 2) (by decide) (by decide)
theorem m_t2 (m : zz_W) (v : Int32) : zstI m 1 1436 2 v = some (zsI m 1 2 v) := zst (i := 2) (by decide) (by decide)
theorem m_l3 (m : zz_W) : zldI m 1 1436 3 = some (zgI m 1 3) := zld (i := 3) (by decide) (by decide)
theorem m_t3 (m : zz_W) (v : Int32) : zstI m 1 1436 3 v = some (zsI m 1 3 v) := zst (i := 3) (by decide) (by decide)
theorem m_l4 (m : zz_W) : zldI m 1 1436 4 = some (zgI m 1 4) := zld (i := 4) (by decide) (by decide)
theorem m_t4 (m : zz_W) (v : Int32) : zstI m 1 1436 4 v = some (zsI m 1 4 v) := zst (i := 4) (by decide) (by decide)
theorem m_l5 (m : zz_W) : zldI m 1 1436 5 = some (zgI m 1 5) := zld (i := 5) (by decide) (by decide)
theorem m_t5 (m : zz_W) (v : Int32) : zstI m 1 1436 5 v = some (zsI m 1 5 v) := zst (i := 5) (by decide) (by decide)
theorem m_l6 (m : zz_W) : zldI m 1 1436 6 = some (zgI m 1 6) := zld (i := 6) (by decide) (by decide)
theorem m_t6 (m : zz_W) (v : Int32) : zstI m 1 1436 6 v = some (zsI m 1 6 v) := zst (i := 6) (by decide) (by decide)
theorem m_l7 (m : zz_W) : zldI m 1 1436 7 = some (zgI m 1 7) := zld (i := 7) (by decide) (by decide)
theorem m_t7 (m : zz_W) (v : Int32) : zstI m 1 1436 7 v = some (zsI m 1 7 v) := zst (i := 7) (by decide) (by decide)
theorem m_l8 (m : zz_W) : zldI m 1 1436 8 = some (zgI m 1 8) := zld (i := 8) (by decide) (by decide)
theorem m_t8 (m : zz_W) (v : Int32) : zstI m 1 1436 8 v = some (zsI m 1 8 v) := zst (i := 8) (by decide) (by decide)
theorem m_l9 (m : zz_W) : zldI m 1 1436 9 = some (zgI m 1 9) := zld (i := 9) (by decide) (by decide)
theorem m_t9 (m : zz_W) (v : Int32) : zstI m 1 1436 9 v = some (zsI m 1 9 v) := zst (i := 9) (by decide) (by decide)
theorem m_l10 (m : zz_W) : zldI m 1 1436 10 = some (zgI m 1 10) := zld (i := 10) (by decide) (by decide)
theorem m_t10 (m : zz_W) (v : Int32) : zstI m 1 1436 10 v = some (zsI m 1 10 v) := zst (i := 10) (by decide) (by decide)
theorem m_l11 (m : zz_W) : zldI m 1 1436 11 = some (zgI m 1 11) := zld (i := 11) (by decide) (by decide)
theorem m_t11 (m : zz_W) (v : Int32) : zstI m 1 1436 11 v = some (zsI m 1 11 v) := zst (i := 11) (by decide) (by decide)
theorem m_l12 (m : zz_W) : zldI m 1 1436 12 = some (zgI m 1 12) := zld (i := 12) (by decide) (by decide)
theorem m_t12 (m : zz_W) (v : Int32) : zstI m 1 1436 12 v = some (zsI m 1 12 v) := zst (i := 12) (by decide) (by decide)
theorem m_l13 (m : zz_W) : zldI m 1 1436 13 = some (zgI m 1 13) := zld (i := 13) (by decide) (by decide)
theorem m_t13 (m : zz_W) (v : Int32) : zstI m 1 1436 13 v = some (zsI m 1 13 v) := zst (i := 13) (by decide) (by decide)
theorem c_l0 (c : zz_W) (b : Nat) : zldI c (b + 7) 7 0 = some (zgI c (b + 7) 0) := zld (i := 0) (by decide) (by decide)
theorem c_t0 (c : zz_W) (b : Nat) (v : Int32) : zstI c (b + 7) 7 0 v = some (zsI c (b + 7) 0 v) := zst (i := 0) (by decide) (by decide)
theorem c_l1 (c : zz_W) (b : Nat) : zldI c (b + 7) 7 1 = some (zgI c (b + 7) 1) := zld (i := 1) (by decide) (by decide)
theorem c_t1 (c : zz_W) (b : Nat) (v : Int32) : zstI c (b + 7) 7 1 v = some (zsI c (b + 7) 1 v) := zst (i := 1) (by decide) (by decide)
theorem c_l2 (c : zz_W) (b : Nat) : zldI c (b + 7) 7 2 = some (zgI c (b + 7) 2) := zld (i := 2) (by decide) (by decide)
theorem c_t2 (c : zz_W) (b : Nat) (v : Int32) : zstI c (b + 7) 7 2 v = some (zsI c (b + 7) 2 v) := zst (i := 2) (by decide) (by decide)
theorem c_l3 (c : zz_W) (b : Nat) : zldI c (b + 7) 7 3 = some (zgI c (b + 7) 3) := zld (i := 3) (by decide) (by decide)
theorem c_t3 (c : zz_W) (b : Nat) (v : Int32) : zstI c (b + 7) 7 3 v = some (zsI c (b + 7) 3 v) := zst (i := 3) (by decide) (by decide)
theorem c_l4 (c : zz_W) (b : Nat) : zldI c (b + 7) 7 4 = some (zgI c (b + 7) 4) := zld (i := 4) (by decide) (by decide)
theorem c_t4 (c : zz_W) (b : Nat) (v : Int32) : zstI c (b + 7) 7 4 v = some (zsI c (b + 7) 4 v) := zst (i := 4) (by decide) (by decide)
theorem c_l5 (c : zz_W) (b : Nat) : zldI c (b + 7) 7 5 = some (zgI c (b + 7) 5) := zld (i := 5) (by decide) (by decide)
theorem c_t5 (c : zz_W) (b : Nat) (v : Int32) : zstI c (b + 7) 7 5 v = some (zsI c (b + 7) 5 v) := zst (i := 5) (by decide) (by decide)
theorem c_l6 (c : zz_W) (b : Nat) : zldI c (b + 7) 7 6 = some (zgI c (b + 7) 6) := zld (i := 6) (by decide) (by decide)
theorem c_t6 (c : zz_W) (b : Nat) (v : Int32) : zstI c (b + 7) 7 6 v = some (zsI c (b + 7) 6 v) := zst (i := 6) (by decide) (by decide)
theorem zsI_comm (w : zz_W) {k i k' i' : Nat} (v v' : Int32) (h : ¬ (k = k' ∧ i = i')) : zsI (zsI w k i v) k' i' v' = zsI (zsI w k' i' v') k i v := by
  refine Prod.ext (funext fun a => funext fun j => ?_) rfl
  show zgI (zsI (zsI w k i v) k' i' v') a j = zgI (zsI (zsI w k' i' v') k i v) a j
  rw [zgI_sI, zgI_sI, zgI_sI, zgI_sI]
  split <;> split <;> first | rfl | (exfalso; omega)
def zdw (v : Int32) : Int32 := (v.toUInt32 >>> (Int32.toUInt32 8 &&& Int32.toUInt32 31)).toInt32
theorem zdw_nI (v : Int32) : ∃ x, x < 2 ^ 24 ∧ zdw v = nI x := by
  have hl := v.toBitVec.isLt
  refine ⟨v.toBitVec.toNat / 2 ^ 8, by omega, ?_⟩
  have h := pk_ushr v 8 8 (by decide)
  unfold zdw
  apply Int32.toBitVec_inj.mp
  apply BitVec.eq_of_toNat_eq
  rw [h, pk_tn (by omega)]
def zzv (m : zz_W) : Int32 := zgI m 1 0 * 1103515245 + 12345
theorem c_draw {b n : Nat} {c0 m0 c m : zz_W} (h : zWal b n c0 m0 c m) : fX6_draw b c = some (zdw (zzv m), zsI c b 14 (zzv m)) := by
  unfold fX6_draw
  rw [zgrd_h _ h.W]
  simp only [zbd_s, h.cz]
  rw [zgI_sI, if_pos ⟨rfl, rfl⟩]
  rfl
theorem m_draw (m : zz_W) : fX8_draw m = some (zdw (zzv m), zsI m 1 0 (zzv m)) := by
  unfold fX8_draw
  simp only [m_l0, m_t0, zbd_s]
  rw [zgI_sI, if_pos ⟨rfl, rfl⟩]
  rfl
theorem zif01 {x : Int32} (w : zz_W) (h : x = 0 ∨ x = 1) : (if x = 0 then some ((0 : Int32), w) else some (1, w)) = some (x, w) := by
  rcases h with rfl | rfl <;> rfl
theorem c_tell {b n : Nat} {c0 m0 c m : zz_W} (h : zWal b n c0 m0 c m) {r s x : Nat} (hr : r < n) (hs : s < 4) (hx : x < 36) :
    fX6_wouldTell b (nI r) (nI s) (nI x) c = some (zt (zgI m 1 (14 + 5 * r)) (zgI m 1 (17 + 5 * r)) (nI s) (zgI m 1 (15 + 5 * r)) (nI x), c) := by
  have hn10 := h.hn
  obtain ⟨k, hk, ek⟩ := h.rk r hr
  obtain ⟨q, hq, eq⟩ := h.rc r hr
  obtain ⟨d, hd1, hd, ed⟩ := h.rd r hr
  unfold fX6_wouldTell
  rw [zgrd_h _ h.W, zld (i := r) (by omega) (by omega), zbd_s, zld (i := r) (by omega) (by omega), zbd_s, zldLn (i := r) (by omega) (by omega), zbd_s]
  rw [h.ck r hr, h.cd r hr, h.cw r hr, c_cellsTold, zbd2_s, c_has, zbd2_s]
  rw [zif01 _ (zhs_01 _ _), ek, eq, ed, zt_eq hk (by omega) hs hq hx]
def zpc (s p a : Int32) : Int32 := if s = 3 then (if a = 0 then 0 else 100 - 0) else (if a = 0 then p else 100 - p)
theorem c_hund {b n : Nat} {c0 m0 c m : zz_W} (h : zWal b n c0 m0 c m) (s a : Int32) : fX6_ofHundred b s a c = some (zpc s (zgI m 1 3) a, c) := by
  unfold fX6_ofHundred fX6_ofHundred_13 zpc
  rw [zgrd_h _ h.W]
  simp only [zbd_s, zite_some, h.cp]
theorem m_hund (s a : Int32) (m : zz_W) : fX8_oddsToBeTold a s m = some (zpc s (zgI m 1 3) a, m) := by
  unfold fX8_oddsToBeTold fX8_oddsToBeTold_15 zpc
  simp only [m_l3, zbd_s, zite_some]
theorem zpc_nI {p : Nat} (hp : p ≤ 49) (s a : Int32) : ∃ x, x ≤ 100 ∧ zpc s (nI p) a = nI x := by
  unfold zpc
  split
  · split
    · exact ⟨0, by omega, rfl⟩
    · exact ⟨100, by omega, rfl⟩
  · split
    · exact ⟨p, by omega, rfl⟩
    · exact ⟨100 - p, by omega, pk_sub (a := 100) (b := p) (by omega)⟩
/-! sums -/
def zsm (g : Nat → Int32) (f : Nat) : Nat → Nat
  | 0 => 0
  | k + 1 => zsm g f k + (g (f + 5 * k)).toNatClampNeg
theorem zsm_s {g : Nat → Int32} {f k x : Nat} (h : g (f + 5 * k) = nI x) (hx : x < 2 ^ 31) : zsm g f (k + 1) = zsm g f k + x := by
  show zsm g f k + (g (f + 5 * k)).toNatClampNeg = _
  rw [h, nI_clamp hx]
theorem zsm_congr {g g' : Nat → Int32} {f : Nat} : ∀ k, (∀ i, i < k → g (f + 5 * i) = g' (f + 5 * i)) → zsm g f k = zsm g' f k
  | 0, _ => rfl
  | k + 1, h => by
    show zsm g f k + _ = zsm g' f k + _
    rw [zsm_congr k (fun i hi => h i (by omega)), h k (by omega)]
theorem zsm_le {g : Nat → Int32} {f B : Nat} : ∀ k, (∀ i, i < k → ∃ x, x ≤ B ∧ x < 2 ^ 31 ∧ g (f + 5 * i) = nI x) → zsm g f k ≤ B * k
  | 0, _ => Nat.zero_le _
  | k + 1, h => by
    obtain ⟨x, hx, hx2, e⟩ := h k (by omega)
    rw [zsm_s e hx2, Nat.mul_succ]
    have := zsm_le k (fun i hi => h i (by omega))
    omega
theorem zsm_pos {g : Nat → Int32} {f : Nat} : ∀ k, ¬ zsm g f k = 0 → ∃ i, i < k ∧ ¬ g (f + 5 * i) = 0
  | 0, h => absurd rfl h
  | k + 1, h => by
    by_cases e : g (f + 5 * k) = 0
    · have : zsm g f (k + 1) = zsm g f k := by rw [zsm_s (x := 0) e (by decide)]; rfl
      rw [this] at h
      obtain ⟨i, hi, e2⟩ := zsm_pos k h
      exact ⟨i, by omega, e2⟩
    · exact ⟨k, by omega, e⟩
theorem zsm_ge {g : Nat → Int32} {f : Nat} : ∀ k i, i < k → (g (f + 5 * i)).toNatClampNeg ≤ zsm g f k
  | 0, i, h => absurd h (by omega)
  | k + 1, i, h => by
    show _ ≤ zsm g f k + _
    by_cases e : i = k
    · subst e; omega
    · have := zsm_ge (g := g) (f := f) k i (by omega); omega
theorem zsm4_le {b n : Nat} {c0 m0 c m : zz_W} (h : zWal b n c0 m0 c m) {k : Nat} (hk : k ≤ n) : zsm (zgI m 1) 18 k ≤ 99000 * k :=
  zsm_le k (fun i hi => by obtain ⟨x, hx, e⟩ := h.ro i (by omega); exact ⟨x, hx, by omega, e⟩)
theorem zsm2_le {b n : Nat} {c0 m0 c m : zz_W} (h : zWal b n c0 m0 c m) {k : Nat} (hk : k ≤ n) : zsm (zgI m 1) 16 k ≤ 99 * k :=
  zsm_le k (fun i hi => by obtain ⟨x, _, hx, e⟩ := h.rl i (by omega); exact ⟨x, hx, by omega, e⟩)
theorem m_sum4 {b n : Nat} {c0 m0 c m : zz_W} (h : zWal b n c0 m0 c m) : ∀ d j k, j + d = n → d < k → fX8_sumOf_4 4 k 4 (nI (zsm (zgI m 1) 18 j)) (nI j) m = some (nI (zsm (zgI m 1) 18 n), m) := by
  have hn10 := h.hn
  intro d
  induction d with
  | zero =>
    intro j k hj hk
    obtain ⟨k, rfl⟩ : ∃ k', k = k' + 1 := ⟨k - 1, by omega⟩
    rw [fX8_sumOf_4, m_l1, zbd_s, h.mn, if_pos (nI_le (by omega) (by omega)), show j = n by omega]
  | succ d ih =>
    intro j k hj hk
    obtain ⟨k, rfl⟩ : ∃ k', k = k' + 1 := ⟨k - 1, by omega⟩
    obtain ⟨x, hx, e⟩ := h.ro j (by omega)
    rw [fX8_sumOf_4, m_l1, zbd_s, h.mn, if_neg (nI_ge (by omega) (by omega)), m_of4 (by omega), zbd2_s, zbd_s, zbd_s, e, nI_add, nI_1, ← zsm_s e (by omega)]
    exact ih (j + 1) k (by omega) (by omega)
theorem m_sum2 {b n : Nat} {c0 m0 c m : zz_W} (h : zWal b n c0 m0 c m) : ∀ d j k, j + d = n → d < k → fX8_sumOf_4 2 k 2 (nI (zsm (zgI m 1) 16 j)) (nI j) m = some (nI (zsm (zgI m 1) 16 n), m) := by
  have hn10 := h.hn
  intro d
  induction d with
  | zero =>
    intro j k hj hk
    obtain ⟨k, rfl⟩ : ∃ k', k = k' + 1 := ⟨k - 1, by omega⟩
    rw [fX8_sumOf_4, m_l1, zbd_s, h.mn, if_pos (nI_le (by omega) (by omega)), show j = n by omega]
  | succ d ih =>
    intro j k hj hk
    obtain ⟨k, rfl⟩ : ∃ k', k = k' + 1 := ⟨k - 1, by omega⟩
    obtain ⟨x, _, hx, e⟩ := h.rl j (by omega)
    rw [fX8_sumOf_4, m_l1, zbd_s, h.mn, if_neg (nI_ge (by omega) (by omega)), m_of2 (by omega), zbd2_s, zbd_s, zbd_s, e, nI_add, nI_1, ← zsm_s e (by omega)]
    exact ih (j + 1) k (by omega) (by omega)
theorem zfuel_big : 3000 < zfuel := by decide
theorem m_sumO {b n : Nat} {c0 m0 c m : zz_W} (h : zWal b n c0 m0 c m) : fX8_sumOf 4 m = some (nI (zsm (zgI m 1) 18 n), m) := by
  have hn10 := h.hn
  have hf := zfuel_big
  exact m_sum4 h n 0 zfuel (by omega) (by omega)
theorem m_sumL {b n : Nat} {c0 m0 c m : zz_W} (h : zWal b n c0 m0 c m) : fX8_sumOf 2 m = some (nI (zsm (zgI m 1) 16 n), m) := by
  have hn10 := h.hn
  have hf := zfuel_big
  exact m_sum2 h n 0 zfuel (by omega) (by omega)
def zPos (n : Nat) (m : zz_W) : Prop := 0 < n → ∃ r, r < n ∧ ¬ zgI m 1 (18 + 5 * r) = 0
theorem zPos_of {n : Nat} {m m1 : zz_W} (h : zPos n m) (e : ∀ r, r < n → zgI m1 1 (18 + 5 * r) = zgI m 1 (18 + 5 * r)) : zPos n m1 := by
  intro hn
  obtain ⟨r, hr, e2⟩ := h hn
  exact ⟨r, hr, by rw [e r hr]; exact e2⟩
theorem w_forget {b n : Nat} {c0 m0 : zz_W} (a1 a2 l3 : Int32) (hl : l3 = 0 ∨ l3 = 1) : ∀ d j k k' c m, j + d = n → d < k → d < k' → zWal b n c0 m0 (zsI c (b + 7) 6 (zgI c (b + 7) 6 + 1)) m →
    (∀ r, r < j → ¬ zgI m 1 (18 + 5 * r) = 0) → ∃ c1 m1, fX6_forget_2 b k (nI j) c = some c1 ∧ fX8_tests_172 a1 a2 k' l3 (nI j) m = some (l3, m1) ∧ zWal b n c0 m0 c1 m1 ∧ (∀ r, r < n → ¬ zgI m1 1 (18 + 5 * r) = 0) := by
  intro d
  induction d with
  | zero =>
    intro j k k' c m hj hk hk' h hz
    have hn10 := h.hn
    obtain ⟨k, rfl⟩ : ∃ x, k = x + 1 := ⟨k - 1, by omega⟩
    obtain ⟨k', rfl⟩ : ∃ x, k' = x + 1 := ⟨k' - 1, by omega⟩
    have e9 : zgI c b 9 = nI n := by have := h.cn; rwa [zgI_sI, if_neg (by omega)] at this
    refine ⟨_, m, ?_, ?_, h, ?_⟩
    · rw [fX6_forget_2, zbd_s, e9, if_pos (nI_le (by omega) (by omega)), c_l6, zbd_s, c_t6, zbd_s]
    · rw [fX8_tests_172, m_l1, zbd_s, h.mn, if_pos (nI_le (by omega) (by omega))]
      rcases hl with rfl | rfl <;> rfl
    · intro r hr; exact hz r (by omega)
  | succ d ih =>
    intro j k k' c m hj hk hk' h hz
    have hn10 := h.hn
    obtain ⟨k, rfl⟩ : ∃ x, k = x + 1 := ⟨k - 1, by omega⟩
    obtain ⟨k', rfl⟩ : ∃ x, k' = x + 1 := ⟨k' - 1, by omega⟩
    have e9 : zgI c b 9 = nI n := by have := h.cn; rwa [zgI_sI, if_neg (by omega)] at this
    have e3 : zgI c (b + 3) j = zgI m 1 (16 + 5 * j) := by have := h.cl j (by omega); rwa [zgI_sI, if_neg (by omega)] at this
    obtain ⟨x, hx1, hx, e⟩ := h.rl j (by omega)
    have h2 := zWal_o h (s := j) (x := 1000 * x) (by omega) (by omega)
    rw [zsI_comm _ _ _ (by omega)] at h2
    have e6 : zgI (zsI c (b + 5) j (nI (1000 * x))) (b + 7) 6 = zgI c (b + 7) 6 := by rw [zgI_sI, if_neg (by omega)]
    rw [← e6] at h2
    obtain ⟨c1, m1, r1, r2, r3, r4⟩ := ih (j + 1) k k' _ _ (by omega) (by omega) (by omega) h2 (by
      intro r hr
      rw [zgI_sI]
      split
      · exact nI_ne0 (by omega) (by omega)
      · exact hz r (by omega))
    refine ⟨c1, m1, ?_, ?_, r3, r4⟩
    · rw [fX6_forget_2, zbd_s, e9, if_neg (nI_ge (by omega) (by omega)), zld (i := j) (by omega) (by omega), zbd_s, e3, e, show (1000 : Int32) = nI 1000 from rfl, pk_mul, zst (i := j) (by omega) (by omega), zbd_s, zbd_s, nI_1, Nat.mul_comm x 1000]
      exact r1
    · rw [fX8_tests_172, m_l1, zbd_s, h.mn, if_neg (nI_ge (by omega) (by omega)), m_of2 (by omega), zbd2_s, e, show (1000 : Int32) = nI 1000 from rfl, pk_mul, m_put4 (by omega), zbd_s, zbd_s, nI_1]
      exact r2

