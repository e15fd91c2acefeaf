/-! ===== plans: the cells that are wished, the least ===== -/
def zcn (v : Nat → Int32) : Nat → Nat
  | 0 => 0
  | k + 1 => if zwi (v k) 0 35 = 0 then zcn v k else zcn v k + 1
def zwa (v : Nat → Int32) : Nat → Nat → Nat
  | 0, _ => 0
  | k + 1, j => if zwi (v k) 0 35 = 0 then zwa v k j else if j = zcn v k then (v k).toNatClampNeg else zwa v k j
theorem zcn_s0 {v : Nat → Int32} {k : Nat} (h : zwi (v k) 0 35 = 0) : zcn v (k + 1) = zcn v k := by rw [zcn, if_pos h]
theorem zcn_s1 {v : Nat → Int32} {k : Nat} (h : zwi (v k) 0 35 = 1) : zcn v (k + 1) = zcn v k + 1 := by rw [zcn, if_neg (by rw [h]; decide)]
theorem zcn_le (v : Nat → Int32) : ∀ k, zcn v k ≤ k := by
  intro k
  induction k with
  | zero => exact Nat.le_refl 0
  | succ k ih => rw [zcn]; split <;> omega
theorem zcn_mono (v : Nat → Int32) {k : Nat} : ∀ s, k ≤ s → zcn v k ≤ zcn v s := by
  intro s
  induction s with
  | zero => intro h; rw [show k = 0 by omega]; exact Nat.le_refl _
  | succ s ih =>
    intro h
    by_cases e : k = s + 1
    · rw [e]; exact Nat.le_refl _
    · have := ih (by omega)
      rw [show zcn v (s + 1) = (if zwi (v s) 0 35 = 0 then zcn v s else zcn v s + 1) from rfl]
      split <;> omega
theorem zwa_st (v : Nat → Int32) {k j : Nat} (hj : j < zcn v k) : ∀ s, k ≤ s → zwa v s j = zwa v k j := by
  intro s
  induction s with
  | zero => intro h; rw [show k = 0 by omega]
  | succ s ih =>
    intro h
    by_cases e : k = s + 1
    · rw [e]
    · have h1 := zcn_mono v (k := k) s (by omega)
      rw [zwa, ih (by omega)]
      split
      · rfl
      · rw [if_neg (by omega)]
theorem zwa_at (v : Nat → Int32) {k s : Nat} (h : k < s) (hw : zwi (v k) 0 35 = 1) : v k = nI (zwa v s (zcn v k)) ∧ zwa v s (zcn v k) < 36 := by
  rw [zwa_st v (k := k + 1) (by rw [zcn_s1 hw]; omega) s h, zwa, if_neg (by rw [hw]; decide), if_pos rfl]
  rcases zwi_lit (v k) 0 35 (by omega) (by omega) with e | ⟨e, j, _, hj, e2⟩
  · rw [show zwi (v k) (nI 0) (nI 35) = zwi (v k) 0 35 from rfl, hw] at e
    exact absurd e (by decide)
  · rw [e2, nI_clamp (by omega)]
    exact ⟨rfl, by omega⟩
theorem zwa_lt (v : Nat → Int32) {j : Nat} : ∀ s, j < zcn v s → zwa v s j < 36 := by
  intro s
  induction s with
  | zero => intro h; exact absurd h (by rw [zcn]; omega)
  | succ s ih =>
    intro h
    rcases zwi_01 (v s) 0 35 with e | e
    · rw [zcn_s0 e] at h
      rw [zwa, if_pos e]
      exact ih h
    · rw [zcn_s1 e] at h
      by_cases q : j = zcn v s
      · rw [q]; exact (zwa_at v (Nat.lt_succ_self s) e).2
      · rw [zwa, if_neg (by rw [e]; decide), if_neg q]
        exact ih (by omega)
def zbi (g : Nat → Nat) : Nat → Nat
  | 0 => 0
  | k + 1 => if g k < g (zbi g k) then k else zbi g k
theorem zbi_lt (g : Nat → Nat) : ∀ k, 0 < k → zbi g k < k := by
  intro k
  induction k with
  | zero => intro h; omega
  | succ k ih =>
    intro _
    rw [zbi]
    split
    · omega
    · by_cases e : k = 0
      · subst e; rw [zbi]; omega
      · have := ih (by omega); omega
theorem zbi_le (g : Nat → Nat) : ∀ k j, j < k → g (zbi g k) ≤ g j := by
  intro k
  induction k with
  | zero => intro j h; omega
  | succ k ih =>
    intro j h
    rw [zbi]
    by_cases e : j = k
    · subst e
      split <;> omega
    · have := ih j (by omega)
      split <;> omega
def zmi (g : Nat → Nat) : Nat → Nat
  | 0 => 0
  | k + 1 => if k = 0 then g 0 else min (zmi g k) (g k)
theorem zmi_bi (g : Nat → Nat) : ∀ k, 0 < k → zmi g k = g (zbi g k) := by
  intro k
  induction k with
  | zero => intro h; omega
  | succ k ih =>
    intro _
    rw [zmi, zbi]
    by_cases e : k = 0
    · subst e; rw [if_pos rfl, zbi, if_neg (by omega)]
    · rw [if_neg e, ih (by omega)]
      by_cases q : g k < g (zbi g k)
      · rw [if_pos q, Nat.min_eq_right (by omega)]
      · rw [if_neg q, Nat.min_eq_left (by omega)]
def zvv (m : zz_W) (i k : Nat) : Int32 := zgI m 17 (24 * i + k)
def zcc (m : zz_W) (i s : Nat) : Nat := zcn (zvv m i) s
def zAA (m : zz_W) (i s : Nat) : Nat → Nat := zwa (zvv m i) s
def zgg (m : zz_W) (H W : Nat → Nat) (dp n i s y : Nat) : Nat := zls m H W dp (zAA m i s y) n
def zBd (c0 m0 : zz_W) (n : Nat) (H : Nat → Nat) (i s : Nat) : Prop := zWP 1 n c0 m0 c0 m0 ∧ zHu c0 m0 n H ∧ i < 4 ∧ s ≤ 24 ∧ zgI c0 (42 + 2 * i) 2 = nI s ∧ zgI m0 16 i = nI s ∧ (∀ j, j < 24 → zgI c0 (43 + 2 * i) j = zvv m0 i j)
theorem zgg_lt {c0 m0 : zz_W} {n i s : Nat} {H W : Nat → Nat} (hb : zBd c0 m0 n H i s) (hW : ∀ r, r < n → W r ≤ 100) (dp y : Nat) : zgg m0 H W dp n i s y ≤ 19701000000 := by
  have h1 := zls_le hb.1.1 (fun r hr => (hb.2.1 r hr).1) hW (dp := dp) (x := zAA m0 i s y) n (Nat.le_refl n)
  have hn10 := hb.1.1.hn
  have h2 := Nat.mul_le_mul_left 1970100000 hn10
  show zls _ _ _ _ _ _ ≤ _
  omega
theorem c_wish7 {c0 m0 : zz_W} {n i s : Nat} {H : Nat → Nat} (hb : zBd c0 m0 n H i s) : ∀ d j k c, j + d = s → d < k → zQc c0 c → zgI c 31 0 = nI (zcc m0 i j) → (∀ y, y < zcc m0 i j → zgI c 32 y = nI (zAA m0 i s y)) →
    ∃ c1, fX1_wish_7 (42 + 2 * i) k (nI j) c = some c1 ∧ zQc c0 c1 ∧ zgI c1 31 0 = nI (zcc m0 i s) ∧ (∀ y, y < zcc m0 i s → zgI c1 32 y = nI (zAA m0 i s y)) := by
  obtain ⟨hw, hH, hi, hs, e1, e2, e3⟩ := hb
  intro d
  induction d with
  | zero =>
    intro j k c hj hk hc h0 h1
    obtain ⟨k, rfl⟩ : ∃ x, k = x + 1 := ⟨k - 1, by omega⟩
    have : j = s := by omega
    subst this
    refine ⟨c, ?_, hc, h0, h1⟩
    rw [fX1_wish_7, zbd_s, hc.1 _ _ (by omega) (by omega), e1, if_pos (nI_le (by omega) (by omega))]
  | succ d ih =>
    intro j k c hj hk hc h0 h1
    obtain ⟨k, rfl⟩ : ∃ x, k = x + 1 := ⟨k - 1, by omega⟩
    have hcl : zcc m0 i j ≤ j := zcn_le _ j
    have ld : zldI c (42 + 2 * i + 1) 24 (nI j) = some (zvv m0 i j) := by
      rw [zld (i := j) (by omega) (by omega), show 42 + 2 * i + 1 = 43 + 2 * i by omega, hc.1 _ _ (by omega) (by omega), e3 j (by omega)]
    rw [fX1_wish_7, zbd_s, hc.1 _ _ (by omega) (by omega), e1, if_neg (nI_ge (by omega) (by omega)), zbd_s, h0, if_neg (show ¬ (24 : Int32) ≤ nI (zcc m0 i j) from nI_ge (b := 24) (by omega) (by omega)), ld, zbd_s, c_isCell, zbd2_s]
    rcases zwi_01 (zvv m0 i j) 0 35 with e | e
    · rw [e, if_pos rfl, zbd_s, nI_1]
      exact ih (j + 1) k c (by omega) (by omega) hc (by rw [show zcc m0 i (j + 1) = zcc m0 i j from zcn_s0 e]; exact h0) (by rw [show zcc m0 i (j + 1) = zcc m0 i j from zcn_s0 e]; exact h1)
    · have e5 : zcc m0 i (j + 1) = zcc m0 i j + 1 := zcn_s1 e
      have e6 := zwa_at (zvv m0 i) (k := j) (s := s) (by omega) e
      rw [e, if_neg z10, zbd_s, h0, ld, zbd_s, zst (i := zcc m0 i j) (by omega) (by omega), zbd_s, zbd_s, show zgI (zsI c 32 (zcc m0 i j) (zvv m0 i j)) 31 0 = nI (zcc m0 i j) by rw [zgI_sI, if_neg (by omega)]; exact h0, zbd_s, zbd_s, nI_1, nI_1]
      refine ih (j + 1) k _ (by omega) (by omega) ⟨fun a y q1 q2 => by rw [zgI_sI, if_neg (by omega), zgI_sI, if_neg (by omega)]; exact hc.1 a y q1 q2, hc.2.1, hc.2.2⟩ (by rw [zgI_sI, if_pos ⟨rfl, rfl⟩, e5]) (fun y hy => ?_)
      rw [zgI_sI, if_neg (by omega), zgI_sI]
      by_cases q : y = zcc m0 i j
      · rw [if_pos ⟨rfl, q⟩, q]; exact e6.1
      · rw [if_neg (by omega)]; exact h1 y (by omega)
/-- a plan is made -/
def zPl (m0 : zz_W) (H : Nat → Nat) (dp n i s : Nat) (c : zz_W) : Prop := zgI c 31 0 = nI (zcc m0 i s) ∧ (∀ y, y < zcc m0 i s → zgI c 32 y = nI (zAA m0 i s y)) ∧ zgL c 31 8 = lN (zsm (zgI m0 1) 18 n) ∧ (∀ r, r < n → zgL c 34 r = lN (zlb m0 H dp r)) ∧
  (∀ y, y < zcc m0 i s → zgL c 33 y = lN (zgg m0 H (fun _ => 1) dp n i s y)) ∧ zgI c 31 9 = nI (zbi (zgg m0 H (fun _ => 1) dp n i s) (zcc m0 i s))
theorem c_lossOf {n : Nat} {c0 m0 c : zz_W} {H W : Nat → Nat} (hw : zWP 1 n c0 m0 c0 m0) (hc : zQc c0 c) {a2 x dp : Nat} (ha : zisX a2 (.inl (1, 10)) = true) (hx : x < 36) (hB : ∀ r, r < n → zgL c a2 r = lN (W r * zlb m0 H dp r)) :
    fX1_lossOf 1 a2 (nI x) c = some (lN (zls m0 H W dp x n), c) := by
  have hn10 := hw.1.hn
  have hf := zfuel_big
  have hwc := zWP_Q hw hc (zQm_rfl m0)
  have key : ∀ d j k, j + d = n → d < k → fX1_lossOf_5 1 a2 (nI x) k (nI x) (lN (zls m0 H W dp x j)) (nI j) c = some (lN (zls m0 H W dp x n), c) := by
    intro d
    induction d with
    | zero =>
      intro j k hj hk
      obtain ⟨k, rfl⟩ : ∃ x, k = x + 1 := ⟨k - 1, by omega⟩
      rw [fX1_lossOf_5, zbd_s, hwc.1.cn, if_pos (nI_le (by omega) (by omega)), show j = n by omega]
    | succ d ih =>
      intro j k hj hk
      obtain ⟨k, rfl⟩ : ∃ x, k = x + 1 := ⟨k - 1, by omega⟩
      obtain ⟨L, e1, e2⟩ := w_pass hwc.1 (r := j) (by omega) hx
      have es : zls m0 H W dp x (j + 1) = zls m0 H W dp x j + (if zp (zgI m0 1 (14 + 5 * j)) (zgI m0 1 (15 + 5 * j)) (nI x) = 0 then 0 else W j * zlb m0 H dp j) := rfl
      rw [fX1_lossOf_5, zbd_s, hwc.1.cn, if_neg (nI_ge (by omega) (by omega)), e1, zbd_s, e2, zbd2_s]
      by_cases q0 : zp (zgI m0 1 (14 + 5 * j)) (zgI m0 1 (15 + 5 * j)) (nI x) = 0
      · have es' : zls m0 H W dp x (j + 1) = zls m0 H W dp x j := by rw [es, if_pos q0]; rfl
        rw [if_pos q0, zbd_s, nI_1, ← es']
        exact ih (j + 1) k (by omega) (by omega)
      · rw [if_neg q0] at es
        rw [if_neg q0, zldLn (i := j) (by omega) (by omega), zbd_s, hB j (by omega), zbd_s, zbd_s, nI_1, lN_add, ← es]
        exact ih (j + 1) k (by omega) (by omega)
  unfold fX1_lossOf
  rw [zgrd_h _ hw.1.W, zgrd_h _ ha]
  exact key n 0 zfuel (by omega) (by omega)
theorem c_weigh43 {c0 m0 : zz_W} {n i s dp : Nat} {H : Nat → Nat} (hb : zBd c0 m0 n H i s) (q : Int32) : ∀ d j k c, j + d = zcc m0 i s → d < k → zQc c0 c →
    zgI c 31 0 = nI (zcc m0 i s) → (∀ y, y < zcc m0 i s → zgI c 32 y = nI (zAA m0 i s y)) → zgL c 31 8 = lN (zsm (zgI m0 1) 18 n) → (∀ r, r < n → zgL c 34 r = lN (zlb m0 H dp r)) →
    (∀ y, y < j → zgL c 33 y = lN (zgg m0 H (fun _ => 1) dp n i s y)) → zgI c 31 9 = nI (zbi (zgg m0 H (fun _ => 1) dp n i s) j) → ∃ c1, fX1_weigh_43 1 q k (nI j) c = some c1 ∧ zQc c0 c1 ∧ zPl m0 H dp n i s c1 := by
  have hcs : zcc m0 i s ≤ s := zcn_le _ s
  have hs := hb.2.2.2.1
  intro d
  induction d with
  | zero =>
    intro j k c hj hk hc h0 h1 h2 h3 h4 h5
    obtain ⟨k, rfl⟩ : ∃ x, k = x + 1 := ⟨k - 1, by omega⟩
    have : j = zcc m0 i s := by omega
    subst this
    refine ⟨c, ?_, hc, h0, h1, h2, h3, h4, h5⟩
    rw [fX1_weigh_43, zbd_s, h0, if_pos (nI_le (by omega) (by omega))]
  | succ d ih =>
    intro j k c hj hk hc h0 h1 h2 h3 h4 h5
    obtain ⟨k, rfl⟩ : ∃ x, k = x + 1 := ⟨k - 1, by omega⟩
    have hx : zAA m0 i s j < 36 := zwa_lt _ s (by show j < zcc m0 i s; omega)
    have b1 := zgg_lt hb (W := fun _ => 1) (fun _ _ => by omega) dp j
    have b2 := zgg_lt hb (W := fun _ => 1) (fun _ _ => by omega) dp (zbi (zgg m0 H (fun _ => 1) dp n i s) j)
    have hbi : zbi (zgg m0 H (fun _ => 1) dp n i s) j ≤ j := by
      by_cases e : j = 0
      · subst e; exact Nat.le_refl 0
      · have := zbi_lt (zgg m0 H (fun _ => 1) dp n i s) j (by omega); omega
    have lo : fX1_lossOf 1 34 (nI (zAA m0 i s j)) c = some (lN (zgg m0 H (fun _ => 1) dp n i s j), c) := c_lossOf hb.1 hc (by decide) hx (fun r hr => by rw [h3 r hr, Nat.one_mul])
    have gb : zgL (zsL c 33 j (lN (zgg m0 H (fun _ => 1) dp n i s j))) 33 (zbi (zgg m0 H (fun _ => 1) dp n i s) j) = lN (zgg m0 H (fun _ => 1) dp n i s (zbi (zgg m0 H (fun _ => 1) dp n i s) j)) := by
      rw [zgL_sL]
      by_cases e : zbi (zgg m0 H (fun _ => 1) dp n i s) j = j
      · rw [if_pos ⟨rfl, e⟩, e]
      · rw [if_neg (fun z => e z.2)]; exact h4 _ (by omega)
    have ga : zgL (zsL c 33 j (lN (zgg m0 H (fun _ => 1) dp n i s j))) 33 j = lN (zgg m0 H (fun _ => 1) dp n i s j) := by rw [zgL_sL, if_pos ⟨rfl, rfl⟩]
    rw [fX1_weigh_43, zbd_s, h0, if_neg (nI_ge (by omega) (by omega)), zld (i := j) (by omega) (by omega), zbd_s, h1 j (by omega), lo, zbd2_s, zstLn (i := j) (by omega) (by omega), zbd_s, zldLn (i := j) (by omega) (by omega), zbd_s, zbd_s, zgI_sL, h5, zldLn (i := zbi (zgg m0 H (fun _ => 1) dp n i s) j) (by omega) (by omega), zbd_s, gb, ga]
    unfold fX1_weigh_99
    have ez : zbi (zgg m0 H (fun _ => 1) dp n i s) (j + 1) = if zgg m0 H (fun _ => 1) dp n i s j < zgg m0 H (fun _ => 1) dp n i s (zbi (zgg m0 H (fun _ => 1) dp n i s) j) then j else zbi (zgg m0 H (fun _ => 1) dp n i s) j := rfl
    have fin : ∀ b, zbi (zgg m0 H (fun _ => 1) dp n i s) (j + 1) = b → ∃ c1, fX1_weigh_43 1 q k (nI (j + 1)) (zsI (zsL c 33 j (lN (zgg m0 H (fun _ => 1) dp n i s j))) 31 9 (nI b)) = some c1 ∧ zQc c0 c1 ∧ zPl m0 H dp n i s c1 := by
      intro b eb
      refine ih (j + 1) k _ (by omega) (by omega) ⟨fun a y q1 q2 => by rw [zgI_sI, if_neg (by omega), zgI_sL]; exact hc.1 a y q1 q2, fun a y q1 => by rw [zgL_sI, zgL_sL, if_neg (by omega)]; exact hc.2.1 a y q1, hc.2.2⟩ ?_ ?_ ?_ ?_ ?_ ?_
      · rw [zgI_sI, if_neg (by omega), zgI_sL]; exact h0
      · intro y hy; rw [zgI_sI, if_neg (by omega), zgI_sL]; exact h1 y hy
      · rw [zgL_sI, zgL_sL, if_neg (by omega)]; exact h2
      · intro r hr; rw [zgL_sI, zgL_sL, if_neg (by omega)]; exact h3 r hr
      · intro y hy
        rw [zgL_sI, zgL_sL]
        by_cases e : y = j
        · rw [if_pos ⟨rfl, e⟩, e]
        · rw [if_neg (by omega)]; exact h4 y (by omega)
      · rw [zgI_sI, if_pos ⟨rfl, rfl⟩, eb]
    by_cases e : zgg m0 H (fun _ => 1) dp n i s j < zgg m0 H (fun _ => 1) dp n i s (zbi (zgg m0 H (fun _ => 1) dp n i s) j)
    · rw [if_neg (show ¬ 0 ≤ lg_cmp _ _ from fun z => by
        have := (pk_lLE (by omega) (by omega)).mp ((lg_cmp_ge _ _).mp z)
        omega), zbd_s, zbd_s, nI_1]
      exact fin j (by rw [ez, if_pos e])
    · rw [if_pos (show 0 ≤ lg_cmp _ _ from (lg_cmp_ge _ _).mpr ((pk_lLE (by omega) (by omega)).mpr (by omega))), zbd_s, zbd_s, zbd_s, nI_1]
      exact fin _ (by rw [ez, if_neg e])
theorem c_weigh10 {c0 m0 : zz_W} {n i s dp : Nat} {H : Nat → Nat} (hb : zBd c0 m0 n H i s) (q : Int32) : ∀ d j k c, j + d = n → d < k → zQc c0 c →
    zgI c 31 0 = nI (zcc m0 i s) → (∀ y, y < zcc m0 i s → zgI c 32 y = nI (zAA m0 i s y)) → zgL c 31 8 = lN (zsm (zgI m0 1) 18 n) → (∀ r, r < j → zgL c 34 r = lN (zlb m0 H dp r)) →
    ∃ c1, fX1_weigh_10 1 q k (nI dp) (nI j) c = some c1 ∧ zQc c0 c1 ∧ zPl m0 H dp n i s c1 := by
  have hn10 := hb.1.1.hn
  have hf := zfuel_big
  have hcs : zcc m0 i s ≤ s := zcn_le _ s
  have hs := hb.2.2.2.1
  intro d
  induction d with
  | zero =>
    intro j k c hj hk hc h0 h1 h2 h3
    obtain ⟨k, rfl⟩ : ∃ x, k = x + 1 := ⟨k - 1, by omega⟩
    have hwc := zWP_Q hb.1 hc (zQm_rfl m0)
    have : j = n := by omega
    subst this
    rw [fX1_weigh_10, zbd_s, hwc.1.cn, if_pos (nI_le (by omega) (by omega)), zbd_s]
    refine c_weigh43 hb q (zcc m0 i s) 0 zfuel _ (by omega) (by omega) ⟨fun a y q1 q2 => by rw [zgI_sI, if_neg (by omega)]; exact hc.1 a y q1 q2, hc.2.1, hc.2.2⟩ ?_ ?_ ?_ ?_ ?_ ?_
    · rw [zgI_sI, if_neg (by omega)]; exact h0
    · intro y hy; rw [zgI_sI, if_neg (by omega)]; exact h1 y hy
    · exact h2
    · exact h3
    · intro y hy; exact absurd hy (by omega)
    · rw [zgI_sI, if_pos ⟨rfl, rfl⟩]; rfl
  | succ d ih =>
    intro j k c hj hk hc h0 h1 h2 h3
    obtain ⟨k, rfl⟩ : ∃ x, k = x + 1 := ⟨k - 1, by omega⟩
    have hwc := zWP_Q hb.1 hc (zQm_rfl m0)
    obtain ⟨c1, r1, r2⟩ := c_lossBy hb.1 hb.2.1 hc (r := j) (dp := dp) (by omega)
    have hc1 := zQc_S hc r2
    rw [fX1_weigh_10, zbd_s, hwc.1.cn, if_neg (nI_ge (by omega) (by omega)), r1, zbd2_s, zstLn (i := j) (by omega) (by omega), zbd_s, zbd_s, nI_1]
    refine ih (j + 1) k _ (by omega) (by omega) ⟨fun a y q1 q2 => by rw [zgI_sL]; exact hc1.1 a y q1 q2, fun a y q1 => by rw [zgL_sL, if_neg (by omega)]; exact hc1.2.1 a y q1, hc1.2.2⟩ ?_ ?_ ?_ ?_
    · rw [zgI_sL, r2.1 31 0 (by omega)]; exact h0
    · intro y hy; rw [zgI_sL, r2.1 32 y (by omega)]; exact h1 y hy
    · rw [zgL_sL, if_neg (by omega), zSc_L r2]; exact h2
    · intro r hr
      rw [zgL_sL]
      by_cases e : r = j
      · rw [if_pos ⟨rfl, e⟩, e]
      · rw [if_neg (by omega), zSc_L r2]; exact h3 r (by omega)
theorem c_plan {c0 m0 : zz_W} {n i s dp : Nat} {H : Nat → Nat} (hb : zBd c0 m0 n H i s) (hn : 0 < n) (hmis : ¬ zgI c0 (42 + 2 * i) 1 = -1) :
    (zcc m0 i s = 0 ∧ ∃ c1, fX7_makePlan (nI i) (nI dp) c0 = some (-1000000005, c1) ∧ zQc c0 c1) ∨ (0 < zcc m0 i s ∧ ∃ c1, fX7_makePlan (nI i) (nI dp) c0 = some (0, c1) ∧ zQc c0 c1 ∧ zPl m0 H dp n i s c1) := by
  have hn10 := hb.1.1.hn
  have hf := zfuel_big
  have hcs : zcc m0 i s ≤ s := zcn_le _ s
  obtain ⟨hw, hH, hi, hs, e1, e2, e3⟩ := id hb
  obtain ⟨c1, r1, r2, r3, r4⟩ := c_wish7 hb s 0 zfuel (zsI c0 31 0 0) (by omega) (by omega) ⟨fun a y q1 q2 => by rw [zgI_sI, if_neg (by omega)], fun _ _ _ => rfl, rfl⟩ (by rw [zgI_sI, if_pos ⟨rfl, rfl⟩]; rfl) (fun y hy => absurd hy (by show ¬ y < 0; omega))
  have hwc := zWP_Q hw r2 (zQm_rfl m0)
  unfold fX7_makePlan fX2_isMissing fX1_wish
  rw [zldQn (i := i) (by omega) (by omega), zbd_s, show zq4 i = 42 + 2 * i from rfl, zgrd_h _ (zisS4 i hi), zbd_s, if_neg hmis, zbd2_s, if_pos rfl, zbd_s, hw.1.cn, if_neg (nI_ne0 hn (by omega)), zgrd_h _ (zisS4 i hi), zbd_s, show fX1_wish_7 (42 + 2 * i) zfuel 0 (zsI c0 31 0 0) = some c1 from r1, zbd_s, zbd_s, r3]
  by_cases e : zcc m0 i s = 0
  · left
    rw [e, if_pos (show nI 0 = 0 from rfl)]
    exact ⟨rfl, c1, rfl, r2⟩
  · right
    rw [if_neg (nI_ne0 (by omega) (by omega))]
    refine ⟨by omega, ?_⟩
    obtain ⟨c2, s1, s2, s3⟩ := c_weigh10 (dp := dp) hb (nI dp) n 0 zfuel (zsL c1 31 8 (lN (zsm (zgI m0 1) 18 n))) (by omega) (by omega) ⟨fun a y q1 q2 => by rw [zgI_sL]; exact r2.1 a y q1 q2, fun a y q1 => by rw [zgL_sL, if_neg (by omega)]; exact r2.2.1 a y q1, r2.2.2⟩ (by rw [zgI_sL]; exact r3) (fun y hy => by rw [zgI_sL]; exact r4 y hy) (by rw [zgL_sL, if_pos ⟨rfl, rfl⟩]) (fun r hr => absurd hr (by omega))
    refine ⟨c2, ?_, s2, s3⟩
    unfold fX1_weigh
    rw [zgrd_h _ hw.1.W, c_allOdds hwc.1, zbd2_s, zbd_s, show fX1_weigh_10 1 (nI dp) zfuel (nI dp) 0 _ = some c2 from s1, zbd_s]
/-- the least of the reference -/
noncomputable def zlo (m : zz_W) (H W : Nat → Nat) (dp n i s j : Nat) : Int32 := if zcc m i j = 0 then -1 else nI (zAA m i s (zbi (zgg m H W dp n i s) (zcc m i j)))
theorem m_least {c0 m0 m : zz_W} {n i s dp : Nat} {H W : Nat → Nat} (hb : zBd c0 m0 n H i s) (hW : ∀ r, r < n → W r ≤ 100) (hm : zQm m0 m) (ht : zWt n H W m) : fX8_leastOf (nI i) (nI dp) m = some (zlo m0 H W dp n i s s, m) := by
  have hf := zfuel_big
  obtain ⟨hw, hH, hi, hs, e1, e2, e3⟩ := id hb
  have hcs : zcc m0 i s ≤ s := zcn_le _ s
  have key : ∀ d j k, j + d = s → d < k → fX8_leastOf_5 (nI i) (nI dp) k (nI i) (nI dp) (zlo m0 H W dp n i s j) (nI j) m = some (zlo m0 H W dp n i s s, m) := by
    intro d
    induction d with
    | zero =>
      intro j k hj hk
      obtain ⟨k, rfl⟩ : ∃ x, k = x + 1 := ⟨k - 1, by omega⟩
      rw [fX8_leastOf_5, zld (i := i) (by omega) (by omega), zbd_s, hm 16 i (by omega), e2, if_pos (nI_le (by omega) (by omega)), show j = s by omega]
    | succ d ih =>
      intro j k hj hk
      obtain ⟨k, rfl⟩ : ∃ x, k = x + 1 := ⟨k - 1, by omega⟩
      rw [fX8_leastOf_5, zld (i := i) (by omega) (by omega), zbd_s, hm 16 i (by omega), e2, if_neg (nI_ge (by omega) (by omega)), zidx24, zld (i := 24 * i + j) (by omega) (by omega), zbd_s, hm 17 _ (by omega), m_isCell, zbd2_s, show zgI m0 17 (24 * i + j) = zvv m0 i j from rfl]
      unfold fX8_leastOf_63 fX8_leastOf_59 fX8_leastOf_64
      rcases zwi_01 (zvv m0 i j) 0 35 with e | e
      · rw [e, if_pos rfl, if_pos rfl, zbd_s, nI_1, show zlo m0 H W dp n i s j = zlo m0 H W dp n i s (j + 1) by unfold zlo; rw [show zcc m0 i (j + 1) = zcc m0 i j from zcn_s0 e]]
        exact ih (j + 1) k (by omega) (by omega)
      · have e5 : zcc m0 i (j + 1) = zcc m0 i j + 1 := zcn_s1 e
        have e6 : zvv m0 i j = nI (zAA m0 i s (zcc m0 i j)) := (zwa_at (zvv m0 i) (k := j) (s := s) (by omega) e).1
        have en : zlo m0 H W dp n i s (j + 1) = nI (zAA m0 i s (zbi (zgg m0 H W dp n i s) (zcc m0 i j + 1))) := by unfold zlo; rw [e5, if_neg (by omega)]
        rw [e, if_neg z10]
        by_cases q : zcc m0 i j = 0
        · have eo : zlo m0 H W dp n i s j = -1 := by unfold zlo; rw [if_pos q]
          rw [eo, if_pos (show (-1 : Int32) < 0 by decide), if_neg z10, zbd_s, nI_1, e6, q]
          rw [q, show zbi (zgg m0 H W dp n i s) (0 + 1) = 0 by rw [zbi, zbi]; split <;> rfl] at en
          rw [← en]
          exact ih (j + 1) k (by omega) (by omega)
        · have hbl := zbi_lt (zgg m0 H W dp n i s) (zcc m0 i j) (by omega)
          have hA : zAA m0 i s (zbi (zgg m0 H W dp n i s) (zcc m0 i j)) < 36 := zwa_lt _ s (by
            have := zcn_mono (zvv m0 i) (k := j) s (by omega)
            show _ < zcc m0 i s
            have : zcc m0 i j ≤ zcc m0 i s := this
            omega)
          have eo : zlo m0 H W dp n i s j = nI (zAA m0 i s (zbi (zgg m0 H W dp n i s) (zcc m0 i j))) := by unfold zlo; rw [if_neg q]
          have b1 := zgg_lt hb hW dp (zcc m0 i j)
          have b2 := zgg_lt hb hW dp (zbi (zgg m0 H W dp n i s) (zcc m0 i j))
          have l1 : fX8_lossAt (zvv m0 i j) (nI dp) m = some (lN (zgg m0 H W dp n i s (zcc m0 i j)), m) := by rw [e6]; exact m_lossAt hw (fun r hr => (hH r hr).1) hW hm ht
          have l2 : fX8_lossAt (zlo m0 H W dp n i s j) (nI dp) m = some (lN (zgg m0 H W dp n i s (zbi (zgg m0 H W dp n i s) (zcc m0 i j))), m) := by rw [eo]; exact m_lossAt hw (fun r hr => (hH r hr).1) hW hm ht
          have ez : zbi (zgg m0 H W dp n i s) (zcc m0 i j + 1) = if zgg m0 H W dp n i s (zcc m0 i j) < zgg m0 H W dp n i s (zbi (zgg m0 H W dp n i s) (zcc m0 i j)) then zcc m0 i j else zbi (zgg m0 H W dp n i s) (zcc m0 i j) := rfl
          rw [if_neg (show ¬ zlo m0 H W dp n i s j < 0 by rw [eo]; exact nI_pos (by omega)), l1, zbd2_s, l2, zbd2_s]
          by_cases c1 : zgg m0 H W dp n i s (zcc m0 i j) < zgg m0 H W dp n i s (zbi (zgg m0 H W dp n i s) (zcc m0 i j))
          · rw [if_neg (show ¬ 0 ≤ lg_cmp _ _ from fun z => by
              have := (pk_lLE (by omega) (by omega)).mp ((lg_cmp_ge _ _).mp z)
              omega), if_neg z10, zbd_s, nI_1, e6]
            rw [ez, if_pos c1] at en
            rw [← en]
            exact ih (j + 1) k (by omega) (by omega)
          · rw [if_pos (show 0 ≤ lg_cmp _ _ from (lg_cmp_ge _ _).mpr ((pk_lLE (by omega) (by omega)).mpr (by omega))), if_pos rfl, zbd_s, nI_1, eo]
            rw [ez, if_neg c1] at en
            rw [← en]
            exact ih (j + 1) k (by omega) (by omega)
  unfold fX8_leastOf
  rw [zbd_s]
  have := key s 0 zfuel (by omega) (by omega)
  rw [show zlo m0 H W dp n i s 0 = -1 from rfl] at this
  exact this
theorem zBd_ex {c m : zz_W} {n i : Nat} (h : zRel c m) (hw : zWP 1 n c m c m) (hi : i < 4) : ∃ H s, zBd c m n H i s := by
  obtain ⟨_, _, _, sh, _⟩ := id h
  obtain ⟨b1, b2, b3, ⟨s, hs, b4⟩, b5⟩ := sh i hi
  obtain ⟨H, hH⟩ := zHu_ex h hw
  exact ⟨H, s, hw, hH, hi, hs, by rw [b3, b4], b4, b5⟩
theorem s_where (a1 a2 a3 : Int32) : zSIM (fX7_where a1 a2 a3) (fX8_where a1 a2 a3) := by
  intro c m h
  obtain ⟨n, hw⟩ := zR1 h
  have hn10 := hw.1.hn
  obtain ⟨_, _, _, sh, _⟩ := id h
  unfold fX7_where fX8_where
  simp only [c_isSheet, m_isSheet, c_isDepth, m_in, c_within, zbd2_e]
  rcases zwi_lit a1 0 3 (by omega) (by omega) with e | ⟨e, i, _, hi, rfl⟩
  · rw [show zwi a1 0 3 = 0 from e, if_pos rfl, if_pos rfl]; exact zret _ h
  rw [show zwi (nI i) 0 3 = 1 from e, if_neg z10, if_neg z10]
  rcases zwi_lit a2 1 9 (by omega) (by omega) with e2 | ⟨e2, dp, _, hdp, rfl⟩
  · rw [show zwi a2 1 9 = 0 from e2, if_pos rfl, if_pos rfl]; exact zret _ h
  rw [show zwi (nI dp) 1 9 = 1 from e2, if_neg z10, if_neg z10]
  rcases zwi_01 a3 0 1 with e3 | e3
  · rw [e3, if_pos rfl, if_pos rfl]; exact zret _ h
  rw [e3, if_neg z10, if_neg z10]
  obtain ⟨b1, b2, _⟩ := sh i (by omega)
  obtain ⟨H, s, hb⟩ := zBd_ex h hw (show i < 4 by omega)
  rw [zld (i := i) (by omega) (by omega)]
  rcases zmiss _ b2 with ⟨x1, x2⟩ | ⟨x1, x2⟩
  · unfold fX7_makePlan fX2_isMissing
    rw [zldQn (i := i) (by omega) (by omega), zbd_s, show zq4 i = 42 + 2 * i from rfl, zgrd_h _ (zisS4 i (by omega)), zbd_s, b1, if_pos x1, zbd2_s, if_neg z10, zbd2_s, if_neg (show ¬ (-1000000011 : Int32) = 0 by decide), zbd_s, if_neg x2]
    exact zret _ h
  obtain ⟨m1, r1, r2, r3⟩ := m_weighsAll hw hb.2.1 (zQm_rfl m)
  have hwm := zWP_Q hw (zQc_rfl c) r2
  have ml := m_least (dp := dp) hb (W := fun _ => 1) (fun _ _ => by omega) r2 r3
  by_cases n0 : n = 0
  · subst n0
    have pl : fX7_makePlan (nI i) (nI dp) c = some (-1000000005, c) := by
      unfold fX7_makePlan fX2_isMissing
      rw [zldQn (i := i) (by omega) (by omega), zbd_s, show zq4 i = 42 + 2 * i from rfl, zgrd_h _ (zisS4 i (by omega)), zbd_s, b1, if_neg x1, zbd2_s, if_pos rfl, zbd_s, hw.1.cn, if_pos (show nI 0 = 0 from rfl)]
    rw [pl, zbd2_s, if_neg (show ¬ (-1000000005 : Int32) = 0 by decide), zbd_s, if_pos x2, r1, zbd_s, ml, zbd2_s, m_l1, zbd_s, hwm.1.mn, if_pos (show nI 0 = 0 from rfl)]
    have fin : ∀ b : Prop, ∀ _ : Decidable b, ∃ r c1 m1', some ((-1000000005 : Int32), c) = some (r, c1) ∧ (if b then some ((-1000000005 : Int32), m1) else some (-1000000005, m1)) = some (r, m1') ∧ zRel c1 m1' := by
      intro b hd
      refine ⟨_, c, m1, rfl, ?_, zRel_Q h (zQc_rfl c) r2⟩
      split <;> rfl
    exact fin _ _
  rcases c_plan (dp := dp) hb (by omega) (by rw [b1]; exact x1) with ⟨k1, c1, k2, k3⟩ | ⟨k1, c1, k2, k3, k4⟩
  · rw [k2, zbd2_s, if_neg (show ¬ (-1000000005 : Int32) = 0 by decide), zbd_s, if_pos x2, r1, zbd_s, ml, zbd2_s, show zlo m H (fun _ => 1) dp n i s s = -1 from if_pos k1, if_pos (show (-1 : Int32) < 0 by decide)]
    exact ⟨_, _, _, rfl, rfl, zRel_Q h k3 r2⟩
  · have hbl := zbi_lt (zgg m H (fun _ => 1) dp n i s) (zcc m i s) k1
    have hs := hb.2.2.2.1
    have hcs : zcc m i s ≤ s := zcn_le _ s
    have eo : zlo m H (fun _ => 1) dp n i s s = nI (zAA m i s (zbi (zgg m H (fun _ => 1) dp n i s) (zcc m i s))) := by unfold zlo; rw [if_neg (by omega)]
    have hA : zAA m i s (zbi (zgg m H (fun _ => 1) dp n i s) (zcc m i s)) < 36 := zwa_lt _ s hbl
    obtain ⟨m2, t1, t2⟩ := m_riskAt hw hb.2.1 (by omega) (x := zAA m i s (zbi (zgg m H (fun _ => 1) dp n i s) (zcc m i s))) (dp := dp) r2
    rw [k2, zbd2_s, if_pos rfl, zbd_s, if_pos x2, r1, zbd_s, ml, zbd2_s, eo, if_neg (nI_pos (by omega)), m_l1, zbd_s, hwm.1.mn, if_neg (nI_ne0 (by omega) (by omega))]
    unfold fX1_bestCell fX1_leastLoss
    obtain ⟨p1, p2, p3, p4, p5, p6⟩ := k4
    by_cases q : a3 = 0
    · rw [if_pos q, if_pos q, zbd_s, p6, zld (i := zbi (zgg m H (fun _ => 1) dp n i s) (zcc m i s)) (by omega) (by omega), zbd_s, zbd2_s, p2 _ hbl]
      exact ⟨_, _, _, rfl, rfl, zRel_Q h k3 r2⟩
    · rw [if_neg q, if_neg q, zbd_s, p6, zldLn (i := zbi (zgg m H (fun _ => 1) dp n i s) (zcc m i s)) (by omega) (by omega), zbd_s, zbd2_s, p5 _ hbl, c_risk hw (by omega) k3, zbd2_s, t1, zbd2_s]
      exact ⟨_, _, _, rfl, rfl, zRel_Q h k3 t2⟩
