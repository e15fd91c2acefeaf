/-! ===== plans: losses ===== -/
def zQc (c0 c : zz_W) : Prop := (∀ a i, ¬ (31 ≤ a ∧ a ≤ 35) → ¬ (65 ≤ a ∧ (a - 65) % 3 = 2) → zgI c a i = zgI c0 a i) ∧ (∀ a i, ¬ (31 ≤ a ∧ a ≤ 35) → zgL c a i = zgL c0 a i) ∧ c.2.2 = c0.2.2
def zQm (m0 m : zz_W) : Prop := ∀ a i, ¬ (a = 4 ∨ a = 5 ∨ a = 13 ∨ a = 14) → zgI m a i = zgI m0 a i
theorem zQc_rfl (c : zz_W) : zQc c c := ⟨fun _ _ _ _ => rfl, fun _ _ _ => rfl, rfl⟩
theorem zQm_rfl (m : zz_W) : zQm m m := fun _ _ _ => rfl
theorem zQc_S {c0 c c1 : zz_W} (h : zQc c0 c) (h1 : zSc c c1) : zQc c0 c1 :=
  ⟨fun a i h2 h3 => by rw [h1.1 a i h3, h.1 a i h2 h3], fun a i h2 => by rw [zSc_L h1, h.2.1 a i h2], by rw [h1.2]; exact h.2.2⟩
theorem zQm_S {m0 m m1 : zz_W} (h : zQm m0 m) (h1 : zSm m m1) : zQm m0 m1 := fun a i h2 => by rw [h1 a i (by omega), h a i h2]
theorem zQc_R {c0 c : zz_W} (h : zQc c0 c) (a i : Nat) : zgR c a i = zgR c0 a i := by show c.2.2.1 a i = c0.2.2.1 a i; rw [h.2.2]
theorem zRel_Q {c m c1 m1 : zz_W} (h : zRel c m) (hc : zQc c c1) (hm : zQm m m1) : zRel c1 m1 :=
  zRel_scr h ⟨fun a i hh => hc.1 a i (by omega) (by omega), fun i => hc.2.1 _ _ (by omega), fun i => zQc_R hc _ _, by rw [hc.2.2]⟩ (fun a i _ _ => hc.1 a i (by omega) (by omega)) (fun i => hc.2.1 _ _ (by omega)) (fun i => zQc_R hc _ _) (fun a i hh => hm a i (by omega)) (fun i => hm 1 i (by omega)) (fun q => zok2_R q hc.2.2)
theorem zWP_Q {n : Nat} {c m c1 m1 : zz_W} (h : zWP 1 n c m c m) (hc : zQc c c1) (hm : zQm m m1) : zWP 1 n c1 m1 c1 m1 :=
  ⟨zWal_move h.1 h.1.W (fun i _ _ => hc.1 _ i (by omega) (by omega)) (fun i _ => hc.1 _ i (by omega) (by omega)) (fun i _ => hc.1 _ i (by omega) (by omega)) (fun i _ => hc.1 _ i (by omega) (by omega)) (fun i _ => hc.1 _ i (by omega) (by omega)) (fun i _ => hc.1 _ i (by omega) (by omega)) (fun i _ => hc.2.1 _ _ (by omega)) (fun i _ => hc.1 _ i (by omega) (by omega)) (fun i _ => hm 1 i (by omega)),
    zPos_of h.2 (fun r _ => hm 1 _ (by omega))⟩
def zHu (c0 m0 : zz_W) (n : Nat) (H : Nat → Nat) : Prop := ∀ r, r < n → H r ≤ 199 ∧ (∀ c, zQc c0 c → ∃ c1, fX6_hurtOf 1 (nI r) c = some (nI (H r), c1) ∧ zSc c c1) ∧ (∀ m, zQm m0 m → ∃ m1, fX8_hurtBy (nI r) m = some (nI (H r), m1) ∧ zSm m m1)
theorem zHu_ex {n : Nat} {c m : zz_W} (h : zRel c m) (hw : zWP 1 n c m c m) : ∃ H, zHu c m n H := by
  refine ⟨fun r => (((fX8_hurtBy (nI r) m).map Prod.fst).getD 0).toNatClampNeg, fun r hr => ?_⟩
  obtain ⟨v, c1, m1, hv, r1, r2, r3, r4⟩ := w_hurt h hw.1 hr
  have e : (((fX8_hurtBy (nI r) m).map Prod.fst).getD 0).toNatClampNeg = v := by rw [r2]; exact nI_clamp (by omega)
  have inj : ∀ {a b : Nat} {x y : zz_W}, a ≤ 199 → b ≤ 199 → some (nI a, x) = some (nI b, y) → a = b := fun ha hb q => (nI_eq (by omega) (by omega)).mp (congrArg Prod.fst (Option.some.inj q))
  simp only [e]
  refine ⟨hv, fun c' hc => ?_, fun m' hm => ?_⟩
  · obtain ⟨v', c2, m2, hv', s1, s2, s3, s4⟩ := w_hurt (zRel_Q h hc (zQm_rfl m)) (zWP_Q hw hc (zQm_rfl m)).1 hr
    rw [r2] at s2
    have := inj hv hv' s2
    subst this
    exact ⟨c2, s1, s3⟩
  · obtain ⟨v', c2, m2, hv', s1, s2, s3, s4⟩ := w_hurt (zRel_Q h (zQc_rfl c) hm) (zWP_Q hw (zQc_rfl c) hm).1 hr
    rw [r1] at s1
    have := inj hv hv' s1
    subst this
    exact ⟨m2, s2, s4⟩
/-- what a run brings to LOSS -/
def zlb (m : zz_W) (H : Nat → Nat) (dp r : Nat) : Nat := if nI dp < zgI m 1 (17 + 5 * r) then 0 else (zgI m 1 (18 + 5 * r)).toNatClampNeg * H r
def zls (m : zz_W) (H W : Nat → Nat) (dp x : Nat) : Nat → Nat
  | 0 => 0
  | k + 1 => zls m H W dp x k + (if zp (zgI m 1 (14 + 5 * k)) (zgI m 1 (15 + 5 * k)) (nI x) = 0 then 0 else W k * zlb m H dp k)
theorem zlb_le {n : Nat} {c m : zz_W} {H : Nat → Nat} (hw : zWal 1 n c m c m) (hH : ∀ r, r < n → H r ≤ 199) {dp r : Nat} (hr : r < n) : zlb m H dp r ≤ 19701000 := by
  unfold zlb
  split
  · omega
  · obtain ⟨x, hx, e⟩ := hw.ro r hr
    rw [e, nI_clamp (by omega)]
    have := Nat.mul_le_mul hx (hH r hr)
    omega
theorem zls_le {n : Nat} {c m : zz_W} {H W : Nat → Nat} (hw : zWal 1 n c m c m) (hH : ∀ r, r < n → H r ≤ 199) (hW : ∀ r, r < n → W r ≤ 100) {dp x : Nat} : ∀ k, k ≤ n → zls m H W dp x k ≤ 1970100000 * k := by
  intro k
  induction k with
  | zero => intro _; exact Nat.le_refl 0
  | succ k ih =>
    intro hk
    have h1 := ih (by omega)
    have h2 := Nat.mul_le_mul (hW k (by omega)) (zlb_le (dp := dp) hw hH (r := k) (by omega))
    rw [zls]
    split <;> omega
theorem zls_add {m : zz_W} {H W V : Nat → Nat} {dp x n : Nat} (h : ∀ r, r < n → W r + V r = 100) : ∀ k, k ≤ n → zls m H W dp x k + zls m H V dp x k = 100 * zls m H (fun _ => 1) dp x k := by
  intro k
  induction k with
  | zero => intro _; rfl
  | succ k ih =>
    intro hk
    have h1 := ih (by omega)
    have h2 := h k (by omega)
    rw [zls, zls, zls]
    split
    · omega
    · have : W k * zlb m H dp k + V k * zlb m H dp k = 100 * zlb m H dp k := by rw [← Nat.add_mul, h2]
      omega
theorem zls_const {m : zz_W} {H W : Nat → Nat} {dp x n a : Nat} (h : ∀ r, r < n → W r = a) : ∀ k, k ≤ n → zls m H W dp x k = a * zls m H (fun _ => 1) dp x k := by
  intro k
  induction k with
  | zero => intro _; rfl
  | succ k ih =>
    intro hk
    rw [zls, zls, ih (by omega), h k (by omega), Nat.mul_add]
    split
    · rfl
    · rw [Nat.one_mul]
theorem c_lossBy {n : Nat} {c0 m0 c : zz_W} {H : Nat → Nat} (hw : zWP 1 n c0 m0 c0 m0) (hH : zHu c0 m0 n H) (hc : zQc c0 c) {r dp : Nat} (hr : r < n) :
    ∃ c1, fX6_lossBy 1 (nI r) (nI dp) c = some (lN (zlb m0 H dp r), c1) ∧ zSc c c1 := by
  have hn10 := hw.1.hn
  have hwc := zWP_Q hw hc (zQm_rfl m0)
  obtain ⟨x, hx, ex⟩ := hw.1.ro r hr
  unfold fX6_lossBy zlb
  rw [zgrd_h _ hw.1.W, zld (i := r) (by omega) (by omega), zbd_s, show zgI c (1 + 4) r = zgI m0 1 (17 + 5 * r) from hwc.1.cd r hr]
  by_cases e : nI dp < zgI m0 1 (17 + 5 * r)
  · rw [if_pos e, if_pos e]
    exact ⟨c, rfl, zSc_rfl c⟩
  · rw [if_neg e, if_neg e]
    obtain ⟨h1, h2, _⟩ := hH r hr
    obtain ⟨c1, r1, r2⟩ := h2 c hc
    refine ⟨c1, ?_, r2⟩
    rw [zld (i := r) (by omega) (by omega), zbd_s, r1, zbd2_s, show zgI c (1 + 5) r = zgI m0 1 (18 + 5 * r) from hwc.1.co r hr, ex, nI_clamp (by omega), nI_l (by omega), nI_l (by omega), lN_mul]
theorem c_lossAt5 {n : Nat} {c0 m0 : zz_W} {H : Nat → Nat} (hw : zWP 1 n c0 m0 c0 m0) (hH : zHu c0 m0 n H) {x dp : Nat} (hx : x < 36) (p q : Int32) : ∀ d j k c, j + d = n → d < k → zQc c0 c →
    ∃ c1, fX6_lossAt_5 1 p q k (nI x) (nI dp) (lN (zls m0 H (fun _ => 1) dp x j)) (nI j) c = some (lN (zls m0 H (fun _ => 1) dp x n), c1) ∧ zSc c c1 := by
  have hn10 := hw.1.hn
  intro d
  induction d with
  | zero =>
    intro j k c hj hk hc
    obtain ⟨k, rfl⟩ : ∃ x, k = x + 1 := ⟨k - 1, by omega⟩
    have hwc := zWP_Q hw hc (zQm_rfl m0)
    refine ⟨c, ?_, zSc_rfl c⟩
    rw [fX6_lossAt_5, zbd_s, hwc.1.cn, if_pos (nI_le (by omega) (by omega)), show j = n by omega]
  | succ d ih =>
    intro j k c hj hk hc
    obtain ⟨k, rfl⟩ : ∃ x, k = x + 1 := ⟨k - 1, by omega⟩
    have hwc := zWP_Q hw hc (zQm_rfl m0)
    obtain ⟨L, e1, e2⟩ := w_pass hwc.1 (r := j) (by omega) hx
    rw [fX6_lossAt_5, zbd_s, hwc.1.cn, if_neg (nI_ge (by omega) (by omega)), e1, zbd_s, e2, zbd2_s]
    have es : zls m0 H (fun _ => 1) dp x (j + 1) = zls m0 H (fun _ => 1) dp x j + (if zp (zgI m0 1 (14 + 5 * j)) (zgI m0 1 (15 + 5 * j)) (nI x) = 0 then 0 else 1 * zlb m0 H dp j) := rfl
    by_cases q0 : zp (zgI m0 1 (14 + 5 * j)) (zgI m0 1 (15 + 5 * j)) (nI x) = 0
    · rw [if_pos q0, zbd_s, zbd_s, nI_1, Int64.add_zero]
      have es' : zls m0 H (fun _ => 1) dp x (j + 1) = zls m0 H (fun _ => 1) dp x j := by rw [es, if_pos q0]; rfl
      rw [← es']
      exact ih (j + 1) k c (by omega) (by omega) hc
    · obtain ⟨c1, r1, r2⟩ := c_lossBy hw hH hc (r := j) (dp := dp) (by omega)
      rw [if_neg q0, Nat.one_mul] at es
      obtain ⟨c2, s1, s2⟩ := ih (j + 1) k c1 (by omega) (by omega) (zQc_S hc r2)
      rw [if_neg q0, r1, zbd2_s, zbd_s, zbd_s, nI_1, lN_add, ← es]
      exact ⟨c2, s1, zSc_tr r2 s2⟩
theorem c_lossAt {n : Nat} {c0 m0 c : zz_W} {H : Nat → Nat} (hw : zWP 1 n c0 m0 c0 m0) (hH : zHu c0 m0 n H) {x dp : Nat} (hx : x < 36) (hc : zQc c0 c) :
    ∃ c1, fX6_lossAt 1 (nI x) (nI dp) c = some (lN (zls m0 H (fun _ => 1) dp x n), c1) ∧ zSc c c1 := by
  have hf := zfuel_big
  have hn10 := hw.1.hn
  unfold fX6_lossAt
  rw [zgrd_h _ hw.1.W]
  exact c_lossAt5 hw hH hx (nI x) (nI dp) n 0 zfuel c (by omega) (by omega) hc
def zWt (n : Nat) (H W : Nat → Nat) (m : zz_W) : Prop := (∀ r, r < n → zgI m 4 r = nI (W r)) ∧ (∀ r, r < n → zgI m 5 r = nI (H r))
theorem m_lossAt {n : Nat} {c0 m0 m : zz_W} {H W : Nat → Nat} (hw : zWP 1 n c0 m0 c0 m0) (hH : ∀ r, r < n → H r ≤ 199) (hW : ∀ r, r < n → W r ≤ 100) {x dp : Nat} (hm : zQm m0 m) (ht : zWt n H W m) :
    fX8_lossAt (nI x) (nI dp) m = some (lN (zls m0 H W dp x n), m) := by
  have hn10 := hw.1.hn
  have hf := zfuel_big
  have hwm := zWP_Q hw (zQc_rfl c0) hm
  have g1 : ∀ i, zgI m 1 i = zgI m0 1 i := fun i => hm 1 i (by omega)
  have key : ∀ d j k, j + d = n → d < k → fX8_lossAt_5 (nI x) (nI dp) k (nI x) (nI dp) (lN (zls m0 H W dp x j)) (nI j) m = some (lN (zls m0 H W dp x n), m) := by
    intro d
    induction d with
    | zero =>
      intro j k hj hk
      obtain ⟨k, rfl⟩ : ∃ x, k = x + 1 := ⟨k - 1, by omega⟩
      rw [fX8_lossAt_5, m_l1, zbd_s, hwm.1.mn, if_pos (nI_le (by omega) (by omega)), show j = n by omega]
    | succ d ih =>
      intro j k hj hk
      obtain ⟨k, rfl⟩ : ∃ x, k = x + 1 := ⟨k - 1, by omega⟩
      obtain ⟨o, ho, eo⟩ := hw.1.ro j (by omega)
      have hh := hH j (by omega)
      have hww := hW j (by omega)
      have es : zls m0 H W dp x (j + 1) = zls m0 H W dp x j + (if zp (zgI m0 1 (14 + 5 * j)) (zgI m0 1 (15 + 5 * j)) (nI x) = 0 then 0 else W j * zlb m0 H dp j) := rfl
      rw [fX8_lossAt_5, m_l1, zbd_s, hwm.1.mn, if_neg (nI_ge (by omega) (by omega)), m_pass (by omega), zbd2_s, g1, g1]
      unfold fX8_lossAt_41 fX8_lossAt_42
      by_cases q0 : zp (zgI m0 1 (14 + 5 * j)) (zgI m0 1 (15 + 5 * j)) (nI x) = 0
      · rw [if_pos q0, if_pos rfl, zbd_s, zbd_s, nI_1, Int64.add_zero]
        have es' : zls m0 H W dp x (j + 1) = zls m0 H W dp x j := by rw [es, if_pos q0]; rfl
        rw [← es']
        exact ih (j + 1) k (by omega) (by omega)
      · rw [if_neg q0, m_of3 (by omega), zbd2_s, g1]
        rw [if_neg q0] at es
        unfold zlb at es
        by_cases q1 : nI dp < zgI m0 1 (17 + 5 * j)
        · rw [if_pos q1, if_pos rfl, zbd_s, zbd_s, nI_1, Int64.add_zero]
          have es' : zls m0 H W dp x (j + 1) = zls m0 H W dp x j := by rw [es, if_pos q1]; rfl
          rw [← es']
          exact ih (j + 1) k (by omega) (by omega)
        · rw [if_neg q1, if_neg z10, m_of4 (by omega), zbd2_s, zld (i := j) (by omega) (by omega), zbd_s, zld (i := j) (by omega) (by omega), zbd_s, zbd_s, zbd_s, nI_1, g1, ht.1 j (by omega), ht.2 j (by omega), eo, nI_l (by omega), nI_l (by omega), nI_l (by omega), lN_mul, lN_mul, lN_add]
          rw [if_neg q1, eo, nI_clamp (by omega), show W j * (o * H j) = o * W j * H j by rw [← Nat.mul_assoc, Nat.mul_comm (W j) o]] at es
          rw [← es]
          exact ih (j + 1) k (by omega) (by omega)
  unfold fX8_lossAt
  exact key n 0 zfuel (by omega) (by omega)
theorem m_weighs {n : Nat} {c0 m0 : zz_W} {H : Nat → Nat} (hw : zWP 1 n c0 m0 c0 m0) (hH : zHu c0 m0 n H) : ∀ d j k m, j + d = n → d < k → zQm m0 m → (∀ r, r < j → zgI m 4 r = nI 1) → (∀ r, r < j → zgI m 5 r = nI (H r)) →
    ∃ m1, fX8_weighsAll_2 k (nI j) m = some m1 ∧ zQm m0 m1 ∧ zWt n H (fun _ => 1) m1 := by
  have hn10 := hw.1.hn
  intro d
  induction d with
  | zero =>
    intro j k m hj hk hm h4 h5
    obtain ⟨k, rfl⟩ : ∃ x, k = x + 1 := ⟨k - 1, by omega⟩
    have hwm := zWP_Q hw (zQc_rfl c0) hm
    refine ⟨m, ?_, hm, fun r hr => h4 r (by omega), fun r hr => h5 r (by omega)⟩
    rw [fX8_weighsAll_2, m_l1, zbd_s, hwm.1.mn, if_pos (nI_le (by omega) (by omega))]
  | succ d ih =>
    intro j k m hj hk hm h4 h5
    obtain ⟨k, rfl⟩ : ∃ x, k = x + 1 := ⟨k - 1, by omega⟩
    have hwm := zWP_Q hw (zQc_rfl c0) hm
    obtain ⟨h1, _, h3⟩ := hH j (by omega)
    have hm1 : zQm m0 (zsI m 4 j 1) := fun a i hh => by rw [zgI_sI, if_neg (by omega)]; exact hm a i hh
    obtain ⟨m2, r1, r2⟩ := h3 _ hm1
    have hm2 := zQm_S hm1 r2
    have hm3 : zQm m0 (zsI m2 5 j (nI (H j))) := fun a i hh => by rw [zgI_sI, if_neg (by omega)]; exact hm2 a i hh
    rw [fX8_weighsAll_2, m_l1, zbd_s, hwm.1.mn, if_neg (nI_ge (by omega) (by omega)), zst (i := j) (by omega) (by omega), zbd_s, r1, zbd2_s, zst (i := j) (by omega) (by omega), zbd_s, zbd_s, nI_1]
    refine ih (j + 1) k _ (by omega) (by omega) hm3 (fun r hr => ?_) (fun r hr => ?_)
    · rw [zgI_sI, if_neg (by omega), r2 4 r (by omega), zgI_sI]
      by_cases e : r = j
      · rw [if_pos ⟨rfl, e⟩]; rfl
      · rw [if_neg (by omega)]; exact h4 r (by omega)
    · rw [zgI_sI]
      by_cases e : r = j
      · rw [if_pos ⟨rfl, e⟩, e]
      · rw [if_neg (by omega), r2 5 r (by omega), zgI_sI, if_neg (by omega)]; exact h5 r (by omega)
theorem m_weighsAll {n : Nat} {c0 m0 m : zz_W} {H : Nat → Nat} (hw : zWP 1 n c0 m0 c0 m0) (hH : zHu c0 m0 n H) (hm : zQm m0 m) : ∃ m1, fX8_weighsAll m = some m1 ∧ zQm m0 m1 ∧ zWt n H (fun _ => 1) m1 := by
  have hf := zfuel_big
  have hn10 := hw.1.hn
  exact m_weighs hw hH n 0 zfuel m (by omega) (by omega) hm (fun r hr => absurd hr (by omega)) (fun r hr => absurd hr (by omega))
/-- RISK -/
noncomputable def zrk (m : zz_W) (n L : Nat) : Int32 := Int64.toInt32 (1000 * lN L / lN (zsm (zgI m 1) 18 n))
theorem zsm_Q {n : Nat} {m0 m : zz_W} (hm : zQm m0 m) : zsm (zgI m 1) 18 n = zsm (zgI m0 1) 18 n := zsm_congr n (fun i _ => hm 1 _ (by omega))
theorem c_risk {n : Nat} {c0 m0 c : zz_W} (hw : zWP 1 n c0 m0 c0 m0) (hn : 0 < n) (hc : zQc c0 c) (L : Nat) : fX6_ofThousand 1 (lN L) c = some (zrk m0 n L, c) :=
  c_thousand (zWP_Q hw hc (zQm_rfl m0)) hn (lN L)
theorem m_riskAt {n : Nat} {c0 m0 m : zz_W} {H : Nat → Nat} (hw : zWP 1 n c0 m0 c0 m0) (hH : zHu c0 m0 n H) (hn : 0 < n) {x dp : Nat} (hm : zQm m0 m) :
    ∃ m1, fX8_riskAt (nI x) (nI dp) m = some (zrk m0 n (zls m0 H (fun _ => 1) dp x n), m1) ∧ zQm m0 m1 := by
  obtain ⟨m1, r1, r2, r3⟩ := m_weighsAll hw hH hm
  have hwm := zWP_Q hw (zQc_rfl c0) r2
  refine ⟨m1, ?_, r2⟩
  unfold fX8_riskAt zrk
  rw [r1, zbd_s, m_lossAt hw (fun r hr => (hH r hr).1) (fun _ _ => by omega) r2 r3, zbd2_s, m_sumO hwm.1, zbd2_s, m_div hwm hn, zbd_s, zsm_Q r2]
theorem s_risk (a1 a2 : Int32) : zSIM (fX7_risk a1 a2) (fX8_risk a1 a2) := by
  intro c m h
  obtain ⟨n, hw⟩ := zR1 h
  have hn10 := hw.1.hn
  unfold fX7_risk fX8_risk
  simp only [c_isCell, m_isCell, c_isDepth, m_in, zbd2_e, zbd_e, m_l1, hw.1.cn, hw.1.mn]
  rcases zwi_lit a1 0 35 (by omega) (by omega) with e | ⟨e, x, _, hx, rfl⟩
  · rw [show zwi a1 0 35 = 0 from e, if_pos rfl, if_pos rfl]; exact zret _ h
  rw [show zwi (nI x) 0 35 = 1 from e, if_neg z10, if_neg z10]
  rcases zwi_lit a2 1 9 (by omega) (by omega) with e2 | ⟨e2, dp, _, hdp, rfl⟩
  · rw [show zwi a2 1 9 = 0 from e2, if_pos rfl, if_pos rfl]; exact zret _ h
  rw [show zwi (nI dp) 1 9 = 1 from e2, if_neg z10, if_neg z10]
  by_cases e0 : n = 0
  · subst e0
    rw [if_pos (show nI 0 = 0 from rfl), if_pos (show nI 0 = 0 from rfl)]; exact zret _ h
  rw [if_neg (nI_ne0 (by omega) (by omega)), if_neg (nI_ne0 (by omega) (by omega))]
  obtain ⟨H, hH⟩ := zHu_ex h hw
  obtain ⟨c1, r1, r2⟩ := c_lossAt hw hH (x := x) (dp := dp) (by omega) (zQc_rfl c)
  obtain ⟨m1, s1, s2⟩ := m_riskAt hw hH (by omega) (x := x) (dp := dp) (zQm_rfl m)
  rw [r1, zbd2_s, c_risk hw (by omega) (zQc_S (zQc_rfl c) r2), zbd2_s, s1, zbd2_s]
  exact ⟨_, _, _, rfl, rfl, zRel_Q h (zQc_S (zQc_rfl c) r2) s2⟩
theorem w_safe {n : Nat} {c0 m0 : zz_W} {H : Nat → Nat} (hw : zWP 1 n c0 m0 c0 m0) (hH : zHu c0 m0 n H) (hn : 0 < n) {x : Nat} (hx : x < 36) (y p q p' q' : Int32) : ∀ dp k k' c m, dp ≤ 9 → dp < k → dp < k' → zQc c0 c → zQm m0 m →
    ∃ v c1 m1, fX7_safe_36 p q k (nI x) y (nI dp) c = some (v, c1) ∧ fX8_safe_35 p' q' k' (nI x) y (nI dp) m = some (v, m1) ∧ zQc c0 c1 ∧ zQm m0 m1 := by
  intro dp
  induction dp with
  | zero =>
    intro k k' c m hd hk hk' hc hm
    obtain ⟨k, rfl⟩ : ∃ x, k = x + 1 := ⟨k - 1, by omega⟩
    obtain ⟨k', rfl⟩ : ∃ x, k' = x + 1 := ⟨k' - 1, by omega⟩
    exact ⟨0, c, m, by rw [fX7_safe_36, if_pos (show nI 0 ≤ 0 by decide)], by rw [fX8_safe_35, if_pos (show nI 0 ≤ 0 by decide)]; rfl, hc, hm⟩
  | succ dp ih =>
    intro k k' c m hd hk hk' hc hm
    obtain ⟨k, rfl⟩ : ∃ x, k = x + 1 := ⟨k - 1, by omega⟩
    obtain ⟨k', rfl⟩ : ∃ x, k' = x + 1 := ⟨k' - 1, by omega⟩
    obtain ⟨c1, r1, r2⟩ := c_lossAt hw hH (dp := dp + 1) hx hc
    obtain ⟨m1, s1, s2⟩ := m_riskAt hw hH hn (x := x) (dp := dp + 1) hm
    have hc1 := zQc_S hc r2
    rw [fX7_safe_36, if_neg (nI_nle (by omega) (by omega)), r1, zbd2_s, c_risk hw hn hc1, zbd2_s, fX8_safe_35, if_neg (nI_nle (by omega) (by omega)), s1, zbd2_s]
    by_cases e : y < zrk m0 n (zls m0 H (fun _ => 1) (dp + 1) x n)
    · have e' : ¬ zrk m0 n (zls m0 H (fun _ => 1) (dp + 1) x n) ≤ y := by rw [Int32.le_iff_toInt_le]; rw [Int32.lt_iff_toInt_lt] at e; omega
      rw [if_pos e, if_neg e', zbd_s, zbd_s, pk_m1]
      exact ih k k' c1 m1 (by omega) (by omega) (by omega) hc1 s2
    · have e' : zrk m0 n (zls m0 H (fun _ => 1) (dp + 1) x n) ≤ y := by rw [Int32.le_iff_toInt_le]; rw [Int32.lt_iff_toInt_lt] at e; omega
      rw [if_neg e, if_pos e']
      exact ⟨_, _, _, rfl, rfl, hc1, s2⟩
theorem s_safe (a1 a2 : Int32) : zSIM (fX7_safe a1 a2) (fX8_safe a1 a2) := by
  intro c m h
  have hf := zfuel_big
  obtain ⟨n, hw⟩ := zR1 h
  have hn10 := hw.1.hn
  unfold fX7_safe fX8_safe
  simp only [c_isCell, m_isCell, c_within, m_in, zbd2_e, zbd_e, m_l1, hw.1.cn, hw.1.mn]
  rcases zwi_lit a1 0 35 (by omega) (by omega) with e | ⟨e, x, _, hx, rfl⟩
  · rw [show zwi a1 0 35 = 0 from e, if_pos rfl, if_pos rfl]; exact zret _ h
  rw [show zwi (nI x) 0 35 = 1 from e, if_neg z10, if_neg z10]
  rcases zwi_01 a2 0 99999 with e2 | e2
  · rw [e2, if_pos rfl, if_pos rfl]; exact zret _ h
  rw [e2, if_neg z10, if_neg z10]
  by_cases e0 : n = 0
  · subst e0
    rw [if_pos (show nI 0 = 0 from rfl), if_pos (show nI 0 = 0 from rfl)]; exact zret _ h
  rw [if_neg (nI_ne0 (by omega) (by omega)), if_neg (nI_ne0 (by omega) (by omega))]
  obtain ⟨H, hH⟩ := zHu_ex h hw
  obtain ⟨v, c1, m1, r1, r2, r3, r4⟩ := w_safe hw hH (by omega) (show x < 36 by omega) a2 (nI x) a2 (nI x) a2 9 zfuel zfuel c m (by omega) (by omega) (by omega) (zQc_rfl c) (zQm_rfl m)
  exact ⟨v, c1, m1, r1, r2, zRel_Q h r3 r4⟩
