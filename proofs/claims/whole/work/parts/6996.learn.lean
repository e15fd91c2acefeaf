/-! ===== learn, worthiest ===== -/
def zto (m : zz_W) (s x r : Nat) : Int32 := zt (zgI m 1 (14 + 5 * r)) (zgI m 1 (17 + 5 * r)) (nI s) (zgI m 1 (15 + 5 * r)) (nI x)
theorem zto_01 (m : zz_W) {s : Nat} (hs : s < 4) (x r : Nat) : zto m s x r = 0 ∨ zto m s x r = 1 := by
  refine zt_01 _ _ _ _ _ ?_
  rcases (show s = 0 ∨ s = 1 ∨ s = 2 ∨ s = 3 by omega) with rfl | rfl | rfl | rfl
  · exact Or.inl rfl
  · exact Or.inr (Or.inl rfl)
  · exact Or.inr (Or.inr (Or.inl rfl))
  · exact Or.inr (Or.inr (Or.inr rfl))
def zpn (s p : Nat) (a : Int32) : Nat := if s = 3 then (if a = 0 then 0 else 100) else (if a = 0 then p else 100 - p)
theorem zpc_n {s p : Nat} (hs : s < 4) (hp : p ≤ 49) (a : Int32) : zpc (nI s) (nI p) a = nI (zpn s p a) := by
  unfold zpc zpn
  by_cases e : s = 3
  · subst e
    rw [if_pos (show nI 3 = 3 from rfl), if_pos rfl]
    split <;> rfl
  · rw [if_neg (show ¬ nI s = 3 from fun z => e ((nI_eq (b := 3) (by omega) (by decide)).mp z)), if_neg e]
    split
    · rfl
    · exact pk_sub (a := 100) (b := p) (by omega)
theorem zpn_le {s p : Nat} (hp : p ≤ 49) (a : Int32) : zpn s p a ≤ 100 := by
  unfold zpn
  (repeat' split) <;> omega
theorem zpn_add {s p : Nat} (hp : p ≤ 49) : zpn s p 1 + zpn s p 0 = 100 := by
  unfold zpn
  rw [if_neg (show ¬ (1 : Int32) = 0 by decide), if_pos rfl, if_neg (show ¬ (1 : Int32) = 0 by decide), if_pos rfl]
  split <;> omega
def zwY (m : zz_W) (p s x r : Nat) : Nat := zpn s p (zto m s x r)
def zwN (m : zz_W) (p s x r : Nat) : Nat := zpn s p (if zto m s x r = 0 then 1 else 0)
theorem zW_add (m : zz_W) {p s : Nat} (hs : s < 4) (hp : p ≤ 49) (x r : Nat) : zwY m p s x r + zwN m p s x r = 100 := by
  have := zpn_add (s := s) hp
  unfold zwY zwN
  rcases zto_01 m hs x r with e | e
  · rw [e, if_pos rfl]; omega
  · rw [e, if_neg z10]; exact this
def zyes (m : zz_W) (s x : Nat) : Nat → Nat
  | 0 => 0
  | k + 1 => zyes m s x k + (zto m s x k).toNatClampNeg
theorem zto_n (m : zz_W) {s : Nat} (hs : s < 4) (x r : Nat) : ∃ t, t ≤ 1 ∧ zto m s x r = nI t ∧ (zto m s x r).toNatClampNeg = t := by
  rcases zto_01 m hs x r with e | e
  · exact ⟨0, by omega, e, by rw [e]; rfl⟩
  · exact ⟨1, by omega, e, by rw [e]; rfl⟩
theorem zyes_le (m : zz_W) {s : Nat} (hs : s < 4) (x : Nat) : ∀ k, zyes m s x k ≤ k := by
  intro k
  induction k with
  | zero => exact Nat.le_refl 0
  | succ k ih =>
    obtain ⟨t, ht, _, e⟩ := zto_n m hs x k
    rw [zyes, e]; omega
theorem zyes_0 (m : zz_W) {s : Nat} (hs : s < 4) (x : Nat) : ∀ k, zyes m s x k = 0 → ∀ r, r < k → zto m s x r = 0 := by
  intro k
  induction k with
  | zero => intro _ r hr; omega
  | succ k ih =>
    intro h r hr
    obtain ⟨t, ht, e1, e⟩ := zto_n m hs x k
    rw [zyes, e] at h
    by_cases q : r = k
    · rw [q, e1, show t = 0 by omega]; rfl
    · exact ih (by omega) r (by omega)
theorem zyes_n (m : zz_W) {s : Nat} (hs : s < 4) (x : Nat) : ∀ k, zyes m s x k = k → ∀ r, r < k → zto m s x r = 1 := by
  intro k
  induction k with
  | zero => intro _ r hr; omega
  | succ k ih =>
    intro h r hr
    obtain ⟨t, ht, e1, e⟩ := zto_n m hs x k
    have := zyes_le m hs x k
    rw [zyes, e] at h
    by_cases q : r = k
    · rw [q, e1, show t = 1 by omega]; rfl
    · exact ih (by omega) r (by omega)
/-- only the shares of a test have changed -/
def zO5 (c c1 : zz_W) : Prop := c1.1 = c.1 ∧ (∀ a i, ¬ a = 35 → zgL c1 a i = zgL c a i) ∧ c1.2.2 = c.2.2
theorem zO5_rfl (c : zz_W) : zO5 c c := ⟨rfl, fun _ _ _ => rfl, rfl⟩
theorem zO5_I {c c1 : zz_W} (h : zO5 c c1) (a i : Nat) : zgI c1 a i = zgI c a i := by show c1.1 a i = c.1 a i; rw [h.1]
theorem zQc_O {c0 c c1 : zz_W} (h : zQc c0 c) (h1 : zO5 c c1) : zQc c0 c1 := ⟨fun a i q1 q2 => by rw [zO5_I h1]; exact h.1 a i q1 q2, fun a i q1 => by rw [h1.2.1 a i (by omega)]; exact h.2.1 a i q1, by rw [h1.2.2]; exact h.2.2⟩
theorem zPl_O {m0 c c1 : zz_W} {H : Nat → Nat} {dp n i s : Nat} (h : zPl m0 H dp n i s c) (h1 : zO5 c c1) : zPl m0 H dp n i s c1 := by
  obtain ⟨p1, p2, p3, p4, p5, p6⟩ := h
  exact ⟨by rw [zO5_I h1]; exact p1, fun y hy => by rw [zO5_I h1]; exact p2 y hy, by rw [h1.2.1 _ _ (by omega)]; exact p3, fun r hr => by rw [h1.2.1 _ _ (by omega)]; exact p4 r hr, fun y hy => by rw [h1.2.1 _ _ (by omega)]; exact p5 y hy, by rw [zO5_I h1]; exact p6⟩
theorem c_share6 {c0 m0 : zz_W} {n i k0 dp p s x : Nat} {H : Nat → Nat} (hb : zBd c0 m0 n H i k0) (hp : p ≤ 49) (ep : zgI m0 1 3 = nI p) (hs : s < 4) (hx : x < 36) (q1 q2 : Int32) : ∀ d j k c, j + d = n → d < k → zQc c0 c → (∀ r, r < n → zgL c 34 r = lN (zlb m0 H dp r)) → (∀ r, r < j → zgL c 35 r = lN (zwY m0 p s x r * zlb m0 H dp r)) →
    ∃ c1, fX1_shareOut_6 1 q1 q2 k (nI s) (nI x) (nI (zyes m0 s x j)) (nI j) c = some ((if zyes m0 s x n = 0 then 0 else if n ≤ zyes m0 s x n then 0 else 1), c1) ∧ zO5 c c1 ∧ (∀ r, r < n → zgL c1 35 r = lN (zwY m0 p s x r * zlb m0 H dp r)) := by
  have hn10 := hb.1.1.hn
  intro d
  induction d with
  | zero =>
    intro j k c hj hk hc h3 h4
    obtain ⟨k, rfl⟩ : ∃ x, k = x + 1 := ⟨k - 1, by omega⟩
    have hwc := zWP_Q hb.1 hc (zQm_rfl m0)
    have : j = n := by omega
    subst this
    have hy := zyes_le m0 hs x j
    refine ⟨c, ?_, zO5_rfl c, h4⟩
    rw [fX1_shareOut_6, zbd_s, hwc.1.cn, if_pos (nI_le (by omega) (by omega))]
    by_cases e : zyes m0 s x j = 0
    · rw [e, if_pos (show nI 0 ≤ 0 by decide), if_pos rfl]
    · rw [if_neg (nI_nle (by omega) (by omega)), if_neg e, zbd_s]
      by_cases e2 : j ≤ zyes m0 s x j
      · rw [if_pos (nI_le e2 (by omega)), if_pos e2]
      · rw [if_neg (nI_ge (by omega) (by omega)), if_neg e2]
  | succ d ih =>
    intro j k c hj hk hc h3 h4
    obtain ⟨k, rfl⟩ : ∃ x, k = x + 1 := ⟨k - 1, by omega⟩
    have hwc := zWP_Q hb.1 hc (zQm_rfl m0)
    obtain ⟨t, ht, e1, e2⟩ := zto_n m0 hs x j
    have ey : zyes m0 s x (j + 1) = zyes m0 s x j + t := by rw [zyes, e2]
    have hl := zpn_le (s := s) hp (zto m0 s x j)
    have go : ∃ c1, fX1_shareOut_58 1 q1 q2 (fX1_shareOut_6 1 q1 q2 k) (nI s) (nI x) (nI (zyes m0 s x j + t)) (nI j) (nI j) (lN (zlb m0 H dp j)) (nI s) (zto m0 s x j) c = some ((if zyes m0 s x n = 0 then 0 else if n ≤ zyes m0 s x n then 0 else 1), c1) ∧ zO5 c c1 ∧ (∀ r, r < n → zgL c1 35 r = lN (zwY m0 p s x r * zlb m0 H dp r)) := by
      unfold fX1_shareOut_58
      rw [c_hund hwc.1, zbd2_s, ep, zpc_n hs hp, nI_l (by omega), lN_mul, zstLn (i := j) (by omega) (by omega), zbd_s, zbd_s, nI_1, ← ey, show zlb m0 H dp j * zpn s p (zto m0 s x j) = zwY m0 p s x j * zlb m0 H dp j from Nat.mul_comm _ _]
      have o1 : zO5 c (zsL c 35 j (lN (zwY m0 p s x j * zlb m0 H dp j))) := ⟨rfl, fun a y hh => by rw [zgL_sL, if_neg (by omega)], rfl⟩
      obtain ⟨c1, r1, r2, r3⟩ := ih (j + 1) k (zsL c 35 j (lN (zwY m0 p s x j * zlb m0 H dp j))) (by omega) (by omega) (zQc_O hc o1) (fun r hr => by rw [zgL_sL, if_neg (by omega)]; exact h3 r hr) (fun r hr => by
        rw [zgL_sL]
        by_cases e : r = j
        · rw [if_pos ⟨rfl, e⟩, e]
        · rw [if_neg (by omega)]; exact h4 r (by omega))
      exact ⟨c1, r1, ⟨by rw [r2.1]; rfl, fun a y hh => by rw [r2.2.1 a y hh, o1.2.1 a y hh], by rw [r2.2.2]; rfl⟩, r3⟩
    rw [fX1_shareOut_6, zbd_s, hwc.1.cn, if_neg (nI_ge (by omega) (by omega)), c_tell hwc.1 (by omega) hs hx, zbd2_s, zbd_s, zldLn (i := j) (by omega) (by omega), zbd_s, h3 j (by omega)]
    rw [show zt (zgI m0 1 (14 + 5 * j)) (zgI m0 1 (17 + 5 * j)) (nI s) (zgI m0 1 (15 + 5 * j)) (nI x) = zto m0 s x j from rfl]
    rw [show nI (zyes m0 s x j) + zto m0 s x j = nI (zyes m0 s x j + t) by rw [e1, nI_add]]
    rcases zto_01 m0 hs x j with e | e
    · rw [e] at go
      rw [e, if_neg (show ¬ (0 : Int32) = 1 by decide)]; exact go
    · rw [e] at go
      rw [e, if_pos rfl]; exact go
noncomputable def zlv (m : zz_W) (n a b0 b1 : Nat) : Int32 := Int64.toInt32 (1000 * (100 * lN a - lN b0 - lN b1) / (100 * lN (zsm (zgI m 1) 18 n)))
noncomputable def zVV (m : zz_W) (H : Nat → Nat) (dp n i k p s x : Nat) : Int32 := zlv m n (zgg m H (fun _ => 1) dp n i k (zbi (zgg m H (fun _ => 1) dp n i k) (zcc m i k)))
  (zgg m H (zwN m p s x) dp n i k (zbi (zgg m H (zwN m p s x) dp n i k) (zcc m i k))) (zgg m H (zwY m p s x) dp n i k (zbi (zgg m H (zwY m p s x) dp n i k) (zcc m i k)))
theorem zgg_add {m : zz_W} {H : Nat → Nat} {dp n i k p s : Nat} (hs : s < 4) (hp : p ≤ 49) (x y : Nat) : zgg m H (zwY m p s x) dp n i k y + zgg m H (zwN m p s x) dp n i k y = 100 * zgg m H (fun _ => 1) dp n i k y :=
  zls_add (fun r _ => zW_add m hs hp x r) n (Nat.le_refl n)
theorem zsub3 (a b c : Int64) : a - b - c = a - c - b := by
  rw [Int64.sub_eq_add_neg, Int64.sub_eq_add_neg, Int64.sub_eq_add_neg (a := a - c), Int64.sub_eq_add_neg (a := a), Int64.add_assoc, Int64.add_comm (-b), Int64.add_assoc]
theorem zdne {b n : Nat} {c0 m0 c m : zz_W} (h : zWP b n c0 m0 c m) (hn : 0 < n) : ¬ (100 : Int64) * lN (zsm (zgI m 1) 18 n) = 0 := by
  have hn10 := h.1.hn
  have hle := zsm4_le h.1 (Nat.le_refl n)
  have hS := zsm_pp h hn
  rw [show (100 : Int64) * lN (zsm (zgI m 1) 18 n) = lN (100 * zsm (zgI m 1) 18 n) from lN_mul 100 _]
  intro q
  have := (pk_lEQ (b := 0) (by omega) (by omega)).mp q
  omega
theorem c_learn30 {c0 m0 c : zz_W} {n i k0 dp p s x : Nat} {H : Nat → Nat} (hb : zBd c0 m0 n H i k0) (hn : 0 < n) (hcn : 0 < zcc m0 i k0) (hp : p ≤ 49) (hs : s < 4) (hc : zQc c0 c) (hpl : zPl m0 H dp n i k0 c) (h35 : ∀ r, r < n → zgL c 35 r = lN (zwY m0 p s x r * zlb m0 H dp r)) (q1 q2 : Int32) :
    ∀ d j k, j + d = zcc m0 i k0 → d < k → fX1_learnBy_30 1 q1 q2 k (lN (zmi (zgg m0 H (zwY m0 p s x) dp n i k0) j)) (lN (zmi (zgg m0 H (zwN m0 p s x) dp n i k0) j)) (nI j) c = some (zVV m0 H dp n i k0 p s x, c) := by
  have hn10 := hb.1.1.hn
  have hk24 := hb.2.2.2.1
  have hcs : zcc m0 i k0 ≤ k0 := zcn_le _ k0
  obtain ⟨p1, p2, p3, p4, p5, p6⟩ := hpl
  have hbl := zbi_lt (zgg m0 H (fun _ => 1) dp n i k0) (zcc m0 i k0) hcn
  have hW1 : ∀ r, r < n → zwY m0 p s x r ≤ 100 := fun r _ => zpn_le hp _
  have hW0 : ∀ r, r < n → zwN m0 p s x r ≤ 100 := fun r _ => zpn_le hp _
  have bnd : ∀ (g : Nat → Nat), (∀ y, g y ≤ 19701000000) → ∀ j, zmi g j ≤ 19701000000 := by
    intro g hg j
    induction j with
    | zero => rw [zmi]; omega
    | succ j ih =>
      have := hg 0
      have := hg j
      rw [zmi]
      split <;> omega
  have gm1 := bnd _ (fun y => zgg_lt hb hW1 dp y)
  have gm0 := bnd _ (fun y => zgg_lt hb hW0 dp y)
  have zm : ∀ {a b : Nat}, a ≤ 19701000000 → b ≤ 19701000000 → zminL (lN a) (lN b) = lN (min a b) := by
    intro a b ha hb'
    unfold zminL
    by_cases e : b < a
    · rw [if_pos ((pk_lLT (by omega) (by omega)).mpr e), Nat.min_eq_right (by omega)]
    · rw [if_neg (fun z => e ((pk_lLT (by omega) (by omega)).mp z)), Nat.min_eq_left (by omega)]
  intro d
  induction d with
  | zero =>
    intro j k hj hk
    obtain ⟨k, rfl⟩ : ∃ x, k = x + 1 := ⟨k - 1, by omega⟩
    have : j = zcc m0 i k0 := by omega
    subst this
    rw [fX1_learnBy_30, zbd_s, p1, if_pos (nI_le (by omega) (by omega))]
    unfold fX1_leastLoss zldiv
    rw [zbd_s, p6, zldLn (i := zbi (zgg m0 H (fun _ => 1) dp n i k0) (zcc m0 i k0)) (by omega) (by omega), zbd_s, zbd2_s, zbd_s, p5 _ hbl, p3, if_neg (zdne hb.1 hn), zbd_s, zmi_bi _ _ hcn, zmi_bi _ _ hcn, zsub3]
    rfl
  | succ d ih =>
    intro j k hj hk
    obtain ⟨k, rfl⟩ : ∃ x, k = x + 1 := ⟨k - 1, by omega⟩
    have hA : zAA m0 i k0 j < 36 := zwa_lt _ k0 (by show j < zcc m0 i k0; omega)
    have g1 := zgg_lt hb hW1 dp j
    have g0 := zgg_lt hb hW0 dp j
    have ga := zgg_add (m := m0) (H := H) (dp := dp) (n := n) (i := i) (k := k0) hs hp x j
    have lo : fX1_lossOf 1 35 (nI (zAA m0 i k0 j)) c = some (lN (zgg m0 H (zwY m0 p s x) dp n i k0 j), c) := c_lossOf hb.1 hc (by decide) hA h35
    have e0 : (100 : Int64) * lN (zgg m0 H (fun _ => 1) dp n i k0 j) - lN (zgg m0 H (zwY m0 p s x) dp n i k0 j) = lN (zgg m0 H (zwN m0 p s x) dp n i k0 j) := by
      rw [show (100 : Int64) * lN (zgg m0 H (fun _ => 1) dp n i k0 j) = lN (100 * zgg m0 H (fun _ => 1) dp n i k0 j) from lN_mul 100 _, lN_sub (by omega)]
      congr 1
      omega
    have m1 : ∀ g : Nat → Nat, zmi g (j + 1) = if j = 0 then g 0 else min (zmi g j) (g j) := fun g => rfl
    have := ih (j + 1) k (by omega) (by omega)
    rw [fX1_learnBy_30, zbd_s, p1, if_neg (nI_ge (by omega) (by omega)), zld (i := j) (by omega) (by omega), zbd_s, p2 j (by omega), lo, zbd2_s, zldLn (i := j) (by omega) (by omega), zbd_s, p5 j (by omega), e0, zbd_s]
    unfold fX1_learnBy_89
    by_cases e : j = 0
    · rw [m1, m1, if_pos e, if_pos e] at this
      subst e
      rw [if_pos (show nI 0 = 0 from rfl), if_pos (show nI 0 = 0 from rfl), zbd_s, nI_1]
      exact this
    · rw [m1, m1, if_neg e, if_neg e] at this
      rw [if_neg (nI_ne0 (by omega) (by omega)), if_neg (nI_ne0 (by omega) (by omega)), zbd_s, zbd_s, nI_1, zm (gm1 j) g1, zm (gm0 j) g0]
      exact this
theorem zbi_mul {g h : Nat → Nat} {a k : Nat} (hk : 0 < k) (e : ∀ y, h y = a * g y) : h (zbi h k) = a * g (zbi g k) := by
  have h1 := zbi_le h k (zbi g k) (zbi_lt g k hk)
  have h2 := zbi_le g k (zbi h k) (zbi_lt h k hk)
  have h3 := Nat.mul_le_mul_left a h2
  rw [e (zbi g k)] at h1
  rw [e (zbi h k)] at h1 ⊢
  omega
theorem zVV_0 {c0 m0 : zz_W} {n i k0 dp p s x a : Nat} {H : Nat → Nat} (hb : zBd c0 m0 n H i k0) (hn : 0 < n) (hcn : 0 < zcc m0 i k0) (hp : p ≤ 49) (hs : s < 4) (ha : ∀ r, r < n → zwY m0 p s x r = a) : zVV m0 H dp n i k0 p s x = 0 := by
  have hn10 := hb.1.1.hn
  have hle := zsm4_le hb.1.1 (Nat.le_refl n)
  have hS := zsm_pp hb.1 hn
  have e1 : ∀ y, zgg m0 H (zwY m0 p s x) dp n i k0 y = a * zgg m0 H (fun _ => 1) dp n i k0 y := fun y => zls_const ha n (Nat.le_refl n)
  have h0 : ∀ r, r < n → zwN m0 p s x r = 100 - a := fun r hr => by
    have := zW_add m0 hs hp x r
    have := ha r hr
    omega
  have e0 : ∀ y, zgg m0 H (zwN m0 p s x) dp n i k0 y = (100 - a) * zgg m0 H (fun _ => 1) dp n i k0 y := fun y => zls_const h0 n (Nat.le_refl n)
  have a100 : a ≤ 100 := by
    have := ha 0 hn
    have : zwY m0 p s x 0 ≤ 100 := zpn_le hp _
    omega
  have b := zgg_lt hb (W := fun _ => 1) (fun _ _ => by omega) dp (zbi (zgg m0 H (fun _ => 1) dp n i k0) (zcc m0 i k0))
  unfold zVV zlv
  rw [zbi_mul hcn e1, zbi_mul hcn e0]
  generalize zgg m0 H (fun _ => 1) dp n i k0 (zbi (zgg m0 H (fun _ => 1) dp n i k0) (zcc m0 i k0)) = g at *
  have z : (100 : Int64) * lN g - lN ((100 - a) * g) - lN (a * g) = lN 0 := by
    have q : (100 - a) * g + a * g = 100 * g := by rw [← Nat.add_mul, Nat.sub_add_cancel a100]
    rw [show (100 : Int64) * lN g = lN (100 * g) from lN_mul 100 _, lN_sub (by omega), lN_sub (by omega)]
    congr 1
    omega
  rw [z, show (1000 : Int64) * lN 0 = lN 0 from lN_mul 1000 0, show (100 : Int64) * lN (zsm (zgI m0 1) 18 n) = lN (100 * zsm (zgI m0 1) 18 n) from lN_mul 100 _, pk_lDiv (by omega) (by omega) (by omega), Nat.zero_div]
  rfl
theorem c_learnBy {c0 m0 c : zz_W} {n i k0 dp p s x : Nat} {H : Nat → Nat} (hb : zBd c0 m0 n H i k0) (hn : 0 < n) (hcn : 0 < zcc m0 i k0) (hp : p ≤ 49) (ep : zgI m0 1 3 = nI p) (hs : s < 4) (hx : x < 36) (hc : zQc c0 c) (hpl : zPl m0 H dp n i k0 c) :
    ∃ c1, fX1_learnBy 1 (nI s) (nI x) c = some (zVV m0 H dp n i k0 p s x, c1) ∧ zO5 c c1 := by
  have hf := zfuel_big
  have hn10 := hb.1.1.hn
  have hle := zsm4_le hb.1.1 (Nat.le_refl n)
  have hk24 := hb.2.2.2.1
  have hcs : zcc m0 i k0 ≤ k0 := zcn_le _ k0
  have hS := zsm_pp hb.1 hn
  obtain ⟨p1, p2, p3, p4, p5, p6⟩ := id hpl
  obtain ⟨c1, r1, r2, r3⟩ := c_share6 (dp := dp) (p := p) (s := s) (x := x) hb hp ep hs hx (nI s) (nI x) n 0 zfuel c (by omega) (by omega) hc p4 (fun r hr => absurd hr (by omega))
  have hy := zyes_le m0 hs x n
  refine ⟨c1, ?_, r2⟩
  unfold fX1_learnBy fX1_shareOut
  rw [zgrd_h _ hb.1.1.W, zbd_s, p3, if_neg (show ¬ lg_cmp (lN (zsm (zgI m0 1) 18 n)) 0 ≤ 0 from fun z => by
    have := (pk_lLE (b := 0) (by omega) (by omega)).mp ((lg_cmp_le _ _).mp z)
    omega), zgrd_h _ hb.1.1.W, show fX1_shareOut_6 1 (nI s) (nI x) zfuel (nI s) (nI x) 0 0 c = _ from r1, zbd2_s]
  by_cases e : zyes m0 s x n = 0
  · rw [if_pos e, if_pos rfl, zVV_0 (a := zpn s p 0) hb hn hcn hp hs (fun r hr => by unfold zwY; rw [zyes_0 m0 hs x n e r hr])]
  rw [if_neg e]
  by_cases e2 : n ≤ zyes m0 s x n
  · rw [if_pos e2, if_pos rfl, zVV_0 (a := zpn s p 1) hb hn hcn hp hs (fun r hr => by unfold zwY; rw [zyes_n m0 hs x n (by omega) r hr])]
  rw [if_neg e2, if_neg z10]
  exact c_learn30 hb hn hcn hp hs (zQc_O hc r2) (zPl_O hpl r2) r3 (nI s) (nI x) (zcc m0 i k0) 0 zfuel (by omega) (by omega)
theorem m_learn35 {c0 m0 : zz_W} {n i k0 dp p s x t : Nat} {H : Nat → Nat} (hb : zBd c0 m0 n H i k0) (hcn : 0 < zcc m0 i k0) (hp : p ≤ 49) (ep : zgI m0 1 3 = nI p) (hs : s < 4) (ht : t < 2) (W : Nat → Nat) (hW : W = (if t = 0 then zwN m0 p s x else zwY m0 p s x)) (p1 p2 p3 p4 : Int32) (k26 : Int32 → Int32 → Int32 → Int32 → Int64 → Int32 → zz_W → Option (Int32 × zz_W)) (l5 : Int64) :
    ∀ d j k m, j + d = n → d < k → zQm m0 m → (∀ r, r < j → zgI m 4 r = nI (W r)) → (∀ r, r < n → zgI m 5 r = nI (H r)) →
    ∃ m1, zQm m0 m1 ∧ zWt n H W m1 ∧ fX8_learnOf_35 p1 p2 p3 p4 k26 k (nI s) (nI x) (nI i) (nI dp) l5 (nI t) (nI j) m = k26 (nI s) (nI x) (nI i) (nI dp) (l5 - lN (zgg m0 H W dp n i k0 (zbi (zgg m0 H W dp n i k0) (zcc m0 i k0)))) (nI (t + 1)) m1 := by
  have hn10 := hb.1.1.hn
  have hW100 : ∀ r, r < n → W r ≤ 100 := fun r _ => by rw [hW]; split; exact zpn_le hp _; exact zpn_le hp _
  intro d
  induction d with
  | zero =>
    intro j k m hj hk hm h4 h5
    obtain ⟨k, rfl⟩ : ∃ x, k = x + 1 := ⟨k - 1, by omega⟩
    have hwm := zWP_Q hb.1 (zQc_rfl c0) hm
    have hwt : zWt n H W m := ⟨fun r hr => h4 r (by omega), h5⟩
    refine ⟨m, hm, hwt, ?_⟩
    rw [fX8_learnOf_35, m_l1, zbd_s, hwm.1.mn, if_pos (nI_le (by omega) (by omega)), m_least hb hW100 hm hwt, zbd2_s, show zlo m0 H W dp n i k0 k0 = nI (zAA m0 i k0 (zbi (zgg m0 H W dp n i k0) (zcc m0 i k0))) from if_neg (by omega), m_lossAt hb.1 (fun r hr => (hb.2.1 r hr).1) hW100 hm hwt, zbd2_s, zbd_s, zbd_s, nI_1]
    rfl
  | succ d ih =>
    intro j k m hj hk hm h4 h5
    obtain ⟨k, rfl⟩ : ∃ x, k = x + 1 := ⟨k - 1, by omega⟩
    have hwm := zWP_Q hb.1 (zQc_rfl c0) hm
    have g1 : ∀ i, zgI m 1 i = zgI m0 1 i := fun i => hm 1 i (by omega)
    have go : ∀ a : Int32, zpn s p a = W j → ∃ m1, zQm m0 m1 ∧ zWt n H W m1 ∧ fX8_learnOf_80 p1 p2 p3 p4 (fX8_learnOf_35 p1 p2 p3 p4 k26 k) (nI s) (nI x) (nI i) (nI dp) l5 (nI t) (nI j) (nI j) a m = k26 (nI s) (nI x) (nI i) (nI dp) (l5 - lN (zgg m0 H W dp n i k0 (zbi (zgg m0 H W dp n i k0) (zcc m0 i k0)))) (nI (t + 1)) m1 := by
      intro a ea
      unfold fX8_learnOf_80
      rw [m_hund, zbd2_s, g1, ep, zpc_n hs hp, ea, zst (i := j) (by omega) (by omega), zbd_s, zbd_s, nI_1]
      refine ih (j + 1) k _ (by omega) (by omega) (fun a y hh => by rw [zgI_sI, if_neg (by omega)]; exact hm a y hh) (fun r hr => ?_) (fun r hr => by rw [zgI_sI, if_neg (by omega)]; exact h5 r hr)
      rw [zgI_sI]
      by_cases e : r = j
      · rw [if_pos ⟨rfl, e⟩, e]
      · rw [if_neg (by omega)]; exact h4 r (by omega)
    rw [fX8_learnOf_35, m_l1, zbd_s, hwm.1.mn, if_neg (nI_ge (by omega) (by omega)), m_tell (by omega), zbd2_s, g1, g1, g1]
    rw [show zt (zgI m0 1 (14 + 5 * j)) (zgI m0 1 (17 + 5 * j)) (nI s) (zgI m0 1 (15 + 5 * j)) (nI x) = zto m0 s x j from rfl]
    unfold fX8_learnOf_72
    by_cases e : t = 0
    · subst e
      have hWj : W j = zpn s p (if zto m0 s x j = 0 then 1 else 0) := by rw [hW]; rfl
      rw [if_neg (show ¬ nI 0 = 1 by decide)]
      by_cases q : zto m0 s x j = 0
      · rw [if_pos q]; exact go 1 (by rw [hWj, if_pos q])
      · rw [if_neg q]; exact go 0 (by rw [hWj, if_neg q])
    · have : t = 1 := by omega
      subst this
      have hWj : W j = zpn s p (zto m0 s x j) := by rw [hW]; rfl
      rw [if_pos (show nI 1 = 1 from rfl)]
      rcases zto_01 m0 hs x j with q | q
      · rw [if_neg (show ¬ zto m0 s x j = 1 by rw [q]; decide)]; exact go 0 (by rw [hWj, q])
      · rw [if_pos q]; exact go 1 (by rw [hWj, q])
theorem m_learnOf {c0 m0 m : zz_W} {n i k0 dp p s x : Nat} {H : Nat → Nat} (hb : zBd c0 m0 n H i k0) (hn : 0 < n) (hcn : 0 < zcc m0 i k0) (hp : p ≤ 49) (ep : zgI m0 1 3 = nI p) (hs : s < 4) (hm : zQm m0 m) :
    ∃ m1, fX8_learnOf (nI s) (nI x) (nI i) (nI dp) m = some (zVV m0 H dp n i k0 p s x, m1) ∧ zQm m0 m1 := by
  have hf := zfuel_big
  have hn10 := hb.1.1.hn
  have hle := zsm4_le hb.1.1 (Nat.le_refl n)
  obtain ⟨m1, r1, r2, r3⟩ := m_weighsAll hb.1 hb.2.1 hm
  obtain ⟨f, hf1⟩ : ∃ f, zfuel = f + 3 := ⟨3997, rfl⟩
  unfold fX8_learnOf
  rw [r1, zbd_s, m_least hb (W := fun _ => 1) (fun _ _ => by omega) r2 r3, zbd2_s, show zlo m0 H (fun _ => 1) dp n i k0 k0 = nI (zAA m0 i k0 (zbi (zgg m0 H (fun _ => 1) dp n i k0) (zcc m0 i k0))) from if_neg (by omega), m_lossAt hb.1 (fun r hr => (hb.2.1 r hr).1) (fun _ _ => by omega) r2 r3, zbd2_s, zbd_s]
  obtain ⟨m2, s1, s2, s3⟩ := m_learn35 (dp := dp) (p := p) (s := s) (x := x) (t := 0) hb hcn hp ep hs (by omega) (zwN m0 p s x) rfl (nI s) (nI x) (nI i) (nI dp) (fX8_learnOf_26 (nI s) (nI x) (nI i) (nI dp) (f + 2)) (100 * lN (zls m0 H (fun _ => 1) dp (zAA m0 i k0 (zbi (zgg m0 H (fun _ => 1) dp n i k0) (zcc m0 i k0))) n)) n 0 zfuel m1 (by omega) (by omega) r2 (fun r hr => absurd hr (by omega)) r3.2
  obtain ⟨m3, t1, t2, t3⟩ := m_learn35 (dp := dp) (p := p) (s := s) (x := x) (t := 1) hb hcn hp ep hs (by omega) (zwY m0 p s x) rfl (nI s) (nI x) (nI i) (nI dp) (fX8_learnOf_26 (nI s) (nI x) (nI i) (nI dp) (f + 1)) (100 * lN (zls m0 H (fun _ => 1) dp (zAA m0 i k0 (zbi (zgg m0 H (fun _ => 1) dp n i k0) (zcc m0 i k0))) n) - lN (zgg m0 H (zwN m0 p s x) dp n i k0 (zbi (zgg m0 H (zwN m0 p s x) dp n i k0) (zcc m0 i k0)))) n 0 zfuel m2 (by omega) (by omega) s1 (fun r hr => absurd hr (by omega)) s2.2
  have hwm := zWP_Q hb.1 (zQc_rfl c0) t1
  refine ⟨m3, ?_, t1⟩
  have e0 : fX8_learnOf_26 (nI s) (nI x) (nI i) (nI dp) zfuel (nI s) (nI x) (nI i) (nI dp) (100 * lN (zls m0 H (fun _ => 1) dp (zAA m0 i k0 (zbi (zgg m0 H (fun _ => 1) dp n i k0) (zcc m0 i k0))) n)) 0 m1 =
      fX8_learnOf_35 (nI s) (nI x) (nI i) (nI dp) (fX8_learnOf_26 (nI s) (nI x) (nI i) (nI dp) (f + 2)) zfuel (nI s) (nI x) (nI i) (nI dp) (100 * lN (zls m0 H (fun _ => 1) dp (zAA m0 i k0 (zbi (zgg m0 H (fun _ => 1) dp n i k0) (zcc m0 i k0))) n)) (nI 0) (nI 0) m1 := by
    conv => lhs; rw [hf1, fX8_learnOf_26, if_neg (show ¬ (2 : Int32) ≤ 0 by decide)]
    rfl
  rw [e0, s3, fX8_learnOf_26, if_neg (show ¬ (2 : Int32) ≤ nI (0 + 1) by decide), show fX8_learnOf_35 _ _ _ _ _ zfuel _ _ _ _ _ (nI (0 + 1)) 0 m2 = _ from t3, fX8_learnOf_26, if_pos (show (2 : Int32) ≤ nI (1 + 1) by decide), m_sumO hwm.1, zbd2_s]
  unfold zldiv
  rw [nI_l (by rw [zsm_Q t1]; omega), zsm_Q t1, if_neg (zdne hb.1 hn), zbd_s]
  rfl
theorem m_wished {c0 m0 m : zz_W} {n i k0 : Nat} {H : Nat → Nat} (hb : zBd c0 m0 n H i k0) (hm : zQm m0 m) : ∃ m1, fX8_isWished (nI i) m = some ((if n = 0 then 0 else if zcc m0 i k0 = 0 then 0 else 1), m1) ∧ zQm m0 m1 := by
  have hn10 := hb.1.1.hn
  obtain ⟨m1, r1, r2, r3⟩ := m_weighsAll hb.1 hb.2.1 hm
  have hwm := zWP_Q hb.1 (zQc_rfl c0) r2
  refine ⟨m1, ?_, r2⟩
  unfold fX8_isWished
  rw [r1, zbd_s, m_l1, zbd_s, hwm.1.mn]
  by_cases e : n = 0
  · subst e
    rw [if_pos (show nI 0 ≤ 0 by decide), if_pos rfl]
  rw [if_neg (nI_nle (by omega) (by omega)), if_neg e, show fX8_leastOf (nI i) 1 m1 = _ from m_least (dp := 1) hb (W := fun _ => 1) (fun _ _ => by omega) r2 r3, zbd2_s]
  by_cases e2 : zcc m0 i k0 = 0
  · rw [show zlo m0 H (fun _ => 1) 1 n i k0 k0 = -1 from if_pos e2, if_pos (show (-1 : Int32) < 0 by decide), if_pos e2]
  · have hbl := zbi_lt (zgg m0 H (fun _ => 1) 1 n i k0) (zcc m0 i k0) (by omega)
    have hA : zAA m0 i k0 (zbi (zgg m0 H (fun _ => 1) 1 n i k0) (zcc m0 i k0)) < 36 := zwa_lt _ k0 hbl
    rw [show zlo m0 H (fun _ => 1) 1 n i k0 k0 = nI (zAA m0 i k0 (zbi (zgg m0 H (fun _ => 1) 1 n i k0) (zcc m0 i k0))) from if_neg e2, if_neg (nI_pos (by omega)), if_neg e2]
theorem c_plan0 {c : zz_W} {i : Nat} (hi : i < 4) (h0 : zgI c (42 + 2 * i) 1 = -1) (dp : Int32) : fX7_makePlan (nI i) dp c = some (-1000000011, c) := by
  unfold fX7_makePlan fX2_isMissing
  rw [zldQn (i := i) (by omega) (by omega), zbd_s, show zq4 i = 42 + 2 * i from rfl, zgrd_h _ (zisS4 i hi), zbd_s, if_pos h0, zbd2_s, if_neg z10]
theorem c_plan1 {c : zz_W} {i : Nat} (hi : i < 4) (h0 : ¬ zgI c (42 + 2 * i) 1 = -1) (h1 : zgI c 1 9 = 0) (dp : Int32) : fX7_makePlan (nI i) dp c = some (-1000000005, c) := by
  unfold fX7_makePlan fX2_isMissing
  rw [zldQn (i := i) (by omega) (by omega), zbd_s, show zq4 i = 42 + 2 * i from rfl, zgrd_h _ (zisS4 i hi), zbd_s, if_neg h0, zbd2_s, if_pos rfl, zbd_s, if_pos h1]
theorem s_learn (a1 a2 a3 a4 : Int32) : zSIM (fX7_learn a1 a2 a3 a4) (fX8_learn a1 a2 a3 a4) := by
  intro c m h
  obtain ⟨n, hw⟩ := zR1 h
  have hn10 := hw.1.hn
  obtain ⟨_, _, _, sh, _⟩ := id h
  obtain ⟨p, hp, ep⟩ := hw.1.sl
  unfold fX7_learn fX8_learn fX8_isTest
  simp only [c_isSheet, m_isSheet, c_isDepth, c_isSort, c_isCell, m_isCell, m_in, zbd2_e]
  rcases zwi_lit a1 0 3 (by omega) (by omega) with e | ⟨e, s, _, hs, rfl⟩
  · rw [show zwi a1 0 3 = 0 from e, if_pos rfl, if_pos rfl, zbd2_s, if_pos rfl]; exact zret _ h
  rw [show zwi (nI s) 0 3 = 1 from e, if_neg z10, if_neg z10]
  rcases zwi_lit a2 0 35 (by omega) (by omega) with e1 | ⟨e1, x, _, hx, rfl⟩
  · rw [show zwi a2 0 35 = 0 from e1, if_pos rfl, if_pos rfl, zbd2_s, if_pos rfl]; exact zret _ h
  rw [show zwi (nI x) 0 35 = 1 from e1, if_neg z10, if_neg z10, zbd2_s, if_neg z10]
  rcases zwi_lit a3 0 3 (by omega) (by omega) with e2 | ⟨e2, i, _, hi, rfl⟩
  · rw [show zwi a3 0 3 = 0 from e2, if_pos rfl, if_pos rfl]; exact zret _ h
  rw [show zwi (nI i) 0 3 = 1 from e2, if_neg z10, if_neg z10]
  rcases zwi_lit a4 1 9 (by omega) (by omega) with e3 | ⟨e3, dp, _, hdp, rfl⟩
  · rw [show zwi a4 1 9 = 0 from e3, if_pos rfl, if_pos rfl]; exact zret _ h
  rw [show zwi (nI dp) 1 9 = 1 from e3, if_neg z10, if_neg z10, zld (i := i) (by omega) (by omega)]
  obtain ⟨b1, b2, _⟩ := sh i (by omega)
  obtain ⟨H, k0, hb⟩ := zBd_ex h hw (show i < 4 by omega)
  obtain ⟨m1, r1, r2⟩ := m_wished hb (zQm_rfl m)
  rcases zmiss _ b2 with ⟨x1, x2⟩ | ⟨x1, x2⟩
  · rw [c_plan0 (by omega) (by rw [b1]; exact x1), zbd2_s, if_neg (show ¬ (-1000000011 : Int32) = 0 by decide), zbd_s, if_neg x2]; exact zret _ h
  by_cases n0 : n = 0
  · subst n0
    rw [c_plan1 (by omega) (by rw [b1]; exact x1) hw.1.cn, zbd2_s, if_neg (show ¬ (-1000000005 : Int32) = 0 by decide), zbd_s, if_pos x2, r1, zbd2_s, if_pos rfl, if_pos rfl]
    exact ⟨_, _, _, rfl, rfl, zRel_Q h (zQc_rfl c) r2⟩
  rcases c_plan (dp := dp) hb (by omega) (by rw [b1]; exact x1) with ⟨k1, c1, k2, k3⟩ | ⟨k1, c1, k2, k3, k4⟩
  · rw [k2, zbd2_s, if_neg (show ¬ (-1000000005 : Int32) = 0 by decide), zbd_s, if_pos x2, r1, zbd2_s, if_neg n0, if_pos k1, if_pos rfl]
    exact ⟨_, _, _, rfl, rfl, zRel_Q h k3 r2⟩
  · obtain ⟨c2, t1, t2⟩ := c_learnBy hb (by omega) k1 hp ep (show s < 4 by omega) (show x < 36 by omega) k3 k4
    obtain ⟨m2, u1, u2⟩ := m_learnOf (dp := dp) (s := s) (x := x) hb (by omega) k1 hp ep (by omega) r2
    rw [k2, zbd2_s, if_pos rfl, t1, zbd2_s, zbd_s, if_pos x2, r1, zbd2_s, if_neg n0, if_neg (show ¬ zcc m i k0 = 0 by omega), if_neg z10, u1, zbd2_s]
    exact ⟨_, _, _, rfl, rfl, zRel_Q h (zQc_O k3 t2) u2⟩
theorem zls_sm {n : Nat} {c m : zz_W} {H : Nat → Nat} (hw : zWal 1 n c m c m) (hH : ∀ r, r < n → H r ≤ 199) {dp x : Nat} : ∀ k, k ≤ n → zls m H (fun _ => 1) dp x k ≤ 199 * zsm (zgI m 1) 18 k := by
  intro k
  induction k with
  | zero => intro _; exact Nat.le_refl 0
  | succ k ih =>
    intro hk
    have h1 := ih (by omega)
    obtain ⟨o, ho, eo⟩ := hw.ro k (by omega)
    have h2 := Nat.mul_le_mul_left o (hH k (by omega))
    rw [zls, zsm_s eo (by omega)]
    unfold zlb
    rw [eo, nI_clamp (by omega), Nat.one_mul]
    (repeat' split) <;> omega
theorem zVV_pos {c0 m0 : zz_W} {n i k0 dp p s x : Nat} {H : Nat → Nat} (hb : zBd c0 m0 n H i k0) (hn : 0 < n) (hcn : 0 < zcc m0 i k0) (hp : p ≤ 49) (hs : s < 4) : ∃ v, v ≤ 199000 ∧ zVV m0 H dp n i k0 p s x = nI v := by
  have hn10 := hb.1.1.hn
  have hle := zsm4_le hb.1.1 (Nat.le_refl n)
  have hS := zsm_pp hb.1 hn
  have hbl := zbi_lt (zgg m0 H (fun _ => 1) dp n i k0) (zcc m0 i k0) hcn
  have h1 := zbi_le (zgg m0 H (zwY m0 p s x) dp n i k0) (zcc m0 i k0) _ hbl
  have h0 := zbi_le (zgg m0 H (zwN m0 p s x) dp n i k0) (zcc m0 i k0) _ hbl
  have ha := zgg_add (m := m0) (H := H) (dp := dp) (n := n) (i := i) (k := k0) hs hp x (zbi (zgg m0 H (fun _ => 1) dp n i k0) (zcc m0 i k0))
  have hu : zgg m0 H (fun _ => 1) dp n i k0 (zbi (zgg m0 H (fun _ => 1) dp n i k0) (zcc m0 i k0)) ≤ 199 * zsm (zgI m0 1) 18 n := zls_sm hb.1.1 (fun r hr => (hb.2.1 r hr).1) n (Nat.le_refl n)
  unfold zVV zlv
  generalize zgg m0 H (fun _ => 1) dp n i k0 (zbi (zgg m0 H (fun _ => 1) dp n i k0) (zcc m0 i k0)) = g at *
  generalize zgg m0 H (zwY m0 p s x) dp n i k0 (zbi (zgg m0 H (zwY m0 p s x) dp n i k0) (zcc m0 i k0)) = g1 at *
  generalize zgg m0 H (zwN m0 p s x) dp n i k0 (zbi (zgg m0 H (zwN m0 p s x) dp n i k0) (zcc m0 i k0)) = g0 at *
  generalize zsm (zgI m0 1) 18 n = S at *
  refine ⟨1000 * (100 * g - g0 - g1) / (100 * S), ?_, ?_⟩
  · have : 1000 * (100 * g - g0 - g1) ≤ 199000 * (100 * S) := by omega
    have q := Nat.div_le_of_le_mul (m := 1000 * (100 * g - g0 - g1)) (k := 100 * S) (n := 199000) (by omega)
    exact q
  · rw [show (100 : Int64) * lN g = lN (100 * g) from lN_mul 100 _, lN_sub (by omega), lN_sub (by omega), show (1000 : Int64) * lN (100 * g - g0 - g1) = lN (1000 * (100 * g - g0 - g1)) from lN_mul 1000 _, show (100 : Int64) * lN S = lN (100 * S) from lN_mul 100 _, pk_lDiv (by omega) (by omega) (by omega), lN_i]
theorem zPl_I {m0 c : zz_W} {H : Nat → Nat} {dp n i s : Nat} (h : zPl m0 H dp n i s c) {y : Nat} (hy : y = 1 ∨ y = 2 ∨ y = 3) (v : Int32) : zPl m0 H dp n i s (zsI c 31 y v) := by
  obtain ⟨p1, p2, p3, p4, p5, p6⟩ := h
  exact ⟨by rw [zgI_sI, if_neg (by omega)]; exact p1, fun y hy => by rw [zgI_sI, if_neg (by omega)]; exact p2 y hy, p3, p4, p5, by rw [zgI_sI, if_neg (by omega)]; exact p6⟩
theorem zQc_I {c0 c : zz_W} (h : zQc c0 c) (y : Nat) (v : Int32) : zQc c0 (zsI c 31 y v) := ⟨fun a i q1 q2 => by rw [zgI_sI, if_neg (by omega)]; exact h.1 a i q1 q2, h.2.1, h.2.2⟩
def zInv (c0 m0 : zz_W) (H : Nat → Nat) (dp n i k0 k : Nat) (c m : zz_W) (b : Nat) (v : Int32) : Prop := zQc c0 c ∧ zPl m0 H dp n i k0 c ∧ zQm m0 m ∧ b < 144 ∧ zgI c 31 3 = v ∧ ((k = 0 ∧ v = -1) ∨ (0 < k ∧ zgI c 31 1 = nI (b / 36) ∧ zgI c 31 2 = nI (b % 36)))
theorem w_worth14 {c0 m0 : zz_W} {n i k0 dp p s : Nat} {H : Nat → Nat} (hb : zBd c0 m0 n H i k0) (hn : 0 < n) (hcn : 0 < zcc m0 i k0) (hp : p ≤ 49) (ep : zgI m0 1 3 = nI p) (hs : s < 4) (q1 q2 q3 a3 : Int32) (k7 : Int32 → zz_W → Option (zz_W)) :
    ∀ e x k k' c m b v, x + e = 36 → e < k → zInv c0 m0 H dp n i k0 (36 * s + x) c m b v →
    ∃ c1 m1 b1 v1, fX1_findWorthiest_14 1 k7 k (nI s) (nI x) c = k7 (nI (s + 1)) c1 ∧ fX8_worthiest_61 q1 q2 q3 (k' + e) (nI i) (nI dp) a3 (nI b) v (nI (36 * s + x)) m = fX8_worthiest_61 q1 q2 q3 k' (nI i) (nI dp) a3 (nI b1) v1 (nI (36 * (s + 1))) m1 ∧ zInv c0 m0 H dp n i k0 (36 * (s + 1)) c1 m1 b1 v1 := by
  intro e
  induction e with
  | zero =>
    intro x k k' c m b v hx hk hI
    obtain ⟨k, rfl⟩ : ∃ x, k = x + 1 := ⟨k - 1, by omega⟩
    have : x = 36 := by omega
    subst this
    refine ⟨c, m, b, v, ?_, ?_, ?_⟩
    · rw [fX1_findWorthiest_14, if_pos (show (36 : Int32) ≤ nI 36 by decide), zbd_s, nI_1]
    · rw [show 36 * (s + 1) = 36 * s + 36 by omega]; rfl
    · rw [show 36 * (s + 1) = 36 * s + 36 by omega]; exact hI
  | succ e ih =>
    intro x k k' c m b v hx hk hI
    obtain ⟨k, rfl⟩ : ∃ x, k = x + 1 := ⟨k - 1, by omega⟩
    obtain ⟨i1, i2, i3, i4, i5, i6⟩ := hI
    obtain ⟨u, hu, eu⟩ := zVV_pos (dp := dp) (p := p) (s := s) (x := x) hb hn hcn hp hs
    obtain ⟨c2, t1, t2⟩ := c_learnBy hb hn hcn hp ep hs (show x < 36 by omega) i1 i2
    obtain ⟨m2, w1, w2⟩ := m_learnOf (dp := dp) (s := s) (x := x) hb hn hcn hp ep hs i3
    rw [eu] at t1 w1
    rw [fX1_findWorthiest_14, if_neg (show ¬ (36 : Int32) ≤ nI x from nI_ge (b := 36) (by omega) (by omega)), t1, zbd2_s, zbd_s, zO5_I t2, i5, show k' + (e + 1) = k' + e + 1 by omega, fX8_worthiest_61, if_neg (show ¬ (144 : Int32) ≤ nI (36 * s + x) from nI_ge (b := 144) (by omega) (by omega))]
    rw [show (36 : Int32) = nI 36 from rfl, zdivN (by omega) (by decide) (by decide), zremN (by omega) (by decide) (by decide), show (36 * s + x) / 36 = s by omega, show (36 * s + x) % 36 = x by omega]
    unfold fX8_worthiest_101
    simp only [zbd_e, w1, zbd2_e, nI_1]
    by_cases q : nI u ≤ v
    · rw [if_pos q, if_pos q, if_pos q]
      refine ih (x + 1) k k' c2 m2 b v (by omega) (by omega) ⟨zQc_O i1 t2, zPl_O i2 t2, w2, i4, by rw [zO5_I t2]; exact i5, ?_⟩
      rcases i6 with ⟨_, j2⟩ | ⟨j1, j2, j3⟩
      · rw [j2] at q
        exfalso
        rw [Int32.le_iff_toInt_le, nI_toInt (by omega)] at q
        have : (-1 : Int32).toInt = -1 := by decide
        omega
      · exact Or.inr ⟨by omega, by rw [zO5_I t2]; exact j2, by rw [zO5_I t2]; exact j3⟩
    · rw [if_neg q, if_neg q, if_neg q]
      refine ih (x + 1) k k' _ m2 (36 * s + x) (nI u) (by omega) (by omega) ⟨zQc_I (zQc_I (zQc_I (zQc_O i1 t2) _ _) _ _) _ _, zPl_I (zPl_I (zPl_I (zPl_O i2 t2) (by omega) _) (by omega) _) (by omega) _, w2, by omega, by rw [zgI_sI, if_pos ⟨rfl, rfl⟩], Or.inr ⟨by omega, ?_, ?_⟩⟩
      · rw [zgI_sI, if_neg (by omega), zgI_sI, if_neg (by omega), zgI_sI, if_pos ⟨rfl, rfl⟩]
        congr 1
        omega
      · rw [zgI_sI, if_neg (by omega), zgI_sI, if_pos ⟨rfl, rfl⟩]
        congr 1
        omega
theorem w_worth7 {c0 m0 : zz_W} {n i k0 dp p : Nat} {H : Nat → Nat} (hb : zBd c0 m0 n H i k0) (hn : 0 < n) (hcn : 0 < zcc m0 i k0) (hp : p ≤ 49) (ep : zgI m0 1 3 = nI p) (q1 q2 q3 a3 : Int32) :
    ∀ e s k k' c m b v, s + e = 4 → e < k → zInv c0 m0 H dp n i k0 (36 * s) c m b v →
    ∃ c1 m1 b1 v1, fX1_findWorthiest_7 1 k (nI s) c = some c1 ∧ fX8_worthiest_61 q1 q2 q3 (k' + 36 * e) (nI i) (nI dp) a3 (nI b) v (nI (36 * s)) m = fX8_worthiest_61 q1 q2 q3 k' (nI i) (nI dp) a3 (nI b1) v1 (nI 144) m1 ∧ zInv c0 m0 H dp n i k0 144 c1 m1 b1 v1 := by
  have hf := zfuel_big
  intro e
  induction e with
  | zero =>
    intro s k k' c m b v hx hk hI
    obtain ⟨k, rfl⟩ : ∃ x, k = x + 1 := ⟨k - 1, by omega⟩
    have : s = 4 := by omega
    subst this
    exact ⟨c, m, b, v, by rw [fX1_findWorthiest_7, if_pos (show (4 : Int32) ≤ nI 4 by decide)], rfl, hI⟩
  | succ e ih =>
    intro s k k' c m b v hx hk hI
    obtain ⟨k, rfl⟩ : ∃ x, k = x + 1 := ⟨k - 1, by omega⟩
    obtain ⟨c1, m1, b1, v1, r1, r2, r3⟩ := w_worth14 (s := s) hb hn hcn hp ep (by omega) q1 q2 q3 a3 (fX1_findWorthiest_7 1 k) 36 0 zfuel (k' + 36 * e) c m b v (by omega) (by omega) hI
    obtain ⟨c2, m2, b2, v2, t1, t2, t3⟩ := ih (s + 1) k k' c1 m1 b1 v1 (by omega) (by omega) r3
    refine ⟨c2, m2, b2, v2, ?_, ?_, t3⟩
    · rw [fX1_findWorthiest_7, if_neg (show ¬ (4 : Int32) ≤ nI s from nI_ge (b := 4) (by omega) (by omega)), show fX1_findWorthiest_14 1 (fX1_findWorthiest_7 1 k) zfuel (nI s) 0 c = _ from r1, t1]
    · rw [show k' + 36 * (e + 1) = k' + 36 * e + 36 by omega, show nI (36 * s) = nI (36 * s + 0) from rfl, r2, t2]
theorem s_worthiest (a1 a2 a3 : Int32) : zSIM (fX7_worthiest a1 a2 a3) (fX8_worthiest a1 a2 a3) := by
  intro c m h
  have hfu := zfuel_big
  obtain ⟨n, hw⟩ := zR1 h
  have hn10 := hw.1.hn
  obtain ⟨_, _, _, sh, _⟩ := id h
  obtain ⟨p, hp, ep⟩ := hw.1.sl
  unfold fX7_worthiest fX8_worthiest
  simp only [c_isSheet, m_isSheet, c_isDepth, c_within, m_in, zbd2_e]
  rcases zwi_lit a1 0 3 (by omega) (by omega) with e2 | ⟨e2, i, _, hi, rfl⟩
  · rw [show zwi a1 0 3 = 0 from e2, if_pos rfl, if_pos rfl]; exact zret _ h
  rw [show zwi (nI i) 0 3 = 1 from e2, if_neg z10, if_neg z10]
  rcases zwi_lit a2 1 9 (by omega) (by omega) with e3 | ⟨e3, dp, _, hdp, rfl⟩
  · rw [show zwi a2 1 9 = 0 from e3, if_pos rfl, if_pos rfl]; exact zret _ h
  rw [show zwi (nI dp) 1 9 = 1 from e3, if_neg z10, if_neg z10]
  rcases zwi_01 a3 0 2 with e4 | e4
  · rw [e4, if_pos rfl, if_pos rfl]; exact zret _ h
  rw [e4, if_neg z10, if_neg z10, zld (i := i) (by omega) (by omega)]
  obtain ⟨b1, b2, _⟩ := sh i (by omega)
  obtain ⟨H, k0, hb⟩ := zBd_ex h hw (show i < 4 by omega)
  obtain ⟨m1, r1, r2⟩ := m_wished hb (zQm_rfl m)
  rcases zmiss _ b2 with ⟨x1, x2⟩ | ⟨x1, x2⟩
  · rw [c_plan0 (by omega) (by rw [b1]; exact x1), zbd2_s, if_neg (show ¬ (-1000000011 : Int32) = 0 by decide), zbd_s, if_neg x2]; exact zret _ h
  by_cases n0 : n = 0
  · subst n0
    rw [c_plan1 (by omega) (by rw [b1]; exact x1) hw.1.cn, zbd2_s, if_neg (show ¬ (-1000000005 : Int32) = 0 by decide), zbd_s, if_pos x2, r1, zbd2_s, if_pos rfl, if_pos rfl]
    exact ⟨_, _, _, rfl, rfl, zRel_Q h (zQc_rfl c) r2⟩
  rcases c_plan (dp := dp) hb (by omega) (by rw [b1]; exact x1) with ⟨k1, c1, k2, k3⟩ | ⟨k1, c1, k2, k3, k4⟩
  · rw [k2, zbd2_s, if_neg (show ¬ (-1000000005 : Int32) = 0 by decide), zbd_s, if_pos x2, r1, zbd2_s, if_neg n0, if_pos k1, if_pos rfl]
    exact ⟨_, _, _, rfl, rfl, zRel_Q h k3 r2⟩
  · obtain ⟨c2, m2, b, v, t1, t2, t3⟩ := w_worth7 (dp := dp) hb (show 0 < n by omega) k1 hp ep (nI i) (nI dp) a3 a3 4 0 zfuel (zfuel - 144) (zsI c1 31 3 (-1)) m1 0 (-1) (by omega) (by omega) ⟨zQc_I k3 _ _, zPl_I k4 (by omega) _, r2, by omega, by rw [zgI_sI, if_pos ⟨rfl, rfl⟩], Or.inl ⟨rfl, rfl⟩⟩
    obtain ⟨j1, j2, j3, j4, j5, j6⟩ := t3
    have hR := zRel_Q h j1 j3
    rcases j6 with ⟨z, _⟩ | ⟨_, j6, j7⟩
    · exact absurd z (by omega)
    rw [k2, zbd2_s, if_pos rfl, zbd_s, if_pos x2, r1, zbd2_s, if_neg n0, if_neg (show ¬ zcc m i k0 = 0 by omega), if_neg z10]
    unfold fX1_findWorthiest
    rw [zgrd_h _ hw.1.W, zbd_s, show fX1_findWorthiest_7 1 zfuel 0 (zsI c1 31 3 (-1)) = some c2 from t1, zbd_s]
    have mm : fX8_worthiest_61 (nI i) (nI dp) a3 zfuel (nI i) (nI dp) a3 0 (-1) 0 m1 = (if a3 = 0 then some (nI (b / 36), m2) else if a3 = 1 then some (nI (b % 36), m2) else some (v, m2)) := by
      have q : fX8_worthiest_61 (nI i) (nI dp) a3 zfuel (nI i) (nI dp) a3 0 (-1) 0 m1 = fX8_worthiest_61 (nI i) (nI dp) a3 (zfuel - 144 + 36 * 4) (nI i) (nI dp) a3 (nI 0) (-1) (nI (36 * 0)) m1 := by
        rw [show zfuel - 144 + 36 * 4 = zfuel by omega]; rfl
      rw [q, t2, show zfuel - 144 = 3855 + 1 from rfl, fX8_worthiest_61, if_pos (show (144 : Int32) ≤ nI 144 by decide), show (36 : Int32) = nI 36 from rfl, zdivN (by omega) (by decide) (by decide), zbd_s, zremN (by omega) (by decide) (by decide), zbd_s]
    simp only [zbd_e, mm, j6, j7, j5]
    by_cases y0 : a3 = 0
    · rw [if_pos y0, if_pos y0]; exact ⟨_, _, _, rfl, rfl, hR⟩
    rw [if_neg y0, if_neg y0]
    by_cases y1 : a3 = 1
    · rw [if_pos y1, if_pos y1]; exact ⟨_, _, _, rfl, rfl, hR⟩
    rw [if_neg y1, if_neg y1]; exact ⟨_, _, _, rfl, rfl, hR⟩
