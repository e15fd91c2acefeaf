/-! ===== laws: what they give ===== -/
def zSc (c c1 : zz_W) : Prop := (∀ a i, ¬ (65 ≤ a ∧ (a - 65) % 3 = 2) → zgI c1 a i = zgI c a i) ∧ c1.2 = c.2
def zSm (m m1 : zz_W) : Prop := ∀ a i, ¬ (a = 13 ∨ a = 14) → zgI m1 a i = zgI m a i
theorem zSc_rfl (c : zz_W) : zSc c c := ⟨fun _ _ _ => rfl, rfl⟩
theorem zSc_tr {c c1 c2 : zz_W} (h : zSc c c1) (h1 : zSc c1 c2) : zSc c c2 := ⟨fun a i hh => by rw [h1.1 a i hh, h.1 a i hh], by rw [h1.2, h.2]⟩
theorem zSm_rfl (m : zz_W) : zSm m m := fun _ _ _ => rfl
theorem zSm_tr {m m1 m2 : zz_W} (h : zSm m m1) (h1 : zSm m1 m2) : zSm m m2 := fun a i hh => by rw [h1 a i hh, h a i hh]
def ztw (k : Nat) (a b : Int32) : Int32 := match k with
  | 0 => if a = 0 then (if b = 0 then 0 else 1) else 1
  | 1 => if a = 0 then 0 else (if b = 0 then 0 else 1)
  | 2 => if b ≤ a then 0 else 1
  | 3 => if a = b then 1 else 0
  | 4 => if a ≤ b then 0 else 1
  | 5 => a + b
  | 6 => a - b
  | 7 => a * b
  | _ => if b = 0 then 0 else a / b
theorem c_joined {k : Nat} (hk : k < 9) (a b : Int32) (w : zz_W) : fX5_joined (-(zsgC k)) a b w = some (ztw k a b, w) := by
  rcases (show k = 0 ∨ k = 1 ∨ k = 2 ∨ k = 3 ∨ k = 4 ∨ k = 5 ∨ k = 6 ∨ k = 7 ∨ k = 8 by omega) with rfl | rfl | rfl | rfl | rfl | rfl | rfl | rfl | rfl
  all_goals
    unfold fX5_joined ztw zdiv
    simp only [zsgC]
    (repeat first | rw [if_neg (by decide)] | rw [if_pos (by decide)])
    try ((repeat' split) <;> first | rfl | contradiction)
theorem m_two {k : Nat} (hk : k < 9) (a b : Int32) (w : zz_W) : fX8_two (zsgM k) a b w = some (ztw k a b, w) := by
  rcases (show k = 0 ∨ k = 1 ∨ k = 2 ∨ k = 3 ∨ k = 4 ∨ k = 5 ∨ k = 6 ∨ k = 7 ∨ k = 8 by omega) with rfl | rfl | rfl | rfl | rfl | rfl | rfl | rfl | rfl
  all_goals
    unfold fX8_two ztw zdiv
    simp only [zsgM]
    (repeat first | rw [if_neg (by decide)] | rw [if_pos (by decide)])
    try ((repeat' split) <;> first | rfl | contradiction)
theorem zsgC_lt : ∀ k, k < 9 → zsgC k < -3 ∧ ¬ zsgC k = -33 := by decide
theorem zsgM_lt : ∀ k, k < 9 → zsgM k < 0 ∧ ¬ zsgM k = -10 := by decide
theorem zidx96 (t j : Nat) : (92 : Int32) + 96 * nI t + nI j = nI (92 + 96 * t + j) := by
  rw [show (92 : Int32) = nI 92 from rfl, show (96 : Int32) = nI 96 from rfl, pk_mul, nI_add, nI_add]
theorem w_val {c0 m0 : zz_W} {q t key len : Nat} {dep : Nat → Nat} (hT : zisT c0.2.2.2 q = true) (ht : t < 14) (h2 : 1 ≤ len) (h3 : len ≤ 95) (h4 : c0.2.2.2.2 q = len) (h8 : dep len = 1)
    (h9 : ∀ j, j < len → dep j ≤ j ∧ zTok key (zgI c0 (q + 1) j) (zgI m0 1 (92 + 96 * t + j)) (dep j) (dep (j + 1))) {f0 f1 f2 : Int32} (g0 : zgI m0 14 0 = f0) (g1 : zgI m0 14 1 = f1) (g2 : key = 0 → zgI m0 14 2 = f2) (p1 p2 p3 p4 : Int32) :
    ∀ d j k k' c m, j + d = len → d < k → d < k' → zSc c0 c → (∀ a i, ¬ a = 13 → zgI m a i = zgI m0 a i) → (∀ y, y < dep j → zgI c (q + 2) y = zgI m 13 y) →
    ∃ v c1 m1, fX5_valueOf_6 q p1 p2 p3 k f0 f1 f2 (nI (dep j)) (nI j) c = some (v, c1) ∧ fX8_worksOut_21 p4 k' (nI t) (nI (dep j)) (nI len) (nI j) m = some (v, m1) ∧ zSc c0 c1 ∧ (∀ a i, ¬ a = 13 → zgI m1 a i = zgI m0 a i) := by
  have hq := of_decide_eq_true hT
  intro d
  induction d with
  | zero =>
    intro j k k' c m hj hk hk' hc hm hy
    obtain ⟨k, rfl⟩ : ∃ x, k = x + 1 := ⟨k - 1, by omega⟩
    obtain ⟨k', rfl⟩ : ∃ x, k' = x + 1 := ⟨k' - 1, by omega⟩
    have hj' : j = len := by omega
    subst hj'
    have hT' : zisT c.2.2.2 q = true := by rw [hc.2]; exact hT
    have h4' : c.2.2.2.2 q = j := by rw [hc.2]; exact h4
    refine ⟨zgI c (q + 2) 0, c, m, ?_, ?_, hc, hm⟩
    · rw [fX5_valueOf_6, zgrd_h _ hT', h4', if_pos (show Int32.ofNat j ≤ nI j from nI_le (by omega) (by omega)), h8, if_neg (show ¬ nI 1 ≤ 0 by decide)]
      rw [show zldI c (q + 2) j 0 = some (zgI c (q + 2) 0) from zld (i := 0) (by omega) (by omega), zbd_s]
    · rw [fX8_worksOut_21, if_pos (nI_le (by omega) (by omega)), show zldI m 13 96 0 = some (zgI m 13 0) from zld (i := 0) (by omega) (by omega), zbd_s, hy 0 (by omega)]
  | succ d ih =>
    intro j k k' c m hj hk hk' hc hm hy
    obtain ⟨k, rfl⟩ : ∃ x, k = x + 1 := ⟨k - 1, by omega⟩
    obtain ⟨k', rfl⟩ : ∃ x, k' = x + 1 := ⟨k' - 1, by omega⟩
    have hT' : zisT c.2.2.2 q = true := by rw [hc.2]; exact hT
    have h4' : c.2.2.2.2 q = len := by rw [hc.2]; exact h4
    obtain ⟨hd, tok⟩ := h9 j (by omega)
    have put : ∀ (i : Nat) (v : Int32), zSc c0 (zsI c (q + 2) i v) := fun i v => zSc_tr hc ⟨fun a y hh => by rw [zgI_sI, if_neg (by omega)], rfl⟩
    have putm : ∀ (i : Nat) (v : Int32) a y, ¬ a = 13 → zgI (zsI m 13 i v) a y = zgI m0 a y := fun i v a y hh => by rw [zgI_sI, if_neg (by omega)]; exact hm a y hh
    have push : ∀ v : Int32, dep (j + 1) = dep j + 1 → ∃ r c1 m1, fX5_valueOf_69 q p1 p2 p3 (fX5_valueOf_6 q p1 p2 p3 k) f0 f1 f2 (nI (dep j)) (nI j) (nI (dep j)) v c = some (r, c1) ∧
        fX8_worksOut_78 p4 (fX8_worksOut_21 p4 k') (nI t) (nI (dep j)) (nI len) (nI j) (nI (dep j)) v m = some (r, m1) ∧ zSc c0 c1 ∧ (∀ a i, ¬ a = 13 → zgI m1 a i = zgI m0 a i) := by
      intro v hv
      unfold fX5_valueOf_69 fX8_worksOut_78
      rw [zgrd_h _ hT', h4', zst (i := dep j) (by omega) (by omega), zst (i := dep j) (by omega) (by omega)]
      simp only [zbd_e, nI_1]
      rw [← hv]
      refine ih (j + 1) k k' _ _ (by omega) (by omega) (by omega) (put _ _) (putm _ _) (fun y hyy => ?_)
      rw [zgI_sI, zgI_sI]
      by_cases e : y = dep j
      · rw [if_pos ⟨rfl, e⟩, if_pos ⟨rfl, e⟩]
      · rw [if_neg (fun z => e z.2), if_neg (fun z => e z.2)]
        exact hy y (by omega)
    have top : ∀ v : Int32, dep (j + 1) = dep j → 1 ≤ dep j → ∃ r c1 m1, fX5_valueOf_113 q p1 p2 p3 (fX5_valueOf_6 q p1 p2 p3 k) f0 f1 f2 (nI (dep j)) (nI j) (nI (dep j - 1)) v c = some (r, c1) ∧
        fX8_worksOut_115 p4 (fX8_worksOut_21 p4 k') (nI t) (nI (dep j)) (nI len) (nI j) (nI (dep j - 1)) v m = some (r, m1) ∧ zSc c0 c1 ∧ (∀ a i, ¬ a = 13 → zgI m1 a i = zgI m0 a i) := by
      intro v hv h1
      unfold fX5_valueOf_113 fX8_worksOut_115
      rw [zgrd_h _ hT', h4', zst (i := dep j - 1) (by omega) (by omega), zst (i := dep j - 1) (by omega) (by omega)]
      simp only [zbd_e, nI_1]
      rw [← hv]
      refine ih (j + 1) k k' _ _ (by omega) (by omega) (by omega) (put _ _) (putm _ _) (fun y hyy => ?_)
      rw [zgI_sI, zgI_sI]
      by_cases e : y = dep (j + 1) - 1
      · rw [if_pos ⟨rfl, e⟩, if_pos ⟨rfl, e⟩]
      · rw [if_neg (fun z => e z.2), if_neg (fun z => e z.2)]
        exact hy y (by omega)
    have hjl : ¬ nI len ≤ nI j := nI_ge (by omega) (by omega)
    have hdl : ¬ Int32.ofNat len ≤ nI (dep j) := nI_ge (by omega) (by omega)
    rw [fX8_worksOut_21, if_neg hjl, zidx96, zld (i := 92 + 96 * t + j) (by omega) (by omega), zbd_s, hm 1 _ (by omega)]
    rw [fX5_valueOf_6, zgrd_h _ hT', h4', if_neg (show ¬ Int32.ofNat len ≤ nI j from hjl), zld (i := j) (by omega) (by omega), zbd_s, hc.1 (q + 1) j (by omega)]
    rcases tok with ⟨z, hz, e1, e2, e3⟩ | ⟨p, hp, hp2, e1, e2, e3⟩ | ⟨e1, e2, e3, e4⟩ | ⟨s, hs, e1, e2, e3, e4⟩
    · rw [e1, e2]
      have n1 : ¬ nI z < -3 := by
        rw [Int32.lt_iff_toInt_lt, nI_toInt (by omega)]
        have : (-3 : Int32).toInt = -3 := by decide
        omega
      rw [if_neg n1, if_neg hdl, if_neg (nI_pos (by omega)), if_neg (nI_pos (by omega)), if_neg (show ¬ (10000 : Int32) ≤ nI z from nI_ge (b := 10000) hz (by omega))]
      exact push _ e3
    · rw [e1, e2]
      have ix : nI (10000 + p) - 10000 = nI p := by
        have e := pk_sub (a := 10000 + p) (b := 10000) (by omega)
        rw [Nat.add_sub_cancel_left] at e
        exact e
      rw [if_neg (nI_pos (show 10000 + p < 2 ^ 31 by omega)), if_pos (show (10000 : Int32) ≤ nI (10000 + p) from nI_le (a := 10000) (by omega) (by omega)), ix, zld (i := p) (by omega) (by omega), zbd_s, hm 14 p (by omega)]
      unfold fX5_named
      rcases (show p = 0 ∨ p = 1 ∨ p = 2 by omega) with rfl | rfl | rfl
      · rw [if_neg (show ¬ nI 0 - 3 < -3 by decide), if_neg hdl, if_pos (show nI 0 - 3 < 0 by decide), if_pos (show nI 0 - 3 - -3 = 0 by decide), zbd2_s, g0]
        exact push _ e3
      · rw [if_neg (show ¬ nI 1 - 3 < -3 by decide), if_neg hdl, if_pos (show nI 1 - 3 < 0 by decide), if_neg (show ¬ nI 1 - 3 - -3 = 0 by decide), if_pos (show nI 1 - 3 - -3 = 1 by decide), zbd2_s, g1]
        exact push _ e3
      · rw [if_neg (show ¬ nI 2 - 3 < -3 by decide), if_neg hdl, if_pos (show nI 2 - 3 < 0 by decide), if_neg (show ¬ nI 2 - 3 - -3 = 0 by decide), if_neg (show ¬ nI 2 - 3 - -3 = 1 by decide), zbd2_s, g2 (by omega)]
        exact push _ e3
    · rw [e1, e2, if_pos (show (-33 : Int32) < -3 by decide), if_pos rfl, if_neg (nI_nle (by omega) (by omega)), if_pos (show (-10 : Int32) < 0 by decide), if_pos rfl]
      rw [show nI (dep j) - 1 = nI (dep j - 1) from pk_sub (b := 1) e3, zld (i := dep j - 1) (by omega) (by omega), zld (i := dep j - 1) (by omega) (by omega), zbd_s, zbd_s, hy (dep j - 1) (by omega)]
      by_cases e : zgI m 13 (dep j - 1) = 0
      · rw [if_pos e, if_pos e]
        exact top _ e4 e3
      · rw [if_neg e, if_neg e]
        exact top _ e4 e3
    · rw [e1, e2, if_pos (zsgC_lt s hs).1, if_neg (zsgC_lt s hs).2, if_pos (zsgM_lt s hs).1, if_neg (zsgM_lt s hs).2, if_neg (show ¬ nI (dep j) ≤ 1 from nI_ge (a := 1) (by omega) (by omega))]
      have em : nI (dep j) + (-1) = nI (dep j - 1) := by rw [← Int32.sub_eq_add_neg]; exact pk_sub (b := 1) (by omega)
      have em2 : nI (dep j - 1) - 1 = nI (dep j - 2) := pk_sub (b := 1) (by omega)
      rw [em]
      simp only [zbd_e]
      rw [em2, zld (i := dep j - 2) (by omega) (by omega), zld (i := dep j - 1) (by omega) (by omega), zld (i := dep j - 2) (by omega) (by omega), zld (i := dep j - 1) (by omega) (by omega)]
      simp only [zbd_e, c_joined hs, m_two hs, zbd2_e]
      rw [zgrd_h _ hT', h4', hy (dep j - 2) (by omega), hy (dep j - 1) (by omega), zst (i := dep j - 2) (by omega) (by omega), zst (i := dep j - 2) (by omega) (by omega)]
      simp only [zbd_e, nI_1]
      rw [show dep j - 1 = dep (j + 1) by omega]
      refine ih (j + 1) k k' _ _ (by omega) (by omega) (by omega) (put _ _) (putm _ _) (fun y hyy => ?_)
      rw [zgI_sI, zgI_sI]
      by_cases e : y = dep j - 2
      · rw [if_pos ⟨rfl, e⟩, if_pos ⟨rfl, e⟩]
      · rw [if_neg (fun z => e z.2), if_neg (fun z => e z.2)]
        exact hy y (by omega)
theorem w_law {b : Nat} {c m m1 : zz_W} (W : zisW b = true) (tx : zTx b c m) {k : Nat} (hk : k < 3) (x f0 f1 f2 : Int32) (e1 : ∀ i, zgI m1 1 i = zgI m 1 i) (g0 : zgI m1 14 0 = f0) (g1 : zgI m1 14 1 = f1) (g2 : k = 0 → zgI m1 14 2 = f2) :
    (zgI c (b + 9) k = -1 ∧ fX6_lawOr b x (nI k) f0 f1 f2 c = some (x, c)) ∨
    (0 ≤ zgI c (b + 9) k ∧ ∃ v c2 m2, fX6_lawOr b x (nI k) f0 f1 f2 c = some (v, c2) ∧ fX8_worksOut (zgI c (b + 9) k) m1 = some (v, m2) ∧ zSc c c2 ∧ (∀ a i, ¬ a = 13 → zgI m2 a i = zgI m1 a i)) := by
  have hf := zfuel_big
  obtain ⟨t, key, a1, a2, a3, a4, a5, a6⟩ := tx
  unfold fX6_lawOr
  rw [zgrd_h _ W, zld (i := k) (by omega) (by omega), zbd_s, zbd_s, a2, c_within, zbd2_s]
  rcases a6 k hk with ⟨e, _⟩ | ⟨i, hi, e, hki, _⟩
  · refine Or.inl ⟨e, ?_⟩
    rw [e, show zwi (-1) 0 (nI t - 1) = 0 from if_pos (by decide), if_pos rfl]
  · right
    obtain ⟨q, q1, q2, len, dep, l1, l2, l3, l4, l5, l6, l7, l8, l9, l10⟩ := a5 i hi
    refine ⟨by rw [e]; exact nI_pos' (by omega), ?_⟩
    have hq := of_decide_eq_true q2
    have y : zwi (nI i) 0 (nI t - 1) = 1 := by
      rw [show nI t - 1 = nI (t - 1) from pk_sub (b := 1) (by omega)]
      exact zwi_yes (lo := 0) (by omega) (by omega) (by omega)
    obtain ⟨v, c2, m2, r1, r2, r3, r4⟩ := w_val (c0 := c) (m0 := m1) (q := q) (t := i) (key := key i) (len := len) (dep := dep) q2 (by omega) l2 l3 l4 l9 (fun j hj => by rw [e1]; exact l10 j hj) g0 g1 (fun z => g2 (by omega)) f0 f1 f2 (nI i) len 0 zfuel zfuel c m1 (by omega) (by omega) (by omega) (zSc_rfl c) (fun _ _ _ => rfl) (fun y hy => absurd hy (by omega))
    refine ⟨v, c2, m2, ?_, ?_, r3, r4⟩
    · rw [e, y, if_neg z10, zldRn (i := i) (by omega) (by omega), zbd_s, q1]
      show zgrd (zisT c.2.2.2 q) (zbd2 (fX5_valueOf q f0 f1 f2 c) _) = _
      unfold fX5_valueOf
      rw [zgrd_h _ q2, zgrd_h _ q2]
      rw [l8] at r1
      rw [show fX5_valueOf_6 q f0 f1 f2 zfuel f0 f1 f2 0 0 c = some (v, c2) from r1, zbd2_s]
    · unfold fX8_worksOut
      rw [e, show (64 : Int32) + 2 * nI i = nI (64 + 2 * i) by rw [show (64 : Int32) = nI 64 from rfl, show (2 : Int32) = nI 2 from rfl, pk_mul, nI_add], zld (i := 64 + 2 * i) (by omega) (by omega), zbd_s, e1, l6, show (1000 : Int32) = nI 1000 from rfl, zremN (by omega) (by decide) (by decide), zbd_s, show (1000 * key i + len) % 1000 = len by omega]
      rw [l8] at r2
      exact r2
