/-! ===== text: the two readers, step by step ===== -/
def zPc (c0 c : zz_W) : Prop := (∀ a i, ¬ (a = 36 ∧ 3 ≤ i) → ¬ a = 38 → zgI c a i = zgI c0 a i) ∧ c.2 = c0.2
def zPm (m0 m : zz_W) : Prop := ∀ a i, ¬ (a = 0 ∧ 9 ≤ i ∧ i ≤ 21) → ¬ (10 ≤ a ∧ a ≤ 12) → zgI m a i = zgI m0 a i
theorem zPc_L {c0 c c1 : zz_W} (h : zPc c0 c) (h1 : zLc c c1) : zPc c0 c1 := ⟨fun a i q1 q2 => by rw [h1.1 a i (by omega), h.1 a i q1 q2], by rw [h1.2, h.2]⟩
theorem zPm_L {m0 m m1 : zz_W} (h : zPm m0 m) (h1 : zLm m m1) : zPm m0 m1 := fun a i q1 q2 => by rw [h1 a i (by omega), h a i q1 q2]
theorem zPc_s {c0 c : zz_W} (h : zPc c0 c) {i : Nat} (hi : 3 ≤ i) (v : Int32) : zPc c0 (zsI c 36 i v) := ⟨fun a y q1 q2 => by rw [zgI_sI, if_neg (by omega)]; exact h.1 a y q1 q2, h.2⟩
theorem zPc_8 {c0 c : zz_W} (h : zPc c0 c) (i : Nat) (v : Int32) : zPc c0 (zsI c 38 i v) := ⟨fun a y q1 q2 => by rw [zgI_sI, if_neg (by omega)]; exact h.1 a y q1 q2, h.2⟩
theorem zPm_s {m0 m : zz_W} (h : zPm m0 m) {i : Nat} (hi : 9 ≤ i ∧ i ≤ 21) (v : Int32) : zPm m0 (zsI m 0 i v) := fun a y q1 q2 => by rw [zgI_sI, if_neg (by omega)]; exact h a y q1 q2
theorem zPm_p {m0 m : zz_W} (h : zPm m0 m) {pl : Nat} (hp : 10 ≤ pl ∧ pl ≤ 12) (i : Nat) (v : Int32) : zPm m0 (zsI m pl i v) := fun a y q1 q2 => by rw [zgI_sI, if_neg (by omega)]; exact h a y q1 q2
theorem zBy_P {c0 m0 c m : zz_W} {T : Nat} {B : Nat → Nat} (h : zBy c0 m0 T B) (hc : zPc c0 c) (hm : zPm m0 m) : zBy c m T B := by
  obtain ⟨b1, b2, b3, b4⟩ := h
  exact ⟨b1, by rw [hc.1 _ _ (by omega) (by omega)]; exact b2, by rw [hm _ _ (by omega) (by omega)]; exact b3, fun j hj => by rw [hc.1 _ _ (by omega) (by omega), hm _ _ (by omega) (by omega)]; exact b4 j hj⟩
def zPs (c0 m0 : zz_W) (T : Nat) (B : Nat → Nat) (key : Nat) (c m : zz_W) (st en κ : Nat) (bad : Prop) (X Y S : List Nat) : Prop :=
  zTk T B c m st en κ bad ∧ zPc c0 c ∧ zPm m0 m ∧ (zgI c 36 8 = nI X.length ∧ zAr c 38 fTC X ∧ zgI c 36 7 = nI key) ∧ (zgI m 0 18 = nI Y.length ∧ zAr m 10 fTM Y ∧ zgI m 0 14 = nI key) ∧ (zgI m 0 21 = nI S.length ∧ zStk m S ∧ ∀ t ∈ S, t ≤ 10) ∧ X.length ≤ Y.length + S.length ∧ Y.length + S.length + 3 ≤ st ∧ zgI c 36 9 = zgI m 0 19
/-- ready for the next word -/
def zAd (T : Nat) (c m : zz_W) (en κ : Nat) : Prop := zgI c 36 4 = nI en ∧ zgI c 36 5 = nI κ ∧ zgI c 36 6 = -1 ∧ zgI m 0 9 = nI en ∧ κ ≤ 3 ∧ en ≤ T ∧ ((κ = 1 ∨ κ = 2) → zgI m 0 13 = nI en) ∧ (¬ (κ = 1 ∨ κ = 2) → zgI m 0 13 = -1 ∨ ∃ e, e < en ∧ zgI m 0 13 = nI e)
theorem zAd_of {T : Nat} {B : Nat → Nat} {c m : zz_W} {st en κ : Nat} {bad : Prop} (h : zTk T B c m st en κ bad) (hb : ¬ bad) (h0 : ¬ κ = 0) : zAd T c m en κ := by
  obtain ⟨t1, t2, t3, t4, t5, t6, t7, t8, t9, t10, t11, t12, t13, t14, t15⟩ := h
  have kle := zkd_le T B st
  rcases t15 with ⟨q, _⟩ | ⟨_, q, _⟩
  · exact absurd q hb
  · exact ⟨t2, t3, q, t5, by omega, t8, t11, fun z => t12 (by omega)⟩
theorem zAd_keep {T : Nat} {c m c1 m1 : zz_W} {en κ : Nat} (h : zAd T c m en κ) (e : ∀ i, 4 ≤ i → i ≤ 6 → zgI c1 36 i = zgI c 36 i) (f : ∀ i, i = 9 ∨ i = 13 → zgI m1 0 i = zgI m 0 i) : zAd T c1 m1 en κ := by
  obtain ⟨t1, t2, t3, t4, t5, t6, t7, t8⟩ := h
  exact ⟨by rw [e 4 (by omega) (by omega)]; exact t1, by rw [e 5 (by omega) (by omega)]; exact t2, by rw [e 6 (by omega) (by omega)]; exact t3, by rw [f 9 (by omega)]; exact t4, t5, t6, fun z => by rw [f 13 (by omega)]; exact t7 z, fun z => by rw [f 13 (by omega)]; exact t8 z⟩
theorem w_adv {c m : zz_W} {T en κ : Nat} {B : Nat → Nat} (hb : zBy c m T B) (h : zAd T c m en κ) : ∃ c1 m1 st en' κ' bad, fX4_advance c = some c1 ∧ fX8_go m = some m1 ∧ en ≤ st ∧ zTk T B c1 m1 st en' κ' bad ∧ zLc c c1 ∧ zLm m m1 := by
  obtain ⟨t1, t2, t3, t4, t5, t6, t7, t8⟩ := h
  obtain ⟨c1, m1, st, en', κ', bad, r1, r2, r3, r4, r5, r6, _⟩ := w_lex hb t5 t6 t1 t2 t3 t4 t7 t8
  exact ⟨c1, m1, st, en', κ', bad, r1, r2, r3, r4, r5, r6⟩
theorem zTk_st {T : Nat} {B : Nat → Nat} {c m : zz_W} {st en κ : Nat} {bad : Prop} (h : zTk T B c m st en κ bad) : st ≤ T ∧ κ ≤ 3 := ⟨by have := h.2.2.2.2.2.2.1; have := h.2.2.2.2.2.2.2.1; omega, by have := h.2.2.2.2.2.1; have := zkd_le T B st; omega⟩
/-! the reference, where it wants no piece -/
theorem r0_word {k : Nat} {l1 l2 v : Int32} {m : zz_W} (hv : zgI m 0 11 = v) (h0 : ¬ v = 0) (h3 : ¬ v = 3) : fX8_takesE_28 (k + 1) l1 l2 0 m = some (0, m) := by
  rw [fX8_takesE_28, if_pos rfl, zbd_s, hv, if_neg h0]
  unfold fX8_takesE_39 fX8_takesE_237 fX8_signHere
  rw [if_pos rfl, zbd_s, hv, if_neg h3, zbd_s, if_neg h3, zbd2_s, if_pos rfl]
theorem zop_dec (b : Nat) : (∃ k, k < 9 ∧ b = zsgB k) ∨ (∀ k, k < 9 → ¬ b = zsgB k) := by
  by_cases h : ∃ k, k < 9 ∧ b = zsgB k
  · exact Or.inl h
  · exact Or.inr (fun k hk e => h ⟨k, hk, e⟩)
theorem m_signNo {m : zz_W} {b : Nat} (hb : b < 256) (h11 : zgI m 0 11 = 3) (h12 : zgI m 0 12 = nI b) (h : ∀ k, k < 9 → ¬ b = zsgB k) : fX8_signHere m = some (0, m) := by
  unfold fX8_signHere
  rw [zbd_s, h11, if_pos rfl, zbd_s, h12]
  rw [show (38 : Int32) = nI 38 from rfl, show (42 : Int32) = nI 42 from rfl, show (43 : Int32) = nI 43 from rfl, show (45 : Int32) = nI 45 from rfl, show (47 : Int32) = nI 47 from rfl, show (60 : Int32) = nI 60 from rfl, show (61 : Int32) = nI 61 from rfl, show (62 : Int32) = nI 62 from rfl, show (124 : Int32) = nI 124 from rfl]
  rw [zceq (by omega) (by omega), if_neg (show ¬ b = 38 from h 1 (by omega)), zceq (by omega) (by omega), if_neg (show ¬ b = 42 from h 7 (by omega)), zceq (by omega) (by omega), if_neg (show ¬ b = 43 from h 5 (by omega)), zceq (by omega) (by omega), if_neg (show ¬ b = 45 from h 6 (by omega)), zceq (by omega) (by omega), if_neg (show ¬ b = 47 from h 8 (by omega)), zceq (by omega) (by omega), if_neg (show ¬ b = 60 from h 2 (by omega)), zceq (by omega) (by omega), if_neg (show ¬ b = 61 from h 3 (by omega)), zceq (by omega) (by omega), if_neg (show ¬ b = 62 from h 4 (by omega)), zceq (by omega) (by omega), if_neg (show ¬ b = 124 from h 0 (by omega))]
theorem m_signYes {m : zz_W} {k : Nat} (hk : k < 9) (h11 : zgI m 0 11 = 3) (h12 : zgI m 0 12 = nI (zsgB k)) : fX8_signHere m = some (fTS k, m) := by
  unfold fX8_signHere
  rw [zbd_s, h11, if_pos rfl, zbd_s, h12]
  rcases (show k = 0 ∨ k = 1 ∨ k = 2 ∨ k = 3 ∨ k = 4 ∨ k = 5 ∨ k = 6 ∨ k = 7 ∨ k = 8 by omega) with rfl | rfl | rfl | rfl | rfl | rfl | rfl | rfl | rfl <;> rfl
theorem zsgB_lt : ∀ k, k < 9 → zsgB k < 256 ∧ ¬ zsgB k = 41 ∧ ¬ zsgB k = 40 ∧ ¬ zsgB k = 33 := by decide
theorem r0_237 {k : Nat} {l1 l2 : Int32} {m : zz_W} {b : Nat} (hb : b < 256) (h11 : zgI m 0 11 = 3) (h12 : zgI m 0 12 = nI b) (h41 : b = 41 → l1 ≤ 0) : fX8_takesE_28 (k + 1) l1 l2 0 m = fX8_takesE_237 (fX8_takesE_28 k) l1 l2 m := by
  rw [fX8_takesE_28, if_pos rfl, zbd_s, h11, if_neg (show ¬ (3 : Int32) = 0 by decide)]
  unfold fX8_takesE_39
  rw [if_pos rfl, zbd_s, h11, if_pos rfl, zbd_s, h12, show (41 : Int32) = nI 41 from rfl, zceq (by omega) (by omega)]
  by_cases e : b = 41
  · rw [if_pos e, if_pos (h41 e)]
  · rw [if_neg e]
theorem r0_no {k : Nat} {l1 l2 : Int32} {m : zz_W} {b : Nat} (hb : b < 256) (h11 : zgI m 0 11 = 3) (h12 : zgI m 0 12 = nI b) (h41 : b = 41 → l1 ≤ 0) (h : ∀ k, k < 9 → ¬ b = zsgB k) : fX8_takesE_28 (k + 1) l1 l2 0 m = some (0, m) := by
  rw [r0_237 hb h11 h12 h41]
  unfold fX8_takesE_237
  rw [m_signNo hb h11 h12 h, zbd2_s, if_pos rfl]
theorem fTS_ne0 : ∀ k, k < 9 → ¬ fTS k = 0 := by decide
theorem r0_test {k br s : Nat} {l2 : Int32} {m : zz_W} (hs : s < 9) (hbr : br < 10) (h11 : zgI m 0 11 = 3) (h12 : zgI m 0 12 = nI (zsgB s)) (hr : zrk2 s = 3) (ht : ¬ zgI m 12 br = 0) : fX8_takesE_28 (k + 1) (nI br) l2 0 m = some (0, m) := by
  obtain ⟨g1, g2, _⟩ := zsgB_lt s hs
  rw [r0_237 g1 h11 h12 (fun z => absurd z g2)]
  unfold fX8_takesE_237
  rw [m_signYes hs h11 h12, zbd2_s, if_neg (fTS_ne0 s hs), m_rank (by omega), zbd2_s, hr, if_pos (show nI 3 = 3 from rfl), zld (i := br) (by omega) (by omega), zbd_s, if_neg ht]
/-- a sign that joins: the stack is settled, the sign waits, a piece is wanted -/
theorem r0_op {k br s : Nat} {l2 : Int32} {m m1 : zz_W} (hs : s < 9) (hbr : br < 10) (h11 : zgI m 0 11 = 3) (h12 : zgI m 0 12 = nI (zsgB s)) (hr : zrk2 s = 3 → zgI m 12 br = 0) {h : Nat} (hh : h < 96)
    (hse : fX8_settle (nI (zrk2 s)) (zsI m 12 br (if zrk2 s = 3 then 1 else if zrk2 s < 3 then 0 else if zgI m 12 br = 0 then 0 else 1)) = some m1) (h21 : zgI m1 0 21 = nI h) :
    fX8_takesE_28 (k + 1) (nI br) l2 0 m = zbd (fX8_go (zsI (zsI m1 11 h (fTS s)) 0 21 (nI (h + 1)))) (fun w => fX8_takesE_28 k (nI br) l2 1 w) := by
  obtain ⟨g1, g2, _⟩ := zsgB_lt s hs
  have nb1 : vp_nar .boolean 1 = 1 := by decide
  have nb0 : vp_nar .boolean 0 = 0 := by decide
  have g305 : ∀ (v x : Int32), vp_nar .boolean v = x → x = (if zrk2 s = 3 then 1 else if zrk2 s < 3 then 0 else if zgI m 12 br = 0 then 0 else 1) → fX8_takesE_305 (fX8_takesE_28 k) (nI br) l2 (fTS s) (nI br) v m = zbd (fX8_go (zsI (zsI m1 11 h (fTS s)) 0 21 (nI (h + 1)))) (fun w => fX8_takesE_28 k (nI br) l2 1 w) := by
    intro v x hv hx
    unfold fX8_takesE_305
    rw [hv, zst (i := br) (by omega) (by omega), zbd_s, m_rank (by omega), zbd2_s, hx, hse, zbd_s, zbd_s, h21, zst (i := h) (by omega) (by omega), zbd_s, zbd_s, show zgI (zsI m1 11 h (fTS s)) 0 21 = nI h by rw [zgI_sI, if_neg (by omega)]; exact h21, nI_1, zbd_s]
  have hrl := zrk2_le s
  have g268 : fX8_takesE_268 (fX8_takesE_28 k) (nI br) l2 (fTS s) m = zbd (fX8_go (zsI (zsI m1 11 h (fTS s)) 0 21 (nI (h + 1)))) (fun w => fX8_takesE_28 k (nI br) l2 1 w) := by
    unfold fX8_takesE_268 fX8_takesE_300 fX8_takesE_304
    rw [m_rank (by omega), zbd2_s, m_rank (by omega), zbd2_s, show (3 : Int32) = nI 3 from rfl, zceq (by omega) (by omega), zcle (by omega) (by omega), zld (i := br) (by omega) (by omega), zbd_s]
    by_cases e3 : zrk2 s = 3
    · rw [if_pos e3]; exact g305 1 1 nb1 (by rw [if_pos e3])
    rw [if_neg e3]
    by_cases e4 : zrk2 s < 3
    · rw [if_pos (by omega)]; exact g305 0 0 nb0 (by rw [if_neg e3, if_pos e4])
    rw [if_neg (by omega)]
    by_cases e5 : zgI m 12 br = 0
    · rw [if_pos e5]; exact g305 0 0 nb0 (by rw [if_neg e3, if_neg e4, if_pos e5])
    · rw [if_neg e5]; exact g305 1 1 nb1 (by rw [if_neg e3, if_neg e4, if_neg e5])
  rw [r0_237 g1 h11 h12 (fun z => absurd z g2)]
  unfold fX8_takesE_237
  rw [m_signYes hs h11 h12, zbd2_s, if_neg (fTS_ne0 s hs), m_rank (by omega), zbd2_s, show (3 : Int32) = nI 3 from rfl, zceq (by omega) (by omega), zld (i := br) (by omega) (by omega), zbd_s, g268]
  by_cases e3 : zrk2 s = 3
  · rw [if_pos e3, if_pos (hr e3)]
  · rw [if_neg e3]
/-! the reference, where it wants a piece -/
theorem r1_part {k : Nat} {l1 l2 : Int32} {m : zz_W} (h : ¬ zgI m 0 11 = 3 ∨ (zgI m 0 11 = 3 ∧ (zgI m 0 12 = 33 → 8 ≤ l2) ∧ (zgI m 0 12 = 40 → 8 ≤ l1))) : fX8_takesE_28 (k + 1) l1 l2 1 m = fX8_takesE_158 (fX8_takesE_28 k) l1 m := by
  rw [fX8_takesE_28, if_neg z10]
  unfold fX8_takesE_39 fX8_takesE_97
  rw [if_neg z10, zbd_s]
  rcases h with h | ⟨h, h33, h40⟩
  · rw [if_neg h, zbd_s, if_neg h]
  · rw [if_pos h, zbd_s]
    by_cases e : zgI m 0 12 = 33
    · rw [if_pos e, if_pos (h33 e), zbd_s, if_pos h, zbd_s, if_neg (show ¬ zgI m 0 12 = 40 by rw [e]; decide)]
    · rw [if_neg e, zbd_s, if_pos h, zbd_s]
      by_cases e4 : zgI m 0 12 = 40
      · rw [if_pos e4, if_pos (h40 e4)]
      · rw [if_neg e4]
theorem r1_no {k : Nat} {l1 l2 : Int32} {m : zz_W} (h : ¬ zgI m 0 11 = 3 ∨ (zgI m 0 11 = 3 ∧ (zgI m 0 12 = 33 → 8 ≤ l2) ∧ (zgI m 0 12 = 40 → 8 ≤ l1))) (h1 : ¬ zgI m 0 11 = 1) (h2 : ¬ zgI m 0 11 = 2) : fX8_takesE_28 (k + 1) l1 l2 1 m = some (0, m) := by
  rw [r1_part h]
  unfold fX8_takesE_158 fX8_takesPart fX8_takesPart_36 fX8_takesPart_37
  rw [zbd_s, if_neg h1, zbd_s, if_neg h2, if_pos rfl, zbd2_s, if_pos rfl]
/-! the component's small steps -/
theorem c_sign {T : Nat} {B : Nat → Nat} {c m : zz_W} {st en κ : Nat} {bad : Prop} (hb : zBy c m T B) (h : zTk T B c m st en κ bad) {b : Nat} (hb2 : b < 256) : fX4_signIs (nI b) c = some ((if κ = 3 ∧ B st = b then 1 else 0), c) := by
  obtain ⟨hst, hκ⟩ := zTk_st h
  obtain ⟨t1, t2, t3, t4, t5, t6, t7, t8, t9, _⟩ := h
  obtain ⟨b1, b2, b3, b4⟩ := hb
  unfold fX4_signIs
  rw [zbd_s, t3, show (3 : Int32) = nI 3 from rfl, zceq (by omega) (by omega)]
  by_cases e : κ = 3
  · have := t9 (by omega)
    obtain ⟨e1, _, e3⟩ := b4 st (by omega)
    rw [if_pos e, zbd_s, zbd_s, t1, b2, if_neg (nI_ge (by omega) (by omega)), zbd_s, zld (i := st) (by omega) (by omega), zbd_s, e1, zceq (by omega) (by omega)]
    by_cases q : B st = b
    · rw [if_pos q, if_pos ⟨e, q⟩]
    · rw [if_neg q, if_neg (fun z => q z.2)]
  · rw [if_neg e, if_neg (fun z => e z.1)]
theorem c_blame0 {c : zz_W} (h : zgI c 36 6 = -1) : fX4_blame c = some (zsI c 36 6 (zgI c 36 3)) := by
  unfold fX4_blame
  rw [zbd_s, h, if_neg (show ¬ (0 : Int32) ≤ -1 by decide), zbd_s, zbd_s]
theorem c_blame1 {c : zz_W} {f : Nat} (hf : f ≤ 96) (h : zgI c 36 6 = nI f) : fX4_blame c = some c := by
  unfold fX4_blame
  rw [zbd_s, h, if_pos (nI_pos' (by omega))]
theorem c_write {c : zz_W} {n : Nat} (hn : n < 96) (h : zgI c 36 8 = nI n) (v : Int32) : fX4_write v c = some (zsI (zsI c 38 n v) 36 8 (nI (n + 1))) := by
  unfold fX4_write
  rw [zbd_s, h, if_neg (show ¬ Int32.ofNat 96 ≤ nI n from nI_ge (b := 96) hn (by omega)), zbd_s, zst (i := n) (by omega) (by omega), zbd_s, zbd_s, show zgI (zsI c 38 n v) 36 8 = nI n by rw [zgI_sI, if_neg (by omega)]; exact h, nI_1, zbd_s]
theorem c_writeA {c : zz_W} {n : Nat} (hn : n ≤ 96) (h : zgI c 36 8 = nI n) (v : Int32) : ∃ c1 n1, fX4_write v c = some c1 ∧ n1 ≤ 96 ∧ zgI c1 36 8 = nI n1 ∧ (∀ a i, ¬ (a = 36 ∧ i = 8) → ¬ a = 38 → zgI c1 a i = zgI c a i) ∧ c1.2 = c.2 := by
  by_cases e : n < 96
  · exact ⟨_, n + 1, c_write e h v, by omega, by rw [zgI_sI, if_pos ⟨rfl, rfl⟩], fun a i h1 h2 => by rw [zgI_sI, if_neg h1, zgI_sI, if_neg (by omega)], rfl⟩
  · refine ⟨c, n, ?_, hn, h, fun _ _ _ _ => rfl, rfl⟩
    unfold fX4_write
    rw [zbd_s, h, if_pos (show Int32.ofNat 96 ≤ nI n from nI_le (a := 96) (by omega) (by omega))]
def zFail (c0 m0 c1 : zz_W) (x : Option (Int32 × zz_W)) : Prop := ∃ f m1, f ≤ 96 ∧ zgI c1 36 6 = nI f ∧ x = some (0, m1) ∧ zgI m1 0 10 = nI f ∧ zPm m0 m1 ∧ zPc c0 c1 ∧ (∃ s, s ≤ 96 ∧ zgI c1 36 8 = nI s) ∧ (∃ s, s ≤ 96 ∧ zgI c1 36 3 = nI s)
/-- an atom, on both sides -/
theorem w_atom {c0 m0 c m : zz_W} {T key st en κ j : Nat} {B : Nat → Nat} {X S0 : List Nat} {bad : Prop} (hb0 : zBy c0 m0 T B) (h : zPs c0 m0 T B key c m st en κ bad X X (List.replicate j 9 ++ S0)) (hbad : ¬ bad) (h0 : ¬ κ = 0) (hS : zstop 6 S0) (t : Nat) :
    ∃ c1 m1 st1 en1 κ1 bad1, fX4_writeAtom (fTC t) c = some c1 ∧ fX8_takesPart_87 (nI X.length) (fTM t) m = some (1, m1) ∧ zPs c0 m0 T B key c1 m1 st1 en1 κ1 bad1 (X ++ [t]) (X ++ [t] ++ List.replicate j 9) S0 ∧ st < st1 ∧ (∀ b, zgI m1 12 b = zgI m 12 b) := by
  obtain ⟨tk, pc, pm, ⟨x1, x2, x3⟩, ⟨y1, y2, y3⟩, ⟨s1, s2, s3⟩, l1, l2, l3⟩ := h
  obtain ⟨hst, hκ⟩ := zTk_st tk
  have hT := hb0.1
  have hlt := tk.2.2.2.2.2.2.2.2.1 h0
  have ad := zAd_of tk hbad h0
  have hlen : (List.replicate j 9 ++ S0).length = j + S0.length := by simp
  rw [hlen] at s1 l1 l2
  -- the component
  have u8 : zgI (zsI c 36 9 (zgI c 36 9 + 1)) 36 8 = nI X.length := by rw [zgI_sI, if_neg (by omega)]; exact x1
  have hwr := c_write (c := zsI c 36 9 (zgI c 36 9 + 1)) (n := X.length) (by omega) u8 (fTC t)
  -- the reference
  have v18 : zgI (zsI m 10 X.length (fTM t)) 0 18 = nI X.length := by rw [zgI_sI, if_neg (by omega)]; exact y1
  have v19 : zgI (zsI (zsI m 10 X.length (fTM t)) 0 18 (nI (X.length + 1))) 0 19 = zgI m 0 19 := by rw [zgI_sI, if_neg (by omega), zgI_sI, if_neg (by omega)]
  obtain ⟨m2, r1, r2, r3, r4, r5, r6⟩ := m_settle (lo := 6) (S := S0) (D := List.replicate j 9) (Y := X ++ [t]) (m := zsI (zsI (zsI m 10 X.length (fTM t)) 0 18 (nI (X.length + 1))) 0 19 (zgI m 0 19 + 1)) (by omega) hS (fun x hx => by rw [List.eq_of_mem_replicate hx]; exact ⟨by omega, by decide⟩)
    (by rw [List.length_append, List.length_replicate]; show X.length + 1 + _ ≤ _; omega) (zStk_keep s2 (fun i _ => by rw [zgI_sI, if_neg (by omega), zgI_sI, if_neg (by omega), zgI_sI, if_neg (by omega)])) (by rw [zgI_sI, if_neg (by omega), zgI_sI, if_neg (by omega), zgI_sI, if_neg (by omega), List.length_replicate]; exact s1)
    (by rw [zgI_sI, if_neg (by omega), zgI_sI, if_pos ⟨rfl, rfl⟩, List.length_append]; rfl) (zAr_keep (zAr_push y2 (a := t) (v := fTM t) rfl) (fun i _ => by rw [zgI_sI, if_neg (by omega), zgI_sI, if_neg (by omega)]))
  have gm : ∀ a i, ¬ (a = 0 ∧ (i = 18 ∨ i = 19 ∨ i = 21)) → ¬ a = 10 → zgI m2 a i = zgI m a i := fun a i q1 q2 => by rw [r6 a i (by omega) q2, zgI_sI, if_neg (by omega), zgI_sI, if_neg (by omega), zgI_sI, if_neg (by omega)]
  have m19 : zgI m2 0 19 = zgI m 0 19 + 1 := by rw [r6 0 19 (by omega) (by omega), zgI_sI, if_pos ⟨rfl, rfl⟩]
  have pm2 : zPm m0 m2 := fun a i q1 q2 => by rw [gm a i (by omega) (by omega)]; exact pm a i q1 q2
  have gc : ∀ a i, ¬ (a = 36 ∧ (i = 8 ∨ i = 9)) → ¬ a = 38 → zgI (zsI (zsI (zsI c 36 9 (zgI c 36 9 + 1)) 38 X.length (fTC t)) 36 8 (nI (X.length + 1))) a i = zgI c a i := fun a i q1 q2 => by rw [zgI_sI, if_neg (by omega), zgI_sI, if_neg (by omega), zgI_sI, if_neg (by omega)]
  have pc2 : zPc c0 (zsI (zsI (zsI c 36 9 (zgI c 36 9 + 1)) 38 X.length (fTC t)) 36 8 (nI (X.length + 1))) := zPc_s (zPc_8 (zPc_s pc (by omega) _) _ _) (by omega) _
  obtain ⟨c1, m1, st1, en1, κ1, bad1, a1, a2, a3, a4, a5, a6⟩ := w_adv (zBy_P hb0 pc2 pm2) (zAd_keep (c1 := zsI (zsI (zsI c 36 9 (zgI c 36 9 + 1)) 38 X.length (fTC t)) 36 8 (nI (X.length + 1))) (m1 := m2) ad (fun i q1 q2 => gc 36 i (by omega) (by omega)) (fun i q => gm 0 i (by omega) (by omega)))
  refine ⟨c1, m1, st1, en1, κ1, bad1, ?_, ?_, ⟨a4, zPc_L pc2 a5, zPm_L pm2 a6, ⟨?_, ?_, ?_⟩, ⟨?_, ?_, ?_⟩, ⟨?_, ?_, fun x hx => s3 x (List.mem_append_right _ hx)⟩, ?_, ?_, ?_⟩, by omega, fun b => by rw [a6 12 b (by omega), gm 12 b (by omega) (by omega)]⟩
  · unfold fX4_writeAtom
    rw [zbd_s, zbd_s, hwr, zbd_s, a1, zbd_s]
  · unfold fX8_takesPart_87
    rw [zst (i := X.length) (by omega) (by omega), zbd_s, zbd_s, v18, nI_1, zbd_s, zbd_s, v19, zbd_s, show fX8_settle 6 _ = some m2 from r1, zbd_s, a2, zbd_s]
  · rw [a5.1 _ _ (by omega), zgI_sI, if_pos ⟨rfl, rfl⟩, List.length_append]; rfl
  · exact zAr_keep (zAr_push (w := zsI c 36 9 (zgI c 36 9 + 1)) (zAr_keep x2 (fun i _ => by rw [zgI_sI, if_neg (by omega)])) (a := t) (v := fTC t) rfl) (fun i _ => by rw [a5.1 _ _ (by omega), zgI_sI, if_neg (by omega)])
  · rw [a5.1 _ _ (by omega), gc _ _ (by omega) (by omega)]; exact x3
  · rw [a6 _ _ (by omega)]; exact r4
  · exact zAr_keep r5 (fun i _ => a6 _ _ (by omega))
  · rw [a6 _ _ (by omega), gm _ _ (by omega) (by omega)]; exact y3
  · rw [a6 _ _ (by omega)]; exact r3
  · exact zStk_keep r2 (fun i _ => a6 _ _ (by omega))
  · rw [List.length_append, List.length_append, List.length_append]; omega
  · rw [List.length_append, List.length_append, List.length_replicate]; show X.length + 1 + j + S0.length + 3 ≤ st1; omega
  · rw [a5.1 _ _ (by omega), a6 _ _ (by omega), m19, zgI_sI, if_neg (by omega), zgI_sI, if_neg (by omega), zgI_sI, if_pos ⟨rfl, rfl⟩, l3]
