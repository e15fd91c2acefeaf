/-! ===== text: nots and brackets ===== -/
theorem w_go {c0 m0 c m : zz_W} {T key en κ : Nat} {B : Nat → Nat} {X Y S : List Nat} (hb0 : zBy c0 m0 T B) (ad : zAd T c m en κ) (pc : zPc c0 c) (pm : zPm m0 m) (hx : zgI c 36 8 = nI X.length ∧ zAr c 38 fTC X ∧ zgI c 36 7 = nI key) (hy : zgI m 0 18 = nI Y.length ∧ zAr m 10 fTM Y ∧ zgI m 0 14 = nI key) (hs : zgI m 0 21 = nI S.length ∧ zStk m S ∧ ∀ t ∈ S, t ≤ 10) (l1 : X.length ≤ Y.length + S.length) (l2 : Y.length + S.length + 3 ≤ en) (l3 : zgI c 36 9 = zgI m 0 19) :
    ∃ c1 m1 st1 en1 κ1 bad1, fX4_advance c = some c1 ∧ fX8_go m = some m1 ∧ zPs c0 m0 T B key c1 m1 st1 en1 κ1 bad1 X Y S ∧ en ≤ st1 ∧ (∀ b, zgI m1 12 b = zgI m 12 b) := by
  obtain ⟨c1, m1, st1, en1, κ1, bad1, a1, a2, a3, a4, a5, a6⟩ := w_adv (zBy_P hb0 pc pm) ad
  exact ⟨c1, m1, st1, en1, κ1, bad1, a1, a2, ⟨a4, zPc_L pc a5, zPm_L pm a6, ⟨by rw [a5.1 _ _ (by omega)]; exact hx.1, zAr_keep hx.2.1 (fun i _ => a5.1 _ _ (by omega)), by rw [a5.1 _ _ (by omega)]; exact hx.2.2⟩, ⟨by rw [a6 _ _ (by omega)]; exact hy.1, zAr_keep hy.2.1 (fun i _ => a6 _ _ (by omega)), by rw [a6 _ _ (by omega)]; exact hy.2.2⟩, ⟨by rw [a6 _ _ (by omega)]; exact hs.1, zStk_keep hs.2.1 (fun i _ => a6 _ _ (by omega)), hs.2.2⟩, l1, by omega, by rw [a5.1 _ _ (by omega), a6 _ _ (by omega)]; exact l3⟩, a3, fun b => a6 _ _ (by omega)⟩
theorem c_closeF {c0 m0 c1 : zz_W} {x : Option (Int32 × zz_W)} {T : Nat} {B : Nat → Nat} (hb0 : zBy c0 m0 T B) (h : zFail c0 m0 c1 x) : fX4_closeBracket c1 = some c1 := by
  obtain ⟨f, m1, f1, f2, f3, f4, f5, f6, ⟨s, s1, s2⟩, ⟨q, q1, q2⟩⟩ := h
  have hT := hb0.1
  have h0 : zgI c1 36 0 = nI T := by rw [f6.1 _ _ (by omega) (by omega)]; exact hb0.2.1
  have sg : ∃ v, fX4_signIs 41 c1 = some (v, c1) := by
    unfold fX4_signIs
    rw [zbd_s]
    by_cases e : zgI c1 36 5 = 3
    · rw [if_pos e, zbd_s, zbd_s, h0, q2]
      by_cases e2 : T ≤ q
      · rw [if_pos (nI_le e2 (by omega))]; exact ⟨_, rfl⟩
      · rw [if_neg (nI_ge (by omega) (by omega)), zbd_s, zld (i := q) (by omega) (by omega), zbd_s]
        by_cases e3 : zgI c1 37 q = 41
        · rw [if_pos e3]; exact ⟨_, rfl⟩
        · rw [if_neg e3]; exact ⟨_, rfl⟩
    · rw [if_neg e]; exact ⟨_, rfl⟩
  obtain ⟨v, hv⟩ := sg
  unfold fX4_closeBracket
  rw [hv, zbd2_s, c_blame1 f1 f2, zbd_s, zbd_s, f2, if_pos (nI_pos' (by omega))]
  split <;> rfl
theorem w_failW {c0 m0 c1 : zz_W} {x : Option (Int32 × zz_W)} (h : zFail c0 m0 c1 x) (v : Int32) : ∃ c2, fX4_write v c1 = some c2 ∧ zFail c0 m0 c2 x := by
  obtain ⟨f, m1, f1, f2, f3, f4, f5, f6, ⟨s, s1, s2⟩, ⟨q, q1, q2⟩⟩ := h
  obtain ⟨c2, n1, r1, r2, r3, r4, r5⟩ := c_writeA s1 s2 v
  exact ⟨c2, r1, f, m1, f1, by rw [r4 _ _ (by omega) (by omega)]; exact f2, f3, f4, f5, ⟨fun a i h1 h2 => by rw [r4 a i (by omega) h2]; exact f6.1 a i h1 h2, by rw [r5]; exact f6.2⟩, ⟨n1, r2, r3⟩, ⟨q, q1, by rw [r4 _ _ (by omega) (by omega)]; exact q2⟩⟩
/-- behind an E: a word that doesn't go on with it -/
theorem w_rej {c0 m0 c m : zz_W} {T key st en κ br k : Nat} {B : Nat → Nat} {X Y D S : List Nat} {l2 : Int32} (hb0 : zBy c0 m0 T B) (hbr : br < 10) (h : zPs c0 m0 T B key c m st en κ False X Y (D ++ S)) (hD : ∀ t ∈ D, t < 9 ∧ 0 < zrk2 t) (hS : zstop 0 S) (hn : zNj B 0 br m st κ) (h0 : κ = 0 → 0 < br) (h41 : ¬ (κ = 3 ∧ B st = 41 ∧ 0 < br)) :
    fX4_blame c = some (zsI c 36 6 (nI st)) ∧ zFail c0 m0 (zsI c 36 6 (nI st)) (fX8_takesE_28 (k + 1) (nI br) l2 0 m) := by
  have hT := hb0.1
  obtain ⟨tk, pc, pm, ⟨x1, x2, x3⟩, ⟨y1, y2, y3⟩, ⟨s1, s2, s3⟩, l1, l2', l3⟩ := id h
  have hb := zBy_P hb0 pc pm
  have hst := (zTk_st tk).1
  obtain ⟨t1, t2, t3, t4, t5, t6, t7, t8, t9, t10, t11, t12, t13, t14, t15⟩ := id tk
  have kle := zkd_le T B st
  have t11' : zgI m 0 11 = (if κ = 2 ∧ 4 < en - st then 4 else nI κ) := by
    rcases t15 with ⟨q, _⟩ | ⟨_, _, q⟩
    · exact absurd q id
    · exact q
  by_cases e0 : κ = 0
  · rw [List.length_append] at s1 l1 l2'
    obtain ⟨m1, r1, r2, r3, r4, r5, r6⟩ := m_settle (lo := 0) (S := S) (D := D) (Y := Y) (m := m) (by omega) hS (fun t ht => ⟨by have := hD t ht; omega, by omega⟩) (by omega) s2 s1 y1 y2
    have f6 : zgI c 36 6 = -1 := by
      rcases t15 with ⟨q, _⟩ | ⟨_, q, _⟩
      · exact absurd q id
      · exact q
    rw [if_neg (by omega), e0] at t11'
    refine ⟨by rw [c_blame0 f6, t1], st, m1, by omega, by rw [zgI_sI, if_pos ⟨rfl, rfl⟩], ?_, by rw [r6 _ _ (by omega) (by omega)]; exact t4, fun a i q1 q2 => by rw [r6 a i (by omega) (by omega)]; exact pm a i q1 q2, zPc_s pc (by omega) _, ⟨X.length, by omega, by rw [zgI_sI, if_neg (by omega)]; exact x1⟩, ⟨st, by omega, by rw [zgI_sI, if_neg (by omega)]; exact t1⟩⟩
    rw [fX8_takesE_28, if_pos rfl, zbd_s, t11', if_pos (show nI 0 = 0 from rfl), show fX8_settle 0 m = some m1 from r1, zbd_s, if_neg (nI_ne0 (h0 e0) (by omega))]
  · have hno : fX8_takesE_28 (k + 1) (nI br) l2 0 m = some (0, m) := by
      by_cases e3 : κ = 3
      · have hlt := t9 e0
        obtain ⟨_, _, e256⟩ := hb.2.2.2 st (by omega)
        rw [if_neg (by omega), e3] at t11'
        have v1 := t13 (Or.inr e3)
        rcases zop_dec (B st) with ⟨s, hs, es⟩ | hop
        · rcases hn s hs e3 es with q | ⟨q1, q2⟩
          · exfalso
            unfold zrk2 at q
            revert q
            (repeat' split) <;> omega
          · exact r0_test hs hbr t11' (by rw [v1, es]) q1 q2
        · refine r0_no e256 t11' v1 (fun z => ?_) hop
          have : br = 0 := by
            rcases Nat.eq_zero_or_pos br with w | w
            · exact w
            · exact absurd ⟨e3, z, w⟩ h41
          rw [this]; decide
      · refine r0_word t11' ?_ ?_
        · split
          · decide
          · exact nI_ne0 (by omega) (by omega)
        · split
          · decide
          · intro z
            exact e3 ((nI_eq (b := 3) (by omega) (by decide)).mp z)
    exact (w_fail hb0 h hno).2 id
theorem w_close {c0 m0 c m : zz_W} {T key st en κ br nt j k st0 : Nat} {B : Nat → Nat} {X Z Y D S0 : List Nat} {mm : zz_W} (hb0 : zBy c0 m0 T B) (hbr : br < 9) (h : zPs c0 m0 T B key c m st en κ False (X ++ Z) Y (D ++ 10 :: (List.replicate j 9 ++ S0))) (hXY : X ++ Z = Y ++ D) (hZ : zWF key Z) (hst0 : st0 < st) (hD : ∀ t ∈ D, t < 9 ∧ 0 < zrk2 t) (hn : zNj B 0 (br + 1) m st κ) (hS : zstop 6 S0) (hfl : ∀ b, b < br + 1 → zgI m 12 b = zgI mm 12 b) {x : Option (Int32 × zz_W)} (hx : x = fX8_takesE_28 k (nI (br + 1)) (nI nt) 0 m) (hk : T - st < k) :
    ∃ c1, fX4_closeBracket c = some c1 ∧ (zFail c0 m0 c1 x ∨ zOkG c0 m0 T B key br j X S0 st0 mm c1 x) := by
  have hT := hb0.1
  obtain ⟨k, rfl⟩ : ∃ y, k = y + 1 := ⟨k - 1, by omega⟩
  obtain ⟨tk, pc, pm, ⟨x1, x2, x3⟩, ⟨y1, y2, y3⟩, ⟨s1, s2, s3⟩, l1, l2', l3⟩ := id h
  have hb := zBy_P hb0 pc pm
  have hst := (zTk_st tk).1
  obtain ⟨t1, t2, t3, t4, t5, t6, t7, t8, t9, t10, t11, t12, t13, t14, t15⟩ := id tk
  have f6 : zgI c 36 6 = -1 ∧ zgI m 0 11 = (if κ = 2 ∧ 4 < en - st then 4 else nI κ) := by
    rcases t15 with ⟨q, _⟩ | ⟨_, q1, q2⟩
    · exact absurd q id
    · exact ⟨q1, q2⟩
  have sg := c_sign hb tk (b := 41) (by omega)
  unfold fX4_closeBracket
  rw [show fX4_signIs 41 c = _ from sg, zbd2_s]
  by_cases e : κ = 3 ∧ B st = 41
  · obtain ⟨e3, e41⟩ := e
    have hlt := t9 (by omega)
    have t11' := f6.2
    rw [if_neg (by omega), e3] at t11'
    have v1 := t13 (Or.inr e3)
    rw [e41] at v1
    have hl : (D ++ 10 :: (List.replicate j 9 ++ S0)).length = D.length + ((j + S0.length) + 1) := by simp
    have hlr : (10 :: (List.replicate j 9 ++ S0)).length = j + S0.length + 1 := by simp
    rw [hl] at s1 l1 l2'
    obtain ⟨m1, r1, r2, r3, r4, r5, r6⟩ := m_settle (lo := 0) (S := 10 :: (List.replicate j 9 ++ S0)) (D := D) (Y := Y) (m := m) (by omega) (Or.inl rfl) (fun t ht => ⟨by have := hD t ht; omega, by omega⟩) (by rw [hlr]; omega) s2 (by rw [hlr]; exact s1) y1 y2
    rw [← hXY] at r4 r5
    rw [hlr] at r3
    have hXl : (X ++ Z).length = Y.length + D.length := by rw [hXY, List.length_append]
    obtain ⟨m2, u1, u2, u3, u4, u5, u6⟩ := m_settle (lo := 6) (S := S0) (D := List.replicate j 9) (Y := X ++ Z) (m := zsI m1 0 21 (nI (j + S0.length))) (by omega) hS (fun y hy => by rw [List.eq_of_mem_replicate hy]; exact ⟨by omega, by decide⟩) (by rw [List.length_replicate]; omega)
      (zStk_keep r2.2 (fun i _ => by rw [zgI_sI, if_neg (by omega)])) (by rw [zgI_sI, if_pos ⟨rfl, rfl⟩, List.length_replicate]) (by rw [zgI_sI, if_neg (by omega)]; exact r4) (zAr_keep r5 (fun i _ => by rw [zgI_sI, if_neg (by omega)]))
    have gm : ∀ a i, ¬ (a = 0 ∧ (i = 18 ∨ i = 21)) → ¬ a = 10 → zgI m2 a i = zgI m a i := fun a i q1 q2 => by rw [u6 a i q1 q2, zgI_sI, if_neg (by omega), r6 a i q1 q2]
    have pm2 : zPm m0 m2 := fun a i q1 q2 => by rw [gm a i (by omega) (by omega)]; exact pm a i q1 q2
    have s3' : ∀ t ∈ S0, t ≤ 10 := fun t ht => s3 t (List.mem_append_right _ (List.mem_cons_of_mem _ (List.mem_append_right _ ht)))
    have hlZ : (X ++ Z ++ List.replicate j 9).length = Y.length + D.length + j := by rw [List.length_append, hXl, List.length_replicate]
    obtain ⟨c1, m3, st1, en1, κ1, bad1, a1, a2, a3, a4, a5⟩ := w_go (X := X ++ Z) (Y := X ++ Z ++ List.replicate j 9) (S := S0) hb0 (zAd_keep (c1 := c) (m1 := m2) (zAd_of tk id (by omega)) (fun _ _ _ => rfl) (fun i hi => gm 0 i (by omega) (by omega))) pc pm2 ⟨x1, x2, x3⟩ ⟨u4, u5, by rw [gm _ _ (by omega) (by omega)]; exact y3⟩ ⟨u3, u2, s3'⟩ (by rw [hlZ, hXl]; omega) (by rw [hlZ]; have := t10 e3; omega) (by rw [gm _ _ (by omega) (by omega)]; exact l3)
    rw [if_pos (show κ = 3 ∧ B st = 41 from ⟨e3, e41⟩), if_neg z10, zbd_s, f6.1, if_neg (show ¬ (0 : Int32) ≤ -1 by decide), a1, zbd_s]
    refine ⟨c1, rfl, ?_⟩
    have hxx : x = fX8_takesE_28 k (nI br) (nI (znt S0)) 0 m3 := by
      rw [hx, fX8_takesE_28, if_pos rfl, zbd_s, t11', if_neg (show ¬ nI 3 = 0 by decide)]
      unfold fX8_takesE_39
      rw [if_pos rfl, zbd_s, t11', if_pos (show nI 3 = 3 from rfl), zbd_s, v1, if_pos (show nI 41 = 41 from rfl), if_neg (nI_nle (by omega) (by omega)), show fX8_settle 0 m = some m1 from r1, zbd_s, zbd_s, r3, show nI (j + S0.length + 1) - 1 = nI (j + S0.length) from nI_pred _, zbd_s, zbd_s, pk_m1, show fX8_settle 6 (zsI m1 0 21 (nI (j + S0.length))) = some m2 from u1, zbd_s, m_nots (by omega) u2 s3' u3, zbd2_s, a2, zbd_s]
    have := t10 e3
    exact w_after hb0 a3 hZ (by omega) (fun b hb' => by rw [a5, gm _ _ (by omega) (by omega)]; exact hfl b (by omega)) hxx (by have := (zTk_st a3.1).1; omega)
  · rw [if_neg e, if_pos rfl]
    obtain ⟨w1, w2⟩ := w_rej (k := k) (l2 := nI nt) hb0 (by omega) h hD (Or.inl rfl) hn (fun _ => by omega) (fun z => e ⟨z.1, z.2.1⟩)
    rw [w1, zbd_s]
    exact ⟨_, rfl, Or.inl (by rw [hx]; exact w2)⟩
theorem w_piece {c0 m0 : zz_W} {T key d : Nat} {B : Nat → Nat} (hkey : key < 3) (hb0 : zBy c0 m0 T B) {F : Int32 → Int32 → Int32 → zz_W → Option zz_W} {G : Int32 → Int32 → zz_W → Option zz_W} (hF : zMF c0 m0 T B key d F) (hG : zMG c0 m0 T B key d G) : zMG c0 m0 T B key (d + 1) (bX4_readPiece F G) := by
  intro br nt c m st en κ bad X S0 j k hbr hnt hd h hz hS hk
  have hT := hb0.1
  obtain ⟨k, rfl⟩ : ∃ y, k = y + 1 := ⟨k - 1, by omega⟩
  obtain ⟨tk, pc, pm, ⟨x1, x2, x3⟩, ⟨y1, y2, y3⟩, ⟨s1, s2, s3⟩, l1, l2, l3⟩ := id h
  have hb := zBy_P hb0 pc pm
  have hst := (zTk_st tk).1
  obtain ⟨t1, t2, t3, t4, t5, t6, t7, t8, t9, t10, t11, t12, t13, t14, t15⟩ := id tk
  have kle := zkd_le T B st
  unfold bX4_readPiece
  by_cases hbad : bad
  · rcases t15 with ⟨_, q1, q2, _⟩ | ⟨q, _⟩
    · rw [zbd_s, q1, if_neg (nI_pos (by omega))]
      exact ⟨c, rfl, Or.inl ((w_fail hb0 h (r1_no (k := k) (l1 := nI br) (l2 := nI nt) (Or.inl (by rw [q2]; decide)) (by rw [q2]; decide) (by rw [q2]; decide))).1 hbad)⟩
    · exact absurd hbad q
  have f6 : zgI c 36 6 = -1 ∧ zgI m 0 11 = (if κ = 2 ∧ 4 < en - st then 4 else nI κ) := by
    rcases t15 with ⟨q, _⟩ | ⟨_, q1, q2⟩
    · exact absurd q hbad
    · exact ⟨q1, q2⟩
  rw [zbd_s, f6.1, if_pos (show (-1 : Int32) < 0 by decide), zbd_s, t3]
  by_cases hκ : κ = 1 ∨ κ = 2
  · obtain ⟨c1, r1, r2⟩ := w_pieceW (br := br) (nt := nt) (k := k) hkey hb0 h hbad hκ hS hk
    refine ⟨c1, ?_, r2⟩
    rw [show (2 : Int32) = nI 2 from rfl, zceq (by omega) (by omega)]
    by_cases e2 : κ = 2
    · rw [if_pos e2] at r1 ⊢
      rw [r1, zbd_s]
    · rw [if_neg e2] at r1 ⊢
      rw [zbd_s, show (1 : Int32) = nI 1 from rfl, zceq (by omega) (by omega), if_pos (show κ = 1 by omega), r1, zbd_s]
  have t11' := f6.2
  rw [if_neg (by omega)] at t11'
  have n2 : ¬ nI κ = 2 := fun z => by have := (nI_eq (b := 2) (by omega) (by decide)).mp z; omega
  have n1 : ¬ nI κ = 1 := fun z => by have := (nI_eq (b := 1) (by omega) (by decide)).mp z; omega
  have sg33 := c_sign hb tk (b := 33) (by omega)
  have sg40 := c_sign hb tk (b := 40) (by omega)
  have ad : ∀ {m1 : zz_W}, ¬ κ = 0 → (∀ i, i = 9 ∨ i = 13 → zgI m1 0 i = zgI m 0 i) → zAd T c m1 en κ := fun h0 hm => zAd_keep (zAd_of tk hbad h0) (fun _ _ _ => rfl) hm
  have z21 : ∀ v : Int32, zgI (zsI m 11 (List.replicate j 9 ++ S0).length v) 0 21 = nI (List.replicate j 9 ++ S0).length := fun v => by rw [zgI_sI, if_neg (by omega)]; exact s1
  have z11 : st < T → ∀ v : Int32, zstI m 11 96 (nI (List.replicate j 9 ++ S0).length) v = some (zsI m 11 (List.replicate j 9 ++ S0).length v) := fun _ v => zst (by omega) (by omega)
  rw [if_neg n2, zbd_s, if_neg n1, show fX4_signIs 33 c = _ from sg33, zbd2_s]
  unfold fX4_readPiece_74 fX4_readPiece_109
  rw [show fX4_signIs 40 c = _ from sg40, zbd2_s]
  by_cases c33 : κ = 3 ∧ B st = 33 ∧ nt < 8
  · -- a not
    obtain ⟨e3, e33, h8⟩ := c33
    have v1 := t13 (Or.inr e3)
    rw [e33] at v1
    rw [e3] at t11'
    have hen := t10 e3
    have hb' : ¬ (8 : Int32) ≤ nI nt := nI_ge (b := 8) (by omega) (by omega)
    rw [if_pos (show κ = 3 ∧ B st = 33 from ⟨e3, e33⟩), if_neg z10, if_neg hb']
    have hP : List.replicate (j + 1) 9 ++ S0 = 9 :: (List.replicate j 9 ++ S0) := rfl
    have hl := List.length_cons (a := 9) (as := List.replicate j 9 ++ S0)
    have gm : ∀ a i, ¬ (a = 0 ∧ i = 21) → ¬ a = 11 → zgI (zsI (zsI m 11 (List.replicate j 9 ++ S0).length (-10)) 0 21 (nI ((List.replicate j 9 ++ S0).length + 1))) a i = zgI m a i := fun a i q1 q2 => by rw [zgI_sI, if_neg q1, zgI_sI, if_neg (by omega)]
    obtain ⟨c1, m1, st1, en1, κ1, bad1, a1, a2, a3, a4, a5⟩ := w_go (c := c) (m := zsI (zsI m 11 (List.replicate j 9 ++ S0).length (-10)) 0 21 (nI ((List.replicate j 9 ++ S0).length + 1))) (X := X) (Y := X) (S := List.replicate (j + 1) 9 ++ S0) hb0 (ad (by omega) (fun i hi => gm 0 i (by omega) (by omega))) pc (zPm_s (zPm_p pm (by omega) _ _) (by omega) _) ⟨x1, x2, x3⟩ ⟨by rw [gm _ _ (by omega) (by omega)]; exact y1, zAr_keep y2 (fun i _ => gm _ _ (by omega) (by omega)), by rw [gm _ _ (by omega) (by omega)]; exact y3⟩
      ⟨by rw [zgI_sI, if_pos ⟨rfl, rfl⟩, hP, hl], by rw [hP]; exact zStk_keep (zStk_push s2 (a := 9) (v := -10) (by decide)) (fun i _ => by rw [zgI_sI, if_neg (by omega)]), fun t ht => by
        rw [hP] at ht
        rcases List.mem_cons.mp ht with q | q
        · omega
        · exact s3 t q⟩ (by rw [hP, hl]; omega) (by rw [hP, hl]; omega) (by rw [gm _ _ (by omega) (by omega)]; exact l3)
    have hst1 := (zTk_st a3.1).1
    have hz1 : znt (List.replicate (j + 1) 9 ++ S0) = nt + 1 := by rw [znt_rep] at hz ⊢; omega
    obtain ⟨c2, g1, g2⟩ := hG br (nt + 1) c1 m1 st1 en1 κ1 bad1 X S0 (j + 1) k (by omega) (by omega) (by omega) a3 hz1 hS (by omega)
    have hR : fX8_takesE_28 (k + 1) (nI br) (nI nt) 1 m = fX8_takesE_28 k (nI br) (nI (nt + 1)) 1 m1 := by
      rw [fX8_takesE_28, if_neg z10]
      unfold fX8_takesE_39
      rw [if_neg z10, zbd_s, t11', if_pos (show nI 3 = 3 from rfl), zbd_s, v1, if_pos (show nI 33 = 33 from rfl), if_neg hb', zbd_s, s1, z11 (by omega), zbd_s, zbd_s, z21, nI_1, zbd_s, zbd_s, a2, zbd_s, w_172 hb0 a3, hz1]
    rw [a1, zbd_s, nI_1, g1, zbd_s]
    rw [hR]
    rcases g2 with g2 | ⟨m2, st2, en2, κ2, Z, k2, b1, b2, b3, b4, b5, b6⟩
    · obtain ⟨c3, w1, w2⟩ := w_failW g2 (-33)
      rw [w1, zbd_s]
      exact ⟨c3, rfl, Or.inl w2⟩
    · obtain ⟨btk, bpc, bpm, ⟨bx1, bx2, bx3⟩, by_, bs, bl1, bl2, bl3⟩ := id b1
      have hlY : (X ++ Z ++ List.replicate (j + 1) 9).length = (X ++ Z).length + (j + 1) := by rw [List.length_append, List.length_replicate]
      have hst2 := (zTk_st btk).1
      have hw := c_write (c := c2) (n := (X ++ Z).length) (by rw [hlY] at bl2; omega) bx1 (-33)
      rw [hw, zbd_s]
      refine ⟨_, rfl, Or.inr ⟨m2, st2, en2, κ2, Z ++ [9], k2, ⟨?_, zPc_s (zPc_8 bpc _ _) (by omega) _, bpm, ⟨?_, ?_, ?_⟩, ?_, bs, ?_, ?_, ?_⟩, zWF_not b2, by omega, fun b hb' => by rw [b4 b hb', a5, gm _ _ (by omega) (by omega)], b5, b6⟩⟩
      · have gc : ∀ i, i ≤ 7 → zgI (zsI (zsI c2 38 (X ++ Z).length (-33)) 36 8 (nI ((X ++ Z).length + 1))) 36 i = zgI c2 36 i := fun i hi => by rw [zgI_sI, if_neg (by omega), zgI_sI, if_neg (by omega)]
        unfold zTk at btk ⊢
        rw [gc 3 (by omega), gc 4 (by omega), gc 5 (by omega), gc 6 (by omega)]
        exact btk
      · rw [zgI_sI, if_pos ⟨rfl, rfl⟩, ← List.append_assoc, List.length_append (bs := [9])]; rfl
      · rw [← List.append_assoc]
        exact zAr_keep (zAr_push bx2 (a := 9) (v := -33) (by decide)) (fun i _ => by rw [zgI_sI, if_neg (by omega)])
      · rw [zgI_sI, if_neg (by omega), zgI_sI, if_neg (by omega)]; exact bx3
      · rw [show X ++ (Z ++ [9]) ++ List.replicate j 9 = X ++ Z ++ List.replicate (j + 1) 9 by simp [List.replicate_succ]]; exact by_
      · have q1 : (X ++ (Z ++ [9])).length = (X ++ Z).length + 1 := by simp; omega
        have q2 : (X ++ (Z ++ [9]) ++ List.replicate j 9).length = (X ++ Z).length + 1 + j := by simp; omega
        rw [q1, q2]; omega
      · rw [show X ++ (Z ++ [9]) ++ List.replicate j 9 = X ++ Z ++ List.replicate (j + 1) 9 by simp [List.replicate_succ]]; exact bl2
      · rw [zgI_sI, if_neg (by omega), zgI_sI, if_neg (by omega)]; exact bl3
  by_cases c40 : κ = 3 ∧ B st = 40 ∧ br < 8
  · -- a bracket
    obtain ⟨e3, e40, h8⟩ := c40
    have v1 := t13 (Or.inr e3)
    rw [e40] at v1
    rw [e3] at t11'
    have hen := t10 e3
    have hb' : ¬ (8 : Int32) ≤ nI br := nI_ge (b := 8) (by omega) (by omega)
    rw [if_neg (show ¬ (κ = 3 ∧ B st = 33) by omega), if_pos rfl, if_pos (show κ = 3 ∧ B st = 40 from ⟨e3, e40⟩), if_neg z10, if_neg hb']
    have hl := List.length_cons (a := 10) (as := List.replicate j 9 ++ S0)
    have nb0 : vp_nar .boolean 0 = 0 := by decide
    have gm : ∀ a i, ¬ (a = 0 ∧ i = 21) → ¬ a = 11 → ¬ (a = 12 ∧ i = br + 1) → zgI (zsI (zsI (zsI m 11 (List.replicate j 9 ++ S0).length (-11)) 0 21 (nI ((List.replicate j 9 ++ S0).length + 1))) 12 (br + 1) 0) a i = zgI m a i := fun a i q1 q2 q3 => by rw [zgI_sI, if_neg q3, zgI_sI, if_neg q1, zgI_sI, if_neg (by omega)]
    obtain ⟨c1, m1, st1, en1, κ1, bad1, a1, a2, a3, a4, a5⟩ := w_go (c := c) (m := zsI (zsI (zsI m 11 (List.replicate j 9 ++ S0).length (-11)) 0 21 (nI ((List.replicate j 9 ++ S0).length + 1))) 12 (br + 1) 0) (X := X) (Y := X) (S := 10 :: (List.replicate j 9 ++ S0)) hb0 (ad (by omega) (fun i hi => gm 0 i (by omega) (by omega) (by omega))) pc (zPm_p (zPm_s (zPm_p pm (by omega) _ _) (by omega) _) (by omega) _ _) ⟨x1, x2, x3⟩ ⟨by rw [gm _ _ (by omega) (by omega) (by omega)]; exact y1, zAr_keep y2 (fun i _ => gm _ _ (by omega) (by omega) (by omega)), by rw [gm _ _ (by omega) (by omega) (by omega)]; exact y3⟩
      ⟨by rw [zgI_sI, if_neg (by omega), zgI_sI, if_pos ⟨rfl, rfl⟩, hl], zStk_keep (zStk_push s2 (a := 10) (v := -11) (by decide)) (fun i _ => by rw [zgI_sI, if_neg (by omega), zgI_sI, if_neg (by omega)]), fun t ht => by
        rcases List.mem_cons.mp ht with q | q
        · omega
        · exact s3 t q⟩ (by rw [hl]; omega) (by rw [hl]; omega) (by rw [gm _ _ (by omega) (by omega) (by omega)]; exact l3)
    have hst1 := (zTk_st a3.1).1
    have hz1 : znt (10 :: (List.replicate j 9 ++ S0)) = nt := by rw [znt, if_neg (by omega)]; exact hz
    obtain ⟨c2, g1, g2⟩ := hF 0 (br + 1) nt c1 m1 st1 en1 κ1 bad1 X (10 :: (List.replicate j 9 ++ S0)) k (by omega) (by omega) hnt (by omega) a3 hz1 (Or.inl rfl) (fun _ => by rw [a5, zgI_sI, if_pos ⟨rfl, rfl⟩]) (by omega)
    have hR : fX8_takesE_28 (k + 1) (nI br) (nI nt) 1 m = fX8_takesE_28 k (nI (br + 1)) (nI nt) 1 m1 := by
      rw [fX8_takesE_28, if_neg z10]
      unfold fX8_takesE_39 fX8_takesE_97
      rw [if_neg z10, zbd_s, t11', if_pos (show nI 3 = 3 from rfl), zbd_s, v1, if_neg (show ¬ nI 40 = 33 by decide), zbd_s, if_pos (show nI 3 = 3 from rfl), zbd_s, if_pos (show nI 40 = 40 from rfl), if_neg hb', zbd_s, s1, z11 (by omega), zbd_s, zbd_s, z21, nI_1, zbd_s, zbd_s, nI_1, nb0, zst (i := br + 1) (by omega) (by omega), zbd_s, a2, zbd_s, w_172 hb0 a3, hz1]
    rw [a1, zbd_s, nI_1, show F 0 (nI (br + 1)) (nI nt) c1 = some c2 from g1, zbd_s]
    rw [hR]
    rcases g2 with g2 | ⟨m2, st2, en2, κ2, Z, Y1, D, k2, b1, b2, b3, b4, b5, b6, b7, b8, b9, b10⟩
    · rw [c_closeF hb0 g2, zbd_s]
      exact ⟨c2, rfl, Or.inl g2⟩
    · obtain ⟨c3, w1, w2⟩ := w_close (st0 := st) (mm := m) (br := br) (j := j) (S0 := S0) hb0 (by omega) b1 b2 b3 (by omega) b5 b6 hS (fun b hb' => by rw [b7 b hb', a5, gm _ _ (by omega) (by omega) (by omega)]) b9 b10
      rw [w1, zbd_s]
      exact ⟨c3, rfl, w2⟩
  · -- no piece
    have hR : fX8_takesE_28 (k + 1) (nI br) (nI nt) 1 m = some (0, m) := by
      refine r1_no ?_ (by rw [t11']; exact n1) (by rw [t11']; exact n2)
      by_cases e3 : κ = 3
      · have hlt := t9 (by omega)
        obtain ⟨_, _, e256⟩ := hb.2.2.2 st (by omega)
        right
        rw [t13 (Or.inr e3), t11', e3]
        refine ⟨rfl, fun z => ?_, fun z => ?_⟩
        · have := (nI_eq (b := 33) (by omega) (by decide)).mp z
          exact nI_le (a := 8) (by omega) (by omega)
        · have := (nI_eq (b := 40) (by omega) (by decide)).mp z
          exact nI_le (a := 8) (by omega) (by omega)
      · left
        rw [t11']
        exact fun z => e3 ((nI_eq (b := 3) (by omega) (by decide)).mp z)
    obtain ⟨w1, w2⟩ := (w_fail hb0 h hR).2 hbad
    refine ⟨_, ?_, Or.inl w2⟩
    rw [zbd_id, w1]
    by_cases e33 : κ = 3 ∧ B st = 33
    · rw [if_pos e33, if_neg z10, if_pos (show (8 : Int32) ≤ nI nt from nI_le (a := 8) (by omega) (by omega)), if_neg (show ¬ (κ = 3 ∧ B st = 40) by omega), if_pos rfl]
    · rw [if_neg e33, if_pos rfl]
      by_cases e40 : κ = 3 ∧ B st = 40
      · rw [if_pos e40, if_neg z10, if_pos (show (8 : Int32) ≤ nI br from nI_le (a := 8) (by omega) (by omega))]
      · rw [if_neg e40, if_pos rfl]
