/-! ===== text, both sides ===== -/
theorem zTk_keep {T : Nat} {B : Nat → Nat} {c m c1 m1 : zz_W} {st en κ : Nat} {bad : Prop} (h : zTk T B c m st en κ bad) (e : ∀ i, 3 ≤ i → i ≤ 6 → zgI c1 36 i = zgI c 36 i) (f : ∀ i, 9 ≤ i → i ≤ 13 → zgI m1 0 i = zgI m 0 i) : zTk T B c1 m1 st en κ bad := by
  unfold zTk at h ⊢
  rw [e 3 (by omega) (by omega), e 4 (by omega) (by omega), e 5 (by omega) (by omega), e 6 (by omega) (by omega), f 9 (by omega) (by omega), f 10 (by omega) (by omega), f 11 (by omega) (by omega), f 12 (by omega) (by omega), f 13 (by omega) (by omega)]
  exact h
theorem w_fin {c m c1 m1 : zz_W} {f : Nat} (h : zRel c m) (pc : zPc c c1) (pm : zPm m m1) (hf : f ≤ 96) (h10 : zgI m1 0 10 = nI f) (e : fX4_findFault c = some (nI f, c1)) (e2 : fX8_text m = fX8_text_32 m1) : ∃ r c2 m2, fX7_text c = some (r, c2) ∧ fX8_text m = some (r, m2) ∧ zRel c2 m2 := by
  refine ⟨-100 - nI f, _, _, ?_, ?_, w_end h pc pm⟩
  · unfold fX7_text
    rw [e, zbd2_s, zbd_s, if_neg (nI_pos (by omega))]
  · rw [e2]
    unfold fX8_text_32 fX8_text_33
    rw [zbd_s, if_pos rfl, zbd_s, zgI_sI, if_neg (by omega), h10]
theorem s_text : zSIM fX7_text fX8_text := by
  intro c m h
  have hfu := zfuel_big
  obtain ⟨⟨n, hw, hp, _, t, kf, ta, tb, tc, _⟩, r1, ⟨T, hT, T1, T2, T3⟩, r3, r4, r5, r6⟩ := id h
  have hb0 : zBy c m T (fun j => (zgI m 7 j).toNatClampNeg) := ⟨hT, T1, T2, fun j hj => by
    obtain ⟨e1, x, hx, e2⟩ := T3 j hj
    have e3 : (zgI m 7 j).toNatClampNeg = x := by rw [e2]; exact nI_clamp (by omega)
    show zgI c 37 j = nI (zgI m 7 j).toNatClampNeg ∧ zgI m 7 j = nI (zgI m 7 j).toNatClampNeg ∧ (zgI m 7 j).toNatClampNeg < 256
    rw [e3, e1, e2]
    exact ⟨rfl, rfl, hx⟩⟩
  generalize (fun j => (zgI m 7 j).toNatClampNeg) = B at hb0
  -- the start
  have gcI : ∀ a i, ¬ (a = 36 ∧ 4 ≤ i) → zgI (zsI (zsI (zsI (zsI (zsI c 36 4 0) 36 5 0) 36 6 (-1)) 36 8 0) 36 9 0) a i = zgI c a i := fun a i hh => by
    rw [zgI_sI, if_neg (by omega), zgI_sI, if_neg (by omega), zgI_sI, if_neg (by omega), zgI_sI, if_neg (by omega), zgI_sI, if_neg (by omega)]
  have c4 : zgI (zsI (zsI (zsI (zsI (zsI c 36 4 0) 36 5 0) 36 6 (-1)) 36 8 0) 36 9 0) 36 4 = nI 0 := by rw [zgI_sI, if_neg (by omega), zgI_sI, if_neg (by omega), zgI_sI, if_neg (by omega), zgI_sI, if_neg (by omega), zgI_sI, if_pos ⟨rfl, rfl⟩]; rfl
  have c5 : zgI (zsI (zsI (zsI (zsI (zsI c 36 4 0) 36 5 0) 36 6 (-1)) 36 8 0) 36 9 0) 36 5 = nI 0 := by rw [zgI_sI, if_neg (by omega), zgI_sI, if_neg (by omega), zgI_sI, if_neg (by omega), zgI_sI, if_pos ⟨rfl, rfl⟩]; rfl
  have c6 : zgI (zsI (zsI (zsI (zsI (zsI c 36 4 0) 36 5 0) 36 6 (-1)) 36 8 0) 36 9 0) 36 6 = -1 := by rw [zgI_sI, if_neg (by omega), zgI_sI, if_neg (by omega), zgI_sI, if_pos ⟨rfl, rfl⟩]
  have c8 : zgI (zsI (zsI (zsI (zsI (zsI c 36 4 0) 36 5 0) 36 6 (-1)) 36 8 0) 36 9 0) 36 8 = nI 0 := by rw [zgI_sI, if_neg (by omega), zgI_sI, if_pos ⟨rfl, rfl⟩]; rfl
  have c9 : zgI (zsI (zsI (zsI (zsI (zsI c 36 4 0) 36 5 0) 36 6 (-1)) 36 8 0) 36 9 0) 36 9 = 0 := by rw [zgI_sI, if_pos ⟨rfl, rfl⟩]
  have hF : fX4_findFault c = zbd (fX4_advance (zsI (zsI (zsI (zsI (zsI c 36 4 0) 36 5 0) 36 6 (-1)) 36 8 0) 36 9 0)) (fun w26 => zbd2 (fX4_keyHere w26) fun x27 w28 => zbd (some (zsI w28 36 7 x27)) fun w29 => zbd (some (zgI w29 36 7)) fun x30 =>
      if 0 ≤ x30 then (zbd (fX4_advance w29) fun w32 => zbd (fX4_join 0 0 0 w32) fun w33 => zbd (some (zgI w33 36 5)) fun x34 => if x34 = 0 then (zbd (some (zgI w33 36 6)) fun x36 => some (x36, w33)) else (zbd (fX4_blame w33) fun w37 => zbd (some (zgI w37 36 6)) fun x38 => some (x38, w37)))
      else (zbd (fX4_blame w29) fun w39 => zbd (some (zgI w39 36 6)) fun x40 => some (x40, w39))) := by
    unfold fX4_findFault
    rw [zbd_s, zbd_s, zbd_s, zbd_s, zbd_s]
  have pcI : zPc c (zsI (zsI (zsI (zsI (zsI c 36 4 0) 36 5 0) 36 6 (-1)) 36 8 0) 36 9 0) := ⟨fun a i q1 q2 => gcI a i (by omega), rfl⟩
  generalize (zsI (zsI (zsI (zsI (zsI c 36 4 0) 36 5 0) 36 6 (-1)) 36 8 0) 36 9 0) = cI at *
  have pmI : zPm m (zsI (zsI m 0 9 0) 0 13 (-1)) := zPm_s (zPm_s (fun _ _ _ _ => rfl) (by omega) _) (by omega) _
  have m9 : zgI (zsI (zsI m 0 9 0) 0 13 (-1)) 0 9 = nI 0 := by rw [zgI_sI, if_neg (by omega), zgI_sI, if_pos ⟨rfl, rfl⟩]; rfl
  have m13 : zgI (zsI (zsI m 0 9 0) 0 13 (-1)) 0 13 = -1 := by rw [zgI_sI, if_pos ⟨rfl, rfl⟩]
  have hM : fX8_text m = zbd (fX8_go (zsI (zsI m 0 9 0) 0 13 (-1))) (fun w48 => zbd2 (fX8_takesKey w48) fun x49 w50 => if x49 = 0 then (fX8_text_32 w50) else (zbd2 (fX8_takesE w50) fun x52 w53 => if x52 = 0 then (fX8_text_32 w53) else (fX8_text_33 1 w53))) := by
    unfold fX8_text
    rw [zbd_s, zbd_s]
  generalize (zsI (zsI m 0 9 0) 0 13 (-1)) = mI at *
  obtain ⟨c1, m1, st, en, κ, bad, a1, a2, _, tk, lc, lm, hbad⟩ := w_lex (κ0 := 0) (p := 0) (zBy_P hb0 pcI pmI) (by omega) (by omega) c4 c5 c6 m9 (fun z => by omega) (fun _ => Or.inl m13)
  have hbad : ¬ bad := fun z => by have := hbad z; omega
  have pc1 := zPc_L pcI lc
  have pm1 := zPm_L pmI lm
  have hb1 := zBy_P hb0 pc1 pm1
  have hst := (zTk_st tk).1
  have hkeys : (∀ i, i < 11 → zgI m1 8 i = zgI zm0 8 i) ∧ (∀ i, i < 4 → zgI m1 9 i = zgI zm0 9 i) := ⟨fun i hi => by rw [pm1 _ _ (by omega) (by omega)]; exact r6.1.1 i hi, fun i hi => by rw [pm1 _ _ (by omega) (by omega)]; exact r6.1.2 i hi⟩
  obtain ⟨mk1, mk2⟩ := m_takesKey hb1 tk hbad hkeys
  have f6 : zgI c1 36 6 = -1 := by
    rcases tk.2.2.2.2.2.2.2.2.2.2.2.2.2.2 with ⟨q, _⟩ | ⟨_, q, _⟩
    · exact absurd q hbad
    · exact q
  rw [a1, zbd_s] at hF
  rw [a2, zbd_s] at hM
  rcases c_keyHere hb1 tk with ⟨key, hk3, e1, hz, hn, ek⟩ | ⟨hn, ek⟩
  · rw [ek, zbd2_s, zbd_s, zbd_s, show zgI (zsI c1 36 7 (nI key)) 36 7 = nI key by rw [zgI_sI, if_pos ⟨rfl, rfl⟩], if_pos (nI_pos' (by omega))] at hF
    rw [mk1 key hk3 e1 hz hn] at hM
    have hen : st + 3 ≤ en := by
      have := hz.1
      have := zkl_le key hk3
      omega
    have ad : zAd T (zsI c1 36 7 (nI key)) (zsI m1 0 14 (nI key)) en κ := zAd_keep (zAd_of tk hbad (by omega)) (fun i q1 q2 => by rw [zgI_sI, if_neg (by omega)]) (fun i q => by rw [zgI_sI, if_neg (by omega)])
    have pc2 : zPc c (zsI c1 36 7 (nI key)) := zPc_s pc1 (by omega) _
    have pm2 : zPm m (zsI m1 0 14 (nI key)) := zPm_s pm1 (by omega) _
    obtain ⟨c2, m2, st2, en2, κ2, bad2, d1, d2, d3, d4, d5, d6⟩ := w_adv (zBy_P hb0 pc2 pm2) ad
    rw [d1, zbd_s] at hF
    rw [d2, zbd_s, zbd2_s, if_neg z10] at hM
    have nb0 : vp_nar .boolean 0 = 0 := by decide
    have hE : fX8_takesE m2 = fX8_takesE_28 zfuel (nI 0) (nI 0) 1 (zsI (zsI (zsI (zsI m2 0 18 0) 0 19 0) 0 21 0) 12 0 0) := by
      unfold fX8_takesE
      rw [zbd_s, zbd_s, zbd_s, nb0, show zstI (zsI (zsI (zsI m2 0 18 0) 0 19 0) 0 21 0) 12 10 0 0 = some (zsI (zsI (zsI (zsI m2 0 18 0) 0 19 0) 0 21 0) 12 0 0) from zst (i := 0) (by omega) (by omega), zbd_s]
      rfl
    have gE : ∀ a i, ¬ (a = 0 ∧ (i = 18 ∨ i = 19 ∨ i = 21)) → ¬ (a = 12 ∧ i = 0) → zgI (zsI (zsI (zsI (zsI m2 0 18 0) 0 19 0) 0 21 0) 12 0 0) a i = zgI m2 a i := fun a i q1 q2 => by rw [zgI_sI, if_neg q2, zgI_sI, if_neg (by omega), zgI_sI, if_neg (by omega), zgI_sI, if_neg (by omega)]
    have hst2 := (zTk_st d4).1
    have hP : zPs c m T B key c2 (zsI (zsI (zsI (zsI m2 0 18 0) 0 19 0) 0 21 0) 12 0 0) st2 en2 κ2 bad2 [] [] [] := by
      refine ⟨zTk_keep d4 (fun _ _ _ => rfl) (fun i q1 q2 => gE 0 i (by omega) (by omega)), zPc_L pc2 d5, fun a i q1 q2 => by rw [gE a i (by omega) (by omega)]; exact zPm_L pm2 d6 a i q1 q2, ⟨?_, zAr_nil _ _ _, ?_⟩, ⟨?_, zAr_nil _ _ _, ?_⟩, ⟨?_, trivial, fun t ht => by cases ht⟩, Nat.zero_le _, by show 0 + 0 + 3 ≤ st2; omega, ?_⟩
      · rw [d5.1 _ _ (by omega), zgI_sI, if_neg (by omega), lc.1 _ _ (by omega)]; exact c8
      · rw [d5.1 _ _ (by omega), zgI_sI, if_pos ⟨rfl, rfl⟩]
      · rw [zgI_sI, if_neg (by omega), zgI_sI, if_neg (by omega), zgI_sI, if_neg (by omega), zgI_sI, if_pos ⟨rfl, rfl⟩]; rfl
      · rw [gE _ _ (by omega) (by omega), d6 _ _ (by omega), zgI_sI, if_pos ⟨rfl, rfl⟩]
      · rw [zgI_sI, if_neg (by omega), zgI_sI, if_pos ⟨rfl, rfl⟩]; rfl
      · rw [d5.1 _ _ (by omega), zgI_sI, if_neg (by omega), lc.1 _ _ (by omega), c9, zgI_sI, if_neg (by omega), zgI_sI, if_neg (by omega), zgI_sI, if_pos ⟨rfl, rfl⟩]
    obtain ⟨c3, g1, g2⟩ := (w_JR hk3 hb0 100).1 0 0 0 c2 _ st2 en2 κ2 bad2 [] [] zfuel (by omega) (by omega) (by omega) (by omega) hP rfl trivial (fun _ => by rw [zgI_sI, if_pos ⟨rfl, rfl⟩]) (by omega)
    rw [show fX4_join 0 0 0 c2 = some c3 from g1, zbd_s] at hF
    rw [hE] at hM
    rcases g2 with ⟨f, m4, f1, f2, f3, f4, f5, f6', _⟩ | ⟨m3, st3, en3, κ3, Z, Y3, D, k3, b1, b2, b3, b4, b5, b6, b7, b8, b9, b10⟩
    · refine w_fin h f6' f5 f1 f4 ?_ (by rw [hM, f3, zbd2_s, if_pos rfl])
      rw [hF, zbd_s, zbd_s, f2, c_blame1 f1 f2, zbd_s, zbd_s, f2]
      split <;> rfl
    · obtain ⟨btk, bpc, bpm, ⟨bx1, bx2, bx3⟩, ⟨by1, by2, by3⟩, ⟨bs1, bs2, bs3⟩, bl1, bl2, bl3⟩ := id b1
      have hst3 := (zTk_st btk).1
      have hκ3 := (zTk_st btk).2
      have f63 : zgI c3 36 6 = -1 := by
        rcases btk.2.2.2.2.2.2.2.2.2.2.2.2.2.2 with ⟨q, _⟩ | ⟨_, q, _⟩
        · exact absurd q id
        · exact q
      have f11 : zgI m3 0 11 = (if κ3 = 2 ∧ 4 < en3 - st3 then 4 else nI κ3) := by
        rcases btk.2.2.2.2.2.2.2.2.2.2.2.2.2.2 with ⟨q, _⟩ | ⟨_, _, q⟩
        · exact absurd q id
        · exact q
      rw [zbd_s, btk.2.2.1] at hF
      obtain ⟨k3, rfl⟩ : ∃ y, k3 = y + 1 := ⟨k3 - 1, by omega⟩
      by_cases e0 : κ3 = 0
      · -- a law
        rw [e0, if_pos (show nI 0 = 0 from rfl), zbd_s, f63] at hF
        rw [if_neg (by omega), e0] at f11
        have hDl : (D ++ ([] : List Nat)).length = D.length + ([] : List Nat).length := List.length_append
        rw [hDl] at bs1 bl1 bl2
        have hnl : ([] : List Nat).length = 0 := rfl
        obtain ⟨m4, v1, v2, v3, v4, v5, v6⟩ := m_settle (lo := 0) (S := []) (D := D) (Y := Y3) (m := m3) (by omega) trivial (fun t ht => ⟨by have := b5 t ht; omega, by omega⟩) (by omega) bs2 bs1 by1 by2
        rw [← b2, List.nil_append] at v4 v5
        rw [List.nil_append] at b2 bx1 bx2 bl1
        have hZl : Z.length = Y3.length + D.length := by rw [b2, List.length_append]
        have hR : fX8_takesE_28 zfuel (nI 0) (nI 0) 1 (zsI (zsI (zsI (zsI m2 0 18 0) 0 19 0) 0 21 0) 12 0 0) = some (1, m4) := by
          rw [b9, fX8_takesE_28, if_pos rfl, zbd_s, f11, if_pos (show nI 0 = 0 from rfl), show fX8_settle 0 m3 = some m4 from v1, zbd_s, if_pos (show nI 0 = 0 from rfl)]
        rw [hR, zbd2_s, if_neg z10] at hM
        have pm4 : zPm m m4 := fun a i q1 q2 => by rw [v6 a i (by omega) (by omega)]; exact bpm a i q1 q2
        have hA := w_end h bpc pm4
        have A15 : zgI (zsI c3 36 0 0) 1 15 = nI t := by rw [zgI_sI, if_neg (by omega), bpc.1 _ _ (by omega) (by omega)]; exact tb
        have A13 : zgI (zsI m4 0 8 0) 1 13 = nI t := by rw [zgI_sI, if_neg (by omega), pm4 _ _ (by omega) (by omega)]; exact tc
        have hC7 : fX7_text c = (if nI t < 14 then (zbd2 (fX4_toText (zsI c3 36 0 0)) fun q w3 => zbd (fX6_addText 1 q w3) fun w4 => zbd (some (zgI w4 1 15)) fun x5 => some (x5 - 1, w4)) else some (-1000000003, zsI c3 36 0 0)) := by
          unfold fX7_text
          rw [hF, zbd2_s, zbd_s, if_pos (show (-1 : Int32) < 0 by decide), zbd_s, A15]
        have hM7 : fX8_text m = (if nI t = 14 then some (-1000000003, zsI m4 0 8 0) else (zbd (zldI (zsI m4 0 8 0) 1 1436 13) fun x39 => zbd (some (zgI (zsI m4 0 8 0) 0 14)) fun x40 => zbd (some (zgI (zsI m4 0 8 0) 0 18)) fun x41 => zbd (zstI (zsI m4 0 8 0) 1 1436 (64 + (2 * x39)) ((1000 * x40) + x41)) fun w42 => zbd (some (zgI w42 0 19)) fun x43 => zbd (zstI w42 1 1436 ((64 + (2 * x39)) + 1) x43) fun w44 => fX8_text_117 zfuel x39 0 w44)) := by
          rw [hM]
          unfold fX8_text_33
          rw [zbd_s, if_neg z10, m_l13, zbd_s, A13]
        rw [hC7, hM7]
        by_cases e14 : t = 14
        · subst e14
          rw [if_neg (show ¬ nI 14 < 14 by decide), if_pos (show nI 14 = 14 from rfl)]
          exact ⟨_, _, _, rfl, rfl, hA⟩
        · rw [if_pos (show nI t < 14 from nI_lt (b := 14) (by omega) (by omega)), if_neg (show ¬ nI t = 14 from fun z => e14 ((nI_eq (b := 14) (by omega) (by decide)).mp z))]
          obtain ⟨c5', m5, w1, w2, w3⟩ := w_new (Z := Z) (key := key) (t := t) hA hk3 (by omega) A15 A13 b3 (by omega) (by rw [zgI_sI, if_neg (by omega)]; exact bx3) (by rw [zgI_sI, if_neg (by omega)]; exact bx1) (zAr_keep bx2 (fun i _ => by rw [zgI_sI, if_neg (by omega)])) (by rw [zgI_sI, if_neg (by omega), v6 _ _ (by omega) (by omega)]; exact by3) (by rw [zgI_sI, if_neg (by omega)]; exact v4) (zAr_keep v5 (fun i _ => by rw [zgI_sI, if_neg (by omega)])) (by rw [zgI_sI, if_neg (by omega), zgI_sI, if_neg (by omega), v6 _ _ (by omega) (by omega)]; exact bl3)
          exact ⟨_, c5', m5, w1, w2, w3⟩
      · -- a word too many
        obtain ⟨w1, f, m4, f1, f2, f3, f4, f5, f6', _⟩ := w_rej (k := k3) (l2 := nI 0) hb0 (show 0 < 10 by omega) b1 b5 trivial b6 (fun z => absurd z e0) (fun z => by omega)
        rw [if_neg (nI_ne0 (by omega) (by omega)), w1, zbd_s, zbd_s, f2] at hF
        exact w_fin h f6' f5 f1 f4 hF (by rw [hM, b9, f3, zbd2_s, if_pos rfl])
  · -- no key
    rw [ek, zbd2_s, zbd_s, zbd_s, show zgI (zsI c1 36 7 (-1)) 36 7 = -1 by rw [zgI_sI, if_pos ⟨rfl, rfl⟩], if_neg (show ¬ (0 : Int32) ≤ -1 by decide), c_blame0 (by rw [zgI_sI, if_neg (by omega)]; exact f6), zbd_s, zbd_s, zgI_sI, if_pos ⟨rfl, rfl⟩, show zgI (zsI c1 36 7 (-1)) 36 3 = nI st by rw [zgI_sI, if_neg (by omega)]; exact tk.1] at hF
    rw [mk2 hn, zbd2_s, if_pos rfl] at hM
    exact w_fin h (zPc_s (zPc_s pc1 (by omega) _) (by omega) _) pm1 (by omega) tk.2.2.2.1 hF hM
