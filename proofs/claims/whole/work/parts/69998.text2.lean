/-! ===== text: a TEXT more ===== -/
theorem w_new {c m : zz_W} {key t : Nat} {Z : List Nat} (h : zRel c m) (hk : key < 3) (ht : t < 14) (e15 : zgI c 1 15 = nI t) (e13 : zgI m 1 13 = nI t) (hZ : zWF key Z) (hl : Z.length ≤ 95) (x7 : zgI c 36 7 = nI key) (x8 : zgI c 36 8 = nI Z.length) (x38 : zAr c 38 fTC Z) (y14 : zgI m 0 14 = nI key) (y18 : zgI m 0 18 = nI Z.length) (y10 : zAr m 10 fTM Z) (xa : zgI c 36 9 = zgI m 0 19) :
    ∃ c1 m1, zbd2 (fX4_toText c) (fun q w3 => zbd (fX6_addText 1 q w3) fun w4 => zbd (some (zgI w4 1 15)) fun x5 => some (x5 - 1, w4)) = some (nI t, c1) ∧
      zbd (zldI m 1 1436 13) (fun x39 => zbd (some (zgI m 0 14)) fun x40 => zbd (some (zgI m 0 18)) fun x41 => zbd (zstI m 1 1436 (64 + (2 * x39)) ((1000 * x40) + x41)) fun w42 => zbd (some (zgI w42 0 19)) fun x43 => zbd (zstI w42 1 1436 ((64 + (2 * x39)) + 1) x43) fun w44 => fX8_text_117 zfuel x39 0 w44) = some (nI t, m1) ∧ zRel c1 m1 := by
  have hf := zfuel_big
  obtain ⟨⟨n, hw, hp, ⟨s, hs, es⟩, tx⟩, r1, r2, r3, r4, r5, r6⟩ := id h
  obtain ⟨t0, kf, a1, a2, a3, a4, a5, a6⟩ := id tx
  have ett : t0 = t := (nI_eq (by omega) (by omega)).mp (by rw [← a2, ← e15])
  subst ett
  -- the component
  have hq : zq0 c = 65 + 3 * c.2.2.2.1 := rfl
  generalize hqq : zq0 c = q at *
  have hB : ∀ a i, ¬ a = q → ¬ a = q + 1 → ¬ a = q + 2 → zgI (zmk c) a i = zgI c a i := fun a i q1 q2 q3 => by
    show (if a = zq0 c then _ else if a = zq0 c + 1 then _ else if a = zq0 c + 2 then _ else c.1 a i) = c.1 a i
    rw [hqq, if_neg q1, if_neg q2, if_neg q3]
  have hB0 : zgI (zmk c) q 0 = nI key := by
    show (if q = zq0 c then (if 0 = 0 then zgI c 36 7 else zgI c 36 9) else _) = _
    rw [hqq, if_pos rfl, if_pos rfl]; exact x7
  have hB1 : zgI (zmk c) q 1 = zgI c 36 9 := by
    show (if q = zq0 c then (if 1 = 0 then zgI c 36 7 else zgI c 36 9) else _) = _
    rw [hqq, if_pos rfl, if_neg (by omega)]
  have hBc : ∀ j, j < Z.length → zgI (zmk c) (q + 1) j = zgI c 38 j := fun j hj => by
    show (if q + 1 = zq0 c then _ else if q + 1 = zq0 c + 1 then va_cpy (zgI c 38) (fun _ => 0) 0 0 (zgI c 36 8).toNatClampNeg j else _) = _
    rw [hqq, if_neg (by omega), if_pos rfl, x8, nI_clamp (by omega), pk_cpy_in (by omega) (by omega)]
    congr 1
    omega
  have hG : (zmk c).2.2.2 = (c.2.2.2.1 + 1, fun k => if k = q then Z.length else c.2.2.2.2 k) := by
    show (c.2.2.2.1 + 1, fun k => if k = zq0 c then (zgI c 36 8).toNatClampNeg else c.2.2.2.2 k) = _
    rw [hqq, x8, nI_clamp (by omega)]
  have hT : zisT (zmk c).2.2.2 q = true := by
    rw [hG]
    exact decide_eq_true ⟨by omega, by show q < 65 + 3 * (c.2.2.2.1 + 1); omega, by omega⟩
  have eC : fX4_toText c = some (q, zmk c) := by
    unfold fX4_toText
    rw [zgrd_h _ a4, zgrd_h _ r6.2.1, zgrd_h _ r6.2.2, zgrd_h _ (by rw [x8]; exact zin_nI (by omega) (by omega)), hqq]
  have b15 : zgI (zmk c) 1 15 = nI t0 := by rw [hB _ _ (by omega) (by omega) (by omega)]; exact e15
  have eA : fX6_addText 1 q (zmk c) = some (zsI (zsI (zsR (zmk c) 9 t0 (some q)) 10 key (nI t0)) 1 15 (nI (t0 + 1))) := by
    unfold fX6_addText
    rw [zgrd_h _ hw.W, zbd_s, b15, if_pos (show nI t0 < 14 from nI_lt (b := 14) ht (by omega)), zbd_s, zgrd_h _ hT, zstRn (i := t0) (by omega) (by omega), zbd_s, show (zsR (zmk c) (1 + 8) t0 (some q)).2.2.2 = (zmk c).2.2.2 from rfl, zgrd_h _ hT, zbd_s, zgI_sR, zgI_sR, hB0, zbd_s, b15, zst (i := key) (by omega) (by omega), zbd_s, zbd_s, show zgI (zsI (zsR (zmk c) (1 + 8) t0 (some q)) (1 + 9) key (nI t0)) 1 15 = nI t0 by rw [zgI_sI, if_neg (by omega), zgI_sR]; exact b15, nI_1, zbd_s]
  -- the reference
  have ei : (64 : Int32) + 2 * nI t0 = nI (64 + 2 * t0) := by rw [show (64 : Int32) = nI 64 from rfl, show (2 : Int32) = nI 2 from rfl, pk_mul, nI_add]
  have ek : (1000 : Int32) * nI key + nI Z.length = nI (1000 * key + Z.length) := by rw [show (1000 : Int32) = nI 1000 from rfl, pk_mul, nI_add]
  obtain ⟨m1, u1, u2, u3, u4⟩ := m_117 (t := t0) (len := Z.length) ht hl Z.length 0 zfuel (zsI (zsI m 1 (64 + 2 * t0) (nI (1000 * key + Z.length))) 1 (65 + 2 * t0) (zgI m 0 19)) (by omega) (by omega) (by rw [zgI_sI, if_neg (by omega), zgI_sI, if_neg (by omega)]; exact y18)
  have um : ∀ a i, ¬ (a = 1 ∧ (i = 13 ∨ i = 64 + 2 * t0 ∨ i = 65 + 2 * t0 ∨ (92 + 96 * t0 ≤ i ∧ i < 92 + 96 * t0 + Z.length))) → zgI m1 a i = zgI m a i := fun a i hh => by rw [u4 a i (by omega), zgI_sI, if_neg (by omega), zgI_sI, if_neg (by omega)]
  refine ⟨_, m1, by rw [eC, zbd2_s, eA, zbd_s, zbd_s, zgI_sI, if_pos ⟨rfl, rfl⟩, nI_pred], ?_, ?_⟩
  · rw [m_l13, zbd_s, e13, zbd_s, zbd_s, y14, y18, ei, ek, zst (i := 64 + 2 * t0) (by omega) (by omega), zbd_s, zbd_s, show zgI (zsI m 1 (64 + 2 * t0) (nI (1000 * key + Z.length))) 0 19 = zgI m 0 19 by rw [zgI_sI, if_neg (by omega)], nI_1, show 64 + 2 * t0 + 1 = 65 + 2 * t0 by omega, zst (i := 65 + 2 * t0) (by omega) (by omega), zbd_s]
    exact u1
  -- the relation
  generalize hc1 : zsI (zsI (zsR (zmk c) 9 t0 (some q)) 10 key (nI t0)) 1 15 (nI (t0 + 1)) = c1
  have gI : ∀ a i, ¬ (a = 10 ∧ i = key) → ¬ (a = 1 ∧ i = 15) → zgI c1 a i = zgI (zmk c) a i := fun a i q1 q2 => by rw [← hc1, zgI_sI, if_neg q2, zgI_sI, if_neg q1, zgI_sR]
  have g15 : zgI c1 1 15 = nI (t0 + 1) := by rw [← hc1, zgI_sI, if_pos ⟨rfl, rfl⟩]
  have g10 : zgI c1 10 key = nI t0 := by rw [← hc1, zgI_sI, if_neg (by omega), zgI_sI, if_pos ⟨rfl, rfl⟩]
  have gL : ∀ a i, zgL c1 a i = zgL c a i := fun a i => by rw [← hc1]; rfl
  have gR : ∀ a i, zgR c1 a i = if a = 9 ∧ i = t0 then some q else zgR c a i := fun a i => by rw [← hc1]; rfl
  have gG : c1.2.2.2 = (c.2.2.2.1 + 1, fun k => if k = q then Z.length else c.2.2.2.2 k) := by rw [← hc1]; exact hG
  have gG1 : c.2.2.2.1 ≤ c1.2.2.2.1 := by rw [gG]; show _ ≤ c.2.2.2.1 + 1; omega
  have gGk : ∀ k, k < 65 + 3 * c.2.2.2.1 → c1.2.2.2.2 k = c.2.2.2.2 k := fun k hk => by rw [gG]; show (if k = q then _ else _) = _; rw [if_neg (by omega)]
  have gT : zisT c1.2.2.2 q = true := by rw [← hc1]; exact hT
  have gc : ∀ a i, a < q → ¬ (a = 10 ∧ i = key) → ¬ (a = 1 ∧ i = 15) → zgI c1 a i = zgI c a i := fun a i q0 q1 q2 => by rw [gI a i q1 q2, hB a i (by omega) (by omega) (by omega)]
  clear hc1
  have g9 : zokR c1 9 0 14 = true := zokR_grow a4 gG1 (fun i _ => by
    rw [gR]
    by_cases e : i = t0
    · rw [if_pos ⟨rfl, e⟩]; exact Or.inr ⟨q, rfl, gT⟩
    · rw [if_neg (fun z => e z.2)]; exact Or.inl rfl)
  have gok : zok2 c1 := ⟨zokR_grow r6.2.1 gG1 (fun i _ => Or.inl (by rw [gR, if_neg (by omega)])), zokR_grow r6.2.2 gG1 (fun i _ => Or.inl (by rw [gR, if_neg (by omega)]))⟩
  refine ⟨⟨n, zWal_mv13 hw hw.W (fun i _ _ => gc 1 i (by omega) (by omega) (by omega)) (fun i _ => gc _ i (by omega) (by omega) (by omega)) (fun i _ => gc _ i (by omega) (by omega) (by omega)) (fun i _ => gc _ i (by omega) (by omega) (by omega)) (fun i _ => gc _ i (by omega) (by omega) (by omega)) (fun i _ => gc _ i (by omega) (by omega) (by omega)) (fun i _ => gL _ _) (fun i _ => gc _ i (by omega) (by omega) (by omega)) (fun i hi h13 => um 1 i (by omega)), zPos_of hp (fun r hr => um 1 _ (by have := hw.hn; omega)), ⟨s, hs, by rw [um 1 2 (by omega)]; exact es⟩, ?_⟩,
    ?_, zTape_keep r2 (gc _ _ (by omega) (by omega) (by omega)) (fun i => gc _ _ (by omega) (by omega) (by omega)) (um _ _ (by omega)) (fun i => um _ _ (by omega)),
    zSheets_keep r3 (fun a i _ _ => gc _ _ (by omega) (by omega) (by omega)) (fun a i _ _ => um _ _ (by omega)), zSlots_keep r4 (fun a i _ _ => gc _ _ (by omega) (by omega) (by omega)) (fun a i _ _ => um _ _ (by omega)),
    zWaits_keep r5 (gc _ _ (by omega) (by omega) (by omega)) (fun i => gc _ _ (by omega) (by omega) (by omega)) (um _ _ (by omega)) (fun i => um _ _ (by omega)), zKeys_keep r6 (fun a i _ _ => um _ _ (by omega)) (fun _ => gok)⟩
  · refine ⟨t0 + 1, fun i => if i = t0 then key else kf i, by omega, g15, by rw [u3, zgI_sI, if_neg (by omega), zgI_sI, if_neg (by omega), e13, nI_1], g9, fun i hi => ?_, fun k hk3 => ?_⟩
    · by_cases e : i = t0
      · subst e
        refine ⟨q, by rw [gR, if_pos ⟨rfl, rfl⟩], gT, ?_⟩
        show zLaw c1 q m1 i (if i = i then key else kf i)
        rw [if_pos rfl]
        refine zLaw_new hk hZ hl (by rw [gG]; show (if q = q then _ else _) = _; rw [if_pos rfl]) (by rw [gI _ _ (by omega) (by omega)]; exact hB0) (by rw [u4 1 _ (by omega), zgI_sI, if_neg (by omega), zgI_sI, if_pos ⟨rfl, rfl⟩]) (by rw [gI _ _ (by omega) (by omega), hB1, u4 1 _ (by omega), zgI_sI, if_pos ⟨rfl, rfl⟩]; exact xa) (fun j a ha => ?_) (fun j a ha => ?_)
        · obtain ⟨hj, _⟩ := List.getElem?_eq_some_iff.mp ha
          rw [gI _ _ (by omega) (by omega), hBc j hj]; exact x38 j a ha
        · obtain ⟨hj, _⟩ := List.getElem?_eq_some_iff.mp ha
          rw [u2 j (by omega) hj, zgI_sI, if_neg (by omega), zgI_sI, if_neg (by omega)]; exact y10 j a ha
      · obtain ⟨q', b1, b2, b3⟩ := a5 i (by omega)
        have hq' := of_decide_eq_true b2
        refine ⟨q', by rw [gR, if_neg (fun z => e z.2)]; exact b1, zisT_grow b2 gG1, ?_⟩
        show zLaw c1 q' m1 i (if i = t0 then key else kf i)
        rw [if_neg e]
        exact zLaw_grow b3 (by omega) (gGk q' (by omega)) (fun j => gc _ _ (by omega) (by omega) (by omega)) (fun j => gc _ _ (by omega) (by omega) (by omega)) (um _ _ (by omega)) (um _ _ (by omega)) (fun j hj => um _ _ (by omega))
    · by_cases e : k = key
      · right
        refine ⟨t0, by omega, by rw [e]; exact g10, by show (if t0 = t0 then key else kf t0) = k; rw [if_pos rfl, e], fun i' h1 h2 => by omega⟩
      · rw [gc (1 + 9) k (by omega) (by omega) (by omega)]
        rcases a6 k hk3 with ⟨b1, b2⟩ | ⟨i, b1, b2, b3, b4⟩
        · left
          refine ⟨b1, fun i hi => ?_⟩
          show ¬ (if i = t0 then key else kf i) = k
          by_cases z : i = t0
          · rw [if_pos z]; exact fun y => e y.symm
          · rw [if_neg z]; exact b2 i (by omega)
        · right
          refine ⟨i, by omega, b2, ?_, fun i' h1 h2 => ?_⟩
          · show (if i = t0 then key else kf i) = k
            rw [if_neg (by omega)]; exact b3
          · show ¬ (if i' = t0 then key else kf i') = k
            by_cases z : i' = t0
            · rw [if_pos z]; exact fun y => e y.symm
            · rw [if_neg z]; exact b4 i' h1 (by omega)
  · obtain ⟨i1, i2⟩ := r1
    refine ⟨by rw [gc _ _ (by omega) (by omega) (by omega), um _ _ (by omega)]; exact i1, ?_⟩
    rw [um 0 3 (by omega)]
    rcases i2 with i2 | ⟨i2, n2, w2, p2, ⟨s2, hs2, es2⟩, tx2⟩
    · exact Or.inl i2
    · have em : ∀ i, zgI (zIm m1) 1 i = zgI (zIm m) 1 i := fun i => by rw [zIm_1, zIm_1]; exact um 2 i (by omega)
      refine Or.inr ⟨i2, n2, zWal_move w2 w2.W (fun i _ _ => gc _ i (by omega) (by omega) (by omega)) (fun i _ => gc _ i (by omega) (by omega) (by omega)) (fun i _ => gc _ i (by omega) (by omega) (by omega)) (fun i _ => gc _ i (by omega) (by omega) (by omega)) (fun i _ => gc _ i (by omega) (by omega) (by omega)) (fun i _ => gc _ i (by omega) (by omega) (by omega)) (fun i _ => gL _ _) (fun i _ => gc _ i (by omega) (by omega) (by omega)) (fun i _ => em i), zPos_of p2 (fun r _ => em _), ⟨s2, hs2, by rw [em]; exact es2⟩, ?_⟩
      exact zTx_grow tx2 gG1 gGk (gc _ _ (by omega) (by omega) (by omega)) (fun i _ => gc _ _ (by omega) (by omega) (by omega)) (fun i _ => by rw [gR, if_neg (by omega)]) (fun a i h1 h2 => gc _ _ (by omega) (by omega) (by omega)) (fun i _ _ => em i)
