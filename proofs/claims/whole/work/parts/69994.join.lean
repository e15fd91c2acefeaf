/-! ===== text: parts joined ===== -/
theorem zboo0 : zboo 0 = some 0 := rfl
theorem zboo1 : zboo 1 = some 1 := rfl
theorem zjn {κ b x : Nat} (h : ¬ (κ = 3 ∧ b = x)) : (if κ = 3 ∧ b = x then (1 : Int32) else 0) = 0 := if_neg h
theorem c_joins {T : Nat} {B : Nat → Nat} {c m : zz_W} {st en κ L : Nat} {bad : Prop} (hb : zBy c m T B) (tk : zTk T B c m st en κ bad) (hL : L ≤ 4) :
    (∃ s, s < 9 ∧ κ = 3 ∧ B st = zsgB s ∧ zrk2 s = L + 1 ∧ fX4_joinsAt (nI L) c = some (1, c)) ∨ ((∀ s, s < 9 → κ = 3 → B st = zsgB s → ¬ zrk2 s = L + 1) ∧ fX4_joinsAt (nI L) c = some (0, c)) := by
  have s0 : fX4_signIs 124 c = _ := c_sign hb tk (b := 124) (by omega)
  have s1 : fX4_signIs 38 c = _ := c_sign hb tk (b := 38) (by omega)
  have s2 : fX4_signIs 60 c = _ := c_sign hb tk (b := 60) (by omega)
  have s3 : fX4_signIs 61 c = _ := c_sign hb tk (b := 61) (by omega)
  have s4 : fX4_signIs 62 c = _ := c_sign hb tk (b := 62) (by omega)
  have s5 : fX4_signIs 43 c = _ := c_sign hb tk (b := 43) (by omega)
  have s6 : fX4_signIs 45 c = _ := c_sign hb tk (b := 45) (by omega)
  have s7 : fX4_signIs 42 c = _ := c_sign hb tk (b := 42) (by omega)
  have s8 : fX4_signIs 47 c = _ := c_sign hb tk (b := 47) (by omega)
  have rk : ∀ s, s < 9 → ∀ l, zrk2 s = l + 1 → (l = 0 ∧ zsgB s = 124) ∨ (l = 1 ∧ zsgB s = 38) ∨ (l = 2 ∧ (zsgB s = 60 ∨ zsgB s = 61 ∨ zsgB s = 62)) ∨ (l = 3 ∧ (zsgB s = 43 ∨ zsgB s = 45)) ∨ (l = 4 ∧ (zsgB s = 42 ∨ zsgB s = 47)) := by
    intro s hs l hl
    rcases (show s = 0 ∨ s = 1 ∨ s = 2 ∨ s = 3 ∨ s = 4 ∨ s = 5 ∨ s = 6 ∨ s = 7 ∨ s = 8 by omega) with rfl | rfl | rfl | rfl | rfl | rfl | rfl | rfl | rfl
    · have : l = 0 := by have : zrk2 0 = 1 := rfl; omega
      exact Or.inl ⟨this, rfl⟩
    · have : l = 1 := by have : zrk2 1 = 2 := rfl; omega
      exact Or.inr (Or.inl ⟨this, rfl⟩)
    · have : l = 2 := by have : zrk2 2 = 3 := rfl; omega
      exact Or.inr (Or.inr (Or.inl ⟨this, Or.inl rfl⟩))
    · have : l = 2 := by have : zrk2 3 = 3 := rfl; omega
      exact Or.inr (Or.inr (Or.inl ⟨this, Or.inr (Or.inl rfl)⟩))
    · have : l = 2 := by have : zrk2 4 = 3 := rfl; omega
      exact Or.inr (Or.inr (Or.inl ⟨this, Or.inr (Or.inr rfl)⟩))
    · have : l = 3 := by have : zrk2 5 = 4 := rfl; omega
      exact Or.inr (Or.inr (Or.inr (Or.inl ⟨this, Or.inl rfl⟩)))
    · have : l = 3 := by have : zrk2 6 = 4 := rfl; omega
      exact Or.inr (Or.inr (Or.inr (Or.inl ⟨this, Or.inr rfl⟩)))
    · have : l = 4 := by have : zrk2 7 = 5 := rfl; omega
      exact Or.inr (Or.inr (Or.inr (Or.inr ⟨this, Or.inl rfl⟩)))
    · have : l = 4 := by have : zrk2 8 = 5 := rfl; omega
      exact Or.inr (Or.inr (Or.inr (Or.inr ⟨this, Or.inr rfl⟩)))
  unfold fX4_joinsAt
  rcases (show L = 0 ∨ L = 1 ∨ L = 2 ∨ L = 3 ∨ L = 4 by omega) with rfl | rfl | rfl | rfl | rfl
  · rw [if_pos (show nI 0 = 0 from rfl), s0, zbd2_s]
    by_cases e : κ = 3 ∧ B st = 124
    · left; rw [if_pos e, zboo1, zbd_s]; exact ⟨0, by omega, e.1, e.2, rfl, rfl⟩
    · right; rw [if_neg e, zboo0, zbd_s]; exact ⟨fun s hs h3 hB hr => by have := rk s hs 0 hr; omega, rfl⟩
  · rw [if_neg (show ¬ nI 1 = 0 by decide), if_pos (show nI 1 = 1 from rfl), s1, zbd2_s]
    by_cases e : κ = 3 ∧ B st = 38
    · left; rw [if_pos e, zboo1, zbd_s]; exact ⟨1, by omega, e.1, e.2, rfl, rfl⟩
    · right; rw [if_neg e, zboo0, zbd_s]; exact ⟨fun s hs h3 hB hr => by have := rk s hs 1 hr; omega, rfl⟩
  · rw [if_neg (show ¬ nI 2 = 0 by decide), if_neg (show ¬ nI 2 = 1 by decide), if_pos (show nI 2 = 2 from rfl), s2, zbd2_s]
    by_cases e : κ = 3 ∧ B st = 60
    · left; rw [if_pos e, if_neg z10]; exact ⟨2, by omega, e.1, e.2, rfl, rfl⟩
    · rw [if_neg e, if_pos rfl, s3, zbd2_s]
      by_cases e1 : κ = 3 ∧ B st = 61
      · left; rw [if_pos e1, if_neg z10]; exact ⟨3, by omega, e1.1, e1.2, rfl, rfl⟩
      · rw [if_neg e1, if_pos rfl, s4, zbd2_s]
        by_cases e2 : κ = 3 ∧ B st = 62
        · left; rw [if_pos e2, if_neg z10]; exact ⟨4, by omega, e2.1, e2.2, rfl, rfl⟩
        · right; rw [if_neg e2, if_pos rfl]; exact ⟨fun s hs h3 hB hr => by have := rk s hs 2 hr; omega, rfl⟩
  · rw [if_neg (show ¬ nI 3 = 0 by decide), if_neg (show ¬ nI 3 = 1 by decide), if_neg (show ¬ nI 3 = 2 by decide), if_pos (show nI 3 = 3 from rfl), s5, zbd2_s]
    by_cases e : κ = 3 ∧ B st = 43
    · left; rw [if_pos e, if_neg z10]; exact ⟨5, by omega, e.1, e.2, rfl, rfl⟩
    · rw [if_neg e, if_pos rfl, s6, zbd2_s]
      by_cases e1 : κ = 3 ∧ B st = 45
      · left; rw [if_pos e1, if_neg z10]; exact ⟨6, by omega, e1.1, e1.2, rfl, rfl⟩
      · right; rw [if_neg e1, if_pos rfl]; exact ⟨fun s hs h3 hB hr => by have := rk s hs 3 hr; omega, rfl⟩
  · rw [if_neg (show ¬ nI 4 = 0 by decide), if_neg (show ¬ nI 4 = 1 by decide), if_neg (show ¬ nI 4 = 2 by decide), if_neg (show ¬ nI 4 = 3 by decide), s7, zbd2_s]
    by_cases e : κ = 3 ∧ B st = 42
    · left; rw [if_pos e, if_neg z10]; exact ⟨7, by omega, e.1, e.2, rfl, rfl⟩
    · rw [if_neg e, if_pos rfl, s8, zbd2_s]
      by_cases e1 : κ = 3 ∧ B st = 47
      · left; rw [if_pos e1, if_neg z10]; exact ⟨8, by omega, e1.1, e1.2, rfl, rfl⟩
      · right; rw [if_neg e1, if_pos rfl]; exact ⟨fun s hs h3 hB hr => by have := rk s hs 4 hr; omega, rfl⟩
/-- between two joins -/
def zLo (c0 m0 : zz_W) (T : Nat) (B : Nat → Nat) (key L br nt : Nat) (X S : List Nat) (st0 : Nat) (mm c : zz_W) (x : Option (Int32 × zz_W)) (st : Nat) (fl : Int32 → Prop) : Prop :=
  ∃ m en κ Z Y D k, zPs c0 m0 T B key c m st en κ False (X ++ Z) Y (D ++ S) ∧ X ++ Z = Y ++ D ∧ zWF key Z ∧ st0 < st ∧ (∀ t ∈ D, t < 9 ∧ L < zrk2 t) ∧ zNj B (L + 1) br m st κ ∧ (∀ b, b < br → zgI m 12 b = zgI mm 12 b) ∧ (3 ≤ L → (zgI m 12 br = 0 ↔ zgI mm 12 br = 0)) ∧ x = fX8_takesE_28 k (nI br) (nI nt) 0 m ∧ T - st < k ∧ fl (zgI m 12 br)
theorem fTC_neg : ∀ s, s < 9 → -nI (zsgB s) = fTC s := by decide
theorem w_iter {c0 m0 : zz_W} {T key d L br nt st0 : Nat} {B : Nat → Nat} {X S : List Nat} {mm : zz_W} (hb0 : zBy c0 m0 T B) {F : Int32 → Int32 → Int32 → zz_W → Option zz_W} {G : Int32 → Int32 → zz_W → Option zz_W} (hF : zMF c0 m0 T B key d F) (hL : L ≤ 4) (hbr : br ≤ 8) (hnt : nt ≤ 8) (hd : 7 * (8 - br) + (8 - nt) + (6 - L) ≤ d) (hz : znt S = nt) (hS : zstop (L + 1) S)
    {c : zz_W} {x : Option (Int32 × zz_W)} {st : Nat} {fl : Int32 → Prop} (hfl : L = 2 → ∀ v, fl v → v = 0) (h : zLo c0 m0 T B key L br nt X S st0 mm c x st fl) (a1 a2 a3 : Int32) {most i : Nat} (hi : i < most) (hm : most ≤ 96) (n : Nat) :
    (∃ c1, fX4_join_37 F G a1 a2 a3 (n + 1) (nI L) (nI br) (nI nt) (nI most) (nI i) c = some c1 ∧ zOkF c0 m0 T B key L br nt X S st0 mm c1 x) ∨
    (∃ c3, fX4_join_37 F G a1 a2 a3 (n + 1) (nI L) (nI br) (nI nt) (nI most) (nI i) c = fX4_join_37 F G a1 a2 a3 n (nI L) (nI br) (nI nt) (nI most) (nI (i + 1)) c3 ∧ (zFail c0 m0 c3 x ∨ ∃ st3, st < st3 ∧ zLo c0 m0 T B key L br nt X S st0 mm c3 x st3 (fun v => L = 2 → ¬ v = 0))) := by
  have hT := hb0.1
  obtain ⟨m, en, κ, Z, Y, D, k, h1, h2, h3, h4, h5, h6, h7, h8, h9, h10, h11⟩ := h
  obtain ⟨tk, pc, pm, ⟨x1, x2, x3⟩, ⟨y1, y2, y3⟩, ⟨s1, s2, s3⟩, l1, l2, l3⟩ := id h1
  have hb := zBy_P hb0 pc pm
  have hst := (zTk_st tk).1
  obtain ⟨t1, t2, t3, t4, t5, t6, t7, t8, t9, t10, t11, t12, t13, t14, t15⟩ := id tk
  have f6 : zgI c 36 6 = -1 ∧ zgI m 0 11 = (if κ = 2 ∧ 4 < en - st then 4 else nI κ) := by
    rcases t15 with ⟨q, _⟩ | ⟨_, q1, q2⟩
    · exact absurd q id
    · exact ⟨q1, q2⟩
  rw [fX4_join_37, if_neg (nI_ge hi (by omega)), zbd_s, f6.1, if_neg (show ¬ (0 : Int32) ≤ -1 by decide)]
  rcases c_joins hb tk hL with ⟨s, hs, e3, eB, er, ej⟩ | ⟨ej1, ej⟩
  · right
    obtain ⟨g1, _⟩ := zsgB_lt s hs
    have hen := t10 e3
    have hlt := t9 (by omega)
    have t11' := f6.2
    rw [if_neg (by omega), e3] at t11'
    have v1 := t13 (Or.inr e3)
    rw [eB] at v1
    obtain ⟨k, rfl⟩ : ∃ y, k = y + 1 := ⟨k - 1, by omega⟩
    have hl : (D ++ S).length = D.length + S.length := List.length_append
    rw [hl] at s1 l1 l2
    -- the reference settles
    obtain ⟨m1, r1, r2, r3, r4, r5, r6⟩ := m_settle (lo := zrk2 s) (S := S) (D := D) (Y := Y) (m := zsI m 12 br (if zrk2 s = 3 then 1 else if zrk2 s < 3 then 0 else if zgI m 12 br = 0 then 0 else 1)) (zrk2_le s) (by rw [er]; exact hS) (fun t ht => ⟨by have := h5 t ht; omega, by have := h5 t ht; omega⟩) (by omega) (zStk_keep s2 (fun i _ => by rw [zgI_sI, if_neg (by omega)])) (by rw [zgI_sI, if_neg (by omega)]; exact s1) (by rw [zgI_sI, if_neg (by omega)]; exact y1) (zAr_keep y2 (fun i _ => by rw [zgI_sI, if_neg (by omega)]))
    rw [← h2] at r4 r5
    have hXl : (X ++ Z).length = Y.length + D.length := by rw [h2, List.length_append]
    have gm : ∀ a i, ¬ (a = 0 ∧ (i = 18 ∨ i = 21)) → ¬ a = 10 → ¬ a = 11 → ¬ (a = 12 ∧ i = br) → zgI (zsI (zsI m1 11 S.length (fTS s)) 0 21 (nI (S.length + 1))) a i = zgI m a i := fun a i q1 q2 q3 q4 => by rw [zgI_sI, if_neg (by omega), zgI_sI, if_neg (by omega), r6 a i q1 q2, zgI_sI, if_neg q4]
    have gf : zgI (zsI (zsI m1 11 S.length (fTS s)) 0 21 (nI (S.length + 1))) 12 br = (if zrk2 s = 3 then 1 else if zrk2 s < 3 then 0 else if zgI m 12 br = 0 then 0 else 1) := by rw [zgI_sI, if_neg (by omega), zgI_sI, if_neg (by omega), r6 _ _ (by omega) (by omega), zgI_sI, if_pos ⟨rfl, rfl⟩]
    have hR := r0_op (k := k) (br := br) (s := s) (l2 := nI nt) (m := m) (m1 := m1) hs (by omega) t11' v1 (fun z => hfl (by omega) _ h11) (h := S.length) (by omega) r1 r3
    obtain ⟨c1, m2, st1, en1, κ1, bad1, a1', a2', a3', a4', a5'⟩ := w_go (c := c) (m := zsI (zsI m1 11 S.length (fTS s)) 0 21 (nI (S.length + 1))) (X := X ++ Z) (Y := X ++ Z) (S := s :: S) hb0 (zAd_keep (c1 := c) (zAd_of tk id (by omega)) (fun _ _ _ => rfl) (fun i hi => gm 0 i (by omega) (by omega) (by omega) (by omega))) pc (fun a i q1 q2 => by rw [gm a i (by omega) (by omega) (by omega) (by omega)]; exact pm a i q1 q2) ⟨x1, x2, x3⟩ ⟨by rw [zgI_sI, if_neg (by omega), zgI_sI, if_neg (by omega)]; exact r4, zAr_keep r5 (fun i _ => by rw [zgI_sI, if_neg (by omega), zgI_sI, if_neg (by omega)]), by rw [gm _ _ (by omega) (by omega) (by omega) (by omega)]; exact y3⟩
      ⟨by rw [zgI_sI, if_pos ⟨rfl, rfl⟩]; rfl, zStk_keep (zStk_push r2 (a := s) (v := fTS s) rfl) (fun i _ => by rw [zgI_sI, if_neg (by omega)]), fun t ht => by
        rcases List.mem_cons.mp ht with q | q
        · omega
        · exact s3 t (List.mem_append_right _ q)⟩ (by show _ ≤ _ + (S.length + 1); omega) (by show _ + (S.length + 1) + 3 ≤ _; omega) (by rw [gm _ _ (by omega) (by omega) (by omega) (by omega)]; exact l3)
    have hst1 := (zTk_st a3'.1).1
    rw [a2', zbd_s] at hR
    have hxx : x = fX8_takesE_28 k (nI br) (nI nt) 1 m2 := by rw [h9, hR]
    have hzs : znt (s :: S) = nt := by rw [znt, if_neg (by omega)]; exact hz
    have hf2 : zgI m2 12 br = (if zrk2 s = 3 then 1 else if zrk2 s < 3 then 0 else if zgI m 12 br = 0 then 0 else 1) := by rw [a5', gf]
    obtain ⟨c2, g1', g2'⟩ := hF (L + 1) br nt c1 m2 st1 en1 κ1 bad1 (X ++ Z) (s :: S) k (by omega) hbr hnt (by omega) a3' hzs (Or.inr ⟨by omega, by omega⟩) (fun z => by rw [hf2, if_neg (by omega), if_pos (by omega)]) (by omega)
    rw [ej, zbd2_s, if_neg z10, zbd_s, t1, zld (i := st) (by omega) (by omega), zbd_s, (hb.2.2.2 st (by omega)).1, eB, fTC_neg s hs, a1', zbd_s, nI_1, g1', zbd_s]
    rw [← hxx] at g2'
    rcases g2' with g2' | ⟨m3, st3, en3, κ3, Z2, Y3, D3, k3, b1, b2, b3, b4, b5, b6, b7, b8, b9, b10⟩
    · obtain ⟨c3, w1, w2⟩ := w_failW g2' (fTC s)
      rw [w1, zbd_s, zbd_s, nI_1]
      exact ⟨c3, rfl, Or.inl w2⟩
    · obtain ⟨btk, bpc, bpm, ⟨bx1, bx2, bx3⟩, by_, bs, bl1, bl2, bl3⟩ := id b1
      have hst3 := (zTk_st btk).1
      have hw := c_write (c := c2) (n := (X ++ Z ++ Z2).length) (by omega) bx1 (fTC s)
      rw [hw, zbd_s, zbd_s, nI_1]
      have eX : X ++ (Z ++ (Z2 ++ [s])) = X ++ Z ++ Z2 ++ [s] := by simp
      have eD : D3 ++ [s] ++ S = D3 ++ s :: S := by simp
      refine ⟨_, rfl, Or.inr ⟨st3, by omega, m3, en3, κ3, Z ++ (Z2 ++ [s]), Y3, D3 ++ [s], k3, ⟨?_, zPc_s (zPc_8 bpc _ _) (by omega) _, bpm, ⟨?_, ?_, ?_⟩, by_, by rw [eD]; exact bs, ?_, by rw [eD]; exact bl2, ?_⟩, ?_, zWF_two h3 b3 hs, by omega, fun t ht => ?_, b6, fun b hb' => ?_, fun z => ?_, b9, b10, fun z => ?_⟩⟩
      · have gc : ∀ i, i ≤ 7 → zgI (zsI (zsI c2 38 (X ++ Z ++ Z2).length (fTC s)) 36 8 (nI ((X ++ Z ++ Z2).length + 1))) 36 i = zgI c2 36 i := fun i hi => by rw [zgI_sI, if_neg (by omega), zgI_sI, if_neg (by omega)]
        unfold zTk at btk ⊢
        rw [gc 3 (by omega), gc 4 (by omega), gc 5 (by omega), gc 6 (by omega)]
        exact btk
      · rw [zgI_sI, if_pos ⟨rfl, rfl⟩, eX, List.length_append (bs := [s])]; rfl
      · rw [eX]
        exact zAr_keep (zAr_push bx2 (a := s) (v := fTC s) rfl) (fun i _ => by rw [zgI_sI, if_neg (by omega)])
      · rw [zgI_sI, if_neg (by omega), zgI_sI, if_neg (by omega)]; exact bx3
      · have q1 : (X ++ Z ++ Z2).length = Y3.length + D3.length := by rw [b2, List.length_append]
        have q2 : (D3 ++ [s] ++ S).length = D3.length + 1 + S.length := by simp; omega
        rw [eX, q2, List.length_append (bs := [s]), q1]; show _ + 1 ≤ _; omega
      · rw [zgI_sI, if_neg (by omega), zgI_sI, if_neg (by omega)]; exact bl3
      · rw [eX, b2]; simp
      · rcases List.mem_append.mp ht with q | q
        · have := b5 t q; omega
        · rw [List.mem_singleton.mp q]; omega
      · rw [b7 b hb', a5', gm _ _ (by omega) (by omega) (by omega) (by omega), h7 b hb']
      · rw [b8 (by omega), hf2, if_neg (by omega), if_neg (by omega)]
        rw [← h8 z]
        by_cases w : zgI m 12 br = 0
        · rw [if_pos w]; exact ⟨fun _ => w, fun _ => rfl⟩
        · rw [if_neg w]; exact ⟨fun y => absurd y z10, fun y => absurd y w⟩
      · rw [b8 (by omega), hf2, if_pos (by omega)]; exact z10
  · left
    rw [ej, zbd2_s, if_pos rfl]
    refine ⟨c, rfl, m, st, en, κ, Z, Y, D, k, h1, h2, h3, h4, h5, fun s hs e3 eB => ?_, h7, h8, h9, h10⟩
    rcases h6 s hs e3 eB with q | q
    · left
      have := ej1 s hs e3 eB
      omega
    · exact Or.inr q
