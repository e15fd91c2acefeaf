/-! ===== hurt, told, drill, fee, fine, passes ===== -/
theorem zSc_L {c c1 : zz_W} (h : zSc c c1) (a i : Nat) : zgL c1 a i = zgL c a i := by show c1.2.1 a i = c.2.1 a i; rw [h.2]
theorem zSc_R {c c1 : zz_W} (h : zSc c c1) (a i : Nat) : zgR c1 a i = zgR c a i := by show c1.2.2.1 a i = c.2.2.1 a i; rw [h.2]
theorem zRel_S {c m c1 m1 : zz_W} (h : zRel c m) (hc : zSc c c1) (hm : zSm m m1) : zRel c1 m1 :=
  zRel_scr h ⟨fun a i hh => hc.1 a i (by omega), fun i => zSc_L hc _ _, fun i => zSc_R hc _ _, by rw [hc.2]⟩ (fun a i _ _ => hc.1 a i (by omega)) (fun i => zSc_L hc _ _) (fun i => zSc_R hc _ _) (fun a i hh => hm a i (by omega)) (fun i => hm 1 i (by omega)) (fun q => zok2_R q (congrArg Prod.snd hc.2))
theorem zWP_S {n : Nat} {c m c1 m1 : zz_W} (h : zWP 1 n c m c m) (hc : zSc c c1) (hm : zSm m m1) : zWP 1 n c1 m1 c1 m1 :=
  ⟨zWal_move h.1 h.1.W (fun i _ _ => hc.1 _ i (by omega)) (fun i _ => hc.1 _ i (by omega)) (fun i _ => hc.1 _ i (by omega)) (fun i _ => hc.1 _ i (by omega)) (fun i _ => hc.1 _ i (by omega)) (fun i _ => hc.1 _ i (by omega)) (fun i _ => zSc_L hc _ _) (fun i _ => hc.1 _ i (by omega)) (fun i _ => hm 1 i (by omega)),
    zPos_of h.2 (fun r _ => hm 1 _ (by omega))⟩
def zhk (k p : Int32) : Int32 := if k = 1 then 2 * p else if k = 2 then p + 9 else if k = 3 then 2 * p + 1 else if k = 4 then p + 7 else if k = 5 then 1 else p
theorem zhk_nI {k p : Nat} (hk : k < 6) (hp : p ≤ 99) : ∃ v, v ≤ 199 ∧ zhk (nI k) (nI p) = nI v := by
  have e2 : (2 : Int32) * nI p = nI (2 * p) := pk_mul 2 p
  rcases (show k = 0 ∨ k = 1 ∨ k = 2 ∨ k = 3 ∨ k = 4 ∨ k = 5 by omega) with rfl | rfl | rfl | rfl | rfl | rfl
  · exact ⟨p, by omega, rfl⟩
  · exact ⟨2 * p, by omega, e2⟩
  · exact ⟨p + 9, by omega, nI_add p 9⟩
  · exact ⟨2 * p + 1, by omega, by show 2 * nI p + 1 = _; rw [e2]; exact nI_add _ 1⟩
  · exact ⟨p + 7, by omega, nI_add p 7⟩
  · exact ⟨1, by omega, rfl⟩
theorem c_hk (k : Int32) {p : Nat} (hp : p ≤ 99) (w : zz_W) : fX0_hurtOf k (nI p) w = some (zhk k (nI p), w) := by
  have e : zmax 0 (nI p + 7) = nI p + 7 := by
    rw [show nI p + 7 = nI (p + 7) from nI_add p 7]
    exact if_pos (show (0 : Int32) < nI (p + 7) from nI_lt (a := 0) (by omega) (by omega))
  unfold fX0_hurtOf zhk
  simp only [zite_some, e]
theorem m_hk {r : Nat} (hr : r < 10) (a p : Int32) (w : zz_W) : fX8_hurtBy_66 a (nI r) p w = some (zhk (zgI w 1 (14 + 5 * r)) p, w) := by
  unfold fX8_hurtBy_66 zhk
  simp only [m_of0 hr, zbd2_e, zite_some]
theorem m_f0 (m : zz_W) (v : Int32) : zstI m 14 4 0 v = some (zsI m 14 0 v) := zst (i := 0) (by decide) (by decide)
theorem m_f1 (m : zz_W) (v : Int32) : zstI m 14 4 1 v = some (zsI m 14 1 v) := zst (i := 1) (by decide) (by decide)
theorem m_f2 (m : zz_W) (v : Int32) : zstI m 14 4 2 v = some (zsI m 14 2 v) := zst (i := 2) (by decide) (by decide)
theorem w_hurt {n : Nat} {c m : zz_W} (h : zRel c m) (hw : zWal 1 n c m c m) {r : Nat} (hr : r < n) : ∃ v c1 m1, v ≤ 199 ∧ fX6_hurtOf 1 (nI r) c = some (nI v, c1) ∧ fX8_hurtBy (nI r) m = some (nI v, m1) ∧ zSc c c1 ∧ zSm m m1 := by
  have hn10 := hw.hn
  obtain ⟨_, _, _, _, tx⟩ := h.1
  obtain ⟨d, hd1, hd9, ed⟩ := hw.rd r hr
  obtain ⟨kd, hkd, ek⟩ := hw.rk r hr
  have k4 : zgI c (1 + 4) r = zgI m 1 (17 + 5 * r) := hw.cd r hr
  have k3 : zgI c (1 + 3) r = zgI m 1 (16 + 5 * r) := hw.cl r hr
  have k1 : zgI c (1 + 1) r = zgI m 1 (14 + 5 * r) := hw.ck r hr
  have hg : ∀ (x y z : Int32) (a i : Nat), ¬ a = 14 → zgI (zsI (zsI (zsI m 14 0 x) 14 1 y) 14 2 z) a i = zgI m a i := fun x y z a i hh => by rw [zgI_sI, if_neg (by omega), zgI_sI, if_neg (by omega), zgI_sI, if_neg (by omega)]
  have hM : fX8_hurtBy (nI r) m = (if 0 ≤ zgI c (1 + 9) 0 then
      (zbd2 (fX8_worksOut (zgI c (1 + 9) 0) (zsI (zsI (zsI m 14 0 (zgI m 1 (17 + 5 * r))) 14 1 (zgI m 1 4)) 14 2 (zgI m 1 (16 + 5 * r)))) fun x43 w44 => zbd2 (fX8_within x43 0 99 w44) fun x45 w46 => fX8_hurtBy_66 (nI r) (nI r) x45 w46)
      else some (zhk (nI kd) (nI d), zsI (zsI (zsI m 14 0 (zgI m 1 (17 + 5 * r))) 14 1 (zgI m 1 4)) 14 2 (zgI m 1 (16 + 5 * r)))) := by
    unfold fX8_hurtBy
    rw [show fX8_counts 0 m = some (zgI c (1 + 9) 0, m) from m_counts tx (show 0 < 3 by omega), zbd2_s, m_of3 (by omega), zbd2_s, m_f0, zbd_s, m_l4, zbd_s, m_f1, zbd_s, m_of2 (by omega), zbd2_s, m_f2, zbd_s, m_of3 (by omega), zbd2_s, m_hk (by omega)]
    have x1 : zgI (zsI m 14 0 (zgI m 1 (17 + 5 * r))) 1 4 = zgI m 1 4 := by rw [zgI_sI, if_neg (by omega)]
    rw [x1]
    have x2 : zgI (zsI (zsI m 14 0 (zgI m 1 (17 + 5 * r))) 14 1 (zgI m 1 4)) 1 (16 + 5 * r) = zgI m 1 (16 + 5 * r) := by rw [zgI_sI, if_neg (by omega), zgI_sI, if_neg (by omega)]
    rw [x2, hg _ _ _ 1 (14 + 5 * r) (by omega), hg _ _ _ 1 (17 + 5 * r) (by omega), ed, ek]
  have sm0 : zSm m (zsI (zsI (zsI m 14 0 (zgI m 1 (17 + 5 * r))) 14 1 (zgI m 1 4)) 14 2 (zgI m 1 (16 + 5 * r))) := fun a i hh => hg _ _ _ a i (by omega)
  have hC : fX6_hurtOf 1 (nI r) c = (zbd2 (fX6_lawOr 1 (zgI m 1 (17 + 5 * r)) (nI 0) (zgI m 1 (17 + 5 * r)) (zgI m 1 4) (zgI m 1 (16 + 5 * r)) c) fun x16 w17 =>
      zbd (zldI w17 (1 + 1) 10 (nI r)) fun x18 => zbd2 (fX7_held x16 0 99 w17) fun x19 w20 => zbd2 (fX0_hurtOf x18 x19 w20) fun x21 w22 => some (x21, w22)) := by
    unfold fX6_hurtOf
    rw [zgrd_h _ hw.W, zld (i := r) (by omega) (by omega), zbd_s, zbd_s, zbd_s, zld (i := r) (by omega) (by omega), zbd_s, k4, k3, show zgI c 1 12 = zgI m 1 4 from hw.cm]
    rfl
  have law := w_law (b := 1) (m1 := zsI (zsI (zsI m 14 0 (zgI m 1 (17 + 5 * r))) 14 1 (zgI m 1 4)) 14 2 (zgI m 1 (16 + 5 * r))) hw.W tx (show 0 < 3 by omega) (zgI m 1 (17 + 5 * r)) (zgI m 1 (17 + 5 * r)) (zgI m 1 4) (zgI m 1 (16 + 5 * r)) (fun i => hg _ _ _ 1 i (by omega))
    (by rw [zgI_sI, if_neg (by omega), zgI_sI, if_neg (by omega), zgI_sI, if_pos ⟨rfl, rfl⟩]) (by rw [zgI_sI, if_neg (by omega), zgI_sI, if_pos ⟨rfl, rfl⟩]) (fun _ => by rw [zgI_sI, if_pos ⟨rfl, rfl⟩])
  rw [hC, hM]
  rcases law with ⟨l1, l2⟩ | ⟨l1, v, c2, m2, l2, l3, l4, l5⟩
  · obtain ⟨v, hv, ev⟩ := zhk_nI hkd (show d ≤ 99 by omega)
    have eh : zmax 0 (zmin 99 (nI d)) = nI d := by
      unfold zmax zmin
      rw [if_pos (show nI d < 99 from nI_lt (b := 99) (by omega) (by omega)), if_pos (show (0 : Int32) < nI d from nI_lt (a := 0) (by omega) (by omega))]
    refine ⟨v, c, _, hv, ?_, ?_, zSc_rfl c, sm0⟩
    · rw [l2, zbd2_s, zld (i := r) (by omega) (by omega), zbd_s]
      unfold fX7_held
      rw [zbd2_s, ed, eh, c_hk _ (show d ≤ 99 by omega), zbd2_s, k1, ek, ev]
    · rw [l1, if_neg (show ¬ (0 : Int32) ≤ -1 by decide), ev]
  · obtain ⟨p, _, hp, e1, e2⟩ := zheld v (lo := 0) (hi := 99) (by omega) (by omega)
    obtain ⟨u, hu, eu⟩ := zhk_nI hkd hp
    refine ⟨u, c2, m2, hu, ?_, ?_, l4, fun a i hh => by rw [l5 a i (by omega)]; exact sm0 a i hh⟩
    · rw [l2, zbd2_s, zld (i := r) (by omega) (by omega), zbd_s]
      unfold fX7_held
      rw [zbd2_s, show zmax 0 (zmin 99 v) = nI p from e1, c_hk _ hp, zbd2_s, l4.1 (1 + 1) r (by omega), k1, ek, eu]
    · rw [if_pos l1, l3, zbd2_s, m_within, zbd2_s, show zwt v 0 99 = nI p from e2, m_hk (by omega), l5 1 _ (by omega), hg _ _ _ 1 _ (by omega), ek, eu]
noncomputable def zbc (x : Int64) : Int32 := ((fJ13_bitCount_95d88 x zd).getD (0, zd)).1
theorem c_bits (x : Int64) (w : zz_W) : fJ13_bitCount_95d88 x w = some (zbc x, w) := rfl
def zmc (kd c0 : Int32) : Nat → Int32 → Int32 → Int32
  | 0, l2, _ => l2
  | d + 1, l2, l3 => zmc kd c0 d (if zp kd c0 l3 = 0 then l2 + 0 else l2 + 1) (l3 + 1)
theorem zbc_zmc : ∀ k, k < 6 → ∀ q, q < 36 → zbc (zways (nI k) (nI q)) = zmc (nI k) (nI q) 36 0 0 := by decide +kernel
theorem m_many {r : Nat} (hr : r < 10) (p : Int32) (m : zz_W) : ∀ d j k l, j + d = 36 → d < k → fX8_manyPassed_4 p k (nI r) l (nI j) m = some (zmc (zgI m 1 (14 + 5 * r)) (zgI m 1 (15 + 5 * r)) d l (nI j), m) := by
  intro d
  induction d with
  | zero =>
    intro j k l hj hk
    obtain ⟨k, rfl⟩ : ∃ x, k = x + 1 := ⟨k - 1, by omega⟩
    rw [fX8_manyPassed_4, if_pos (show (36 : Int32) ≤ nI j from nI_le (a := 36) (by omega) (by omega))]
    rfl
  | succ d ih =>
    intro j k l hj hk
    obtain ⟨k, rfl⟩ : ∃ x, k = x + 1 := ⟨k - 1, by omega⟩
    rw [fX8_manyPassed_4, if_neg (show ¬ (36 : Int32) ≤ nI j from nI_ge (b := 36) (by omega) (by omega)), m_pass hr, zbd2_s]
    simp only [zbd_e, nI_1]
    rw [zmc, nI_1]
    split
    · exact ih (j + 1) k _ (by omega) (by omega)
    · exact ih (j + 1) k _ (by omega) (by omega)
theorem s_told (a1 a2 : Int32) : zSIM (fX7_told a1 a2) (fX8_told a1 a2) := by
  intro c m h
  have hf := zfuel_big
  obtain ⟨n, hw, hp⟩ := zR1 h
  have hn10 := hw.hn
  unfold fX7_told fX8_told
  rw [c_isRun hw, m_isRun hw, zbd2_s, zbd2_s]
  rcases zwi_run a1 n (by omega) with e | ⟨e, r, hr, rfl⟩
  · rw [e, if_pos rfl, if_pos rfl]; exact zret _ h
  rw [e, if_neg z10, if_neg z10]
  have k1 : zgI c (1 + 1) r = zgI m 1 (14 + 5 * r) := hw.ck r hr
  have k2 : zgI c (1 + 2) r = zgI m 1 (15 + 5 * r) := hw.cc r hr
  have k3 : zgI c (1 + 3) r = zgI m 1 (16 + 5 * r) := hw.cl r hr
  have k4 : zgI c (1 + 4) r = zgI m 1 (17 + 5 * r) := hw.cd r hr
  have k5 : zgI c (1 + 5) r = zgI m 1 (18 + 5 * r) := hw.co r hr
  by_cases e0 : a2 = 0
  · subst e0
    rw [if_pos rfl, if_pos rfl, zld (i := r) (by omega) (by omega), zbd_s, m_of0 (by omega), zbd2_s, k1]; exact zret _ h
  rw [if_neg e0, if_neg e0]
  by_cases e1 : a2 = 1
  · subst e1
    rw [if_pos rfl, if_pos rfl, zld (i := r) (by omega) (by omega), zbd_s, m_of1 (by omega), zbd2_s, k2]; exact zret _ h
  rw [if_neg e1, if_neg e1]
  by_cases e2 : a2 = 2
  · subst e2
    rw [if_pos rfl, if_pos rfl, zld (i := r) (by omega) (by omega), zbd_s, m_of2 (by omega), zbd2_s, k3]; exact zret _ h
  rw [if_neg e2, if_neg e2]
  by_cases e3 : a2 = 3
  · subst e3
    rw [if_pos rfl, if_pos rfl, zld (i := r) (by omega) (by omega), zbd_s, m_of3 (by omega), zbd2_s, k4]; exact zret _ h
  rw [if_neg e3, if_neg e3]
  by_cases e4 : a2 = 4
  · subst e4
    rw [if_pos rfl, if_pos rfl, zld (i := r) (by omega) (by omega), zbd_s, m_of4 (by omega), zbd2_s, k5]; exact zret _ h
  rw [if_neg e4, if_neg e4]
  by_cases e5 : a2 = 5
  · obtain ⟨v, c1, m1, _, r1, r2, r3, r4⟩ := w_hurt h hw hr
    rw [if_pos e5, if_pos e5, r1, r2, zbd2_s, zbd2_s]
    exact ⟨_, _, _, rfl, rfl, zRel_S h r3 r4⟩
  rw [if_neg e5, if_neg e5]
  by_cases e6 : a2 = 6
  · obtain ⟨k, hk, ek⟩ := hw.rk r hr
    obtain ⟨q, hq, eq⟩ := hw.rc r hr
    have mm := m_many (r := r) (by omega) (nI r) m 36 0 zfuel 0 (by omega) (by omega)
    rw [if_pos e6, if_pos e6, zldLn (i := r) (by omega) (by omega), zbd_s, c_bits, zbd2_s]
    unfold fX8_manyPassed
    rw [show fX8_manyPassed_4 (nI r) zfuel (nI r) 0 0 m = _ from mm, zbd2_s, show zgL c (1 + 6) r = _ from hw.cw r hr, ek, eq, zbc_zmc k hk q hq]
    exact zret _ h
  rw [if_neg e6, if_neg e6]
  by_cases e7 : a2 = 7
  · rw [if_pos e7, if_pos e7, zld (i := r) (by omega) (by omega), zbd_s, zld (i := r) (by omega) (by omega), zbd_s, c_worth, zbd2_s, m_worth (by omega), zbd2_s, k1, k4]
    exact zret _ h
  rw [if_neg e7, if_neg e7]
  exact zret _ h
theorem s_drill (a1 a2 : Int32) : zSIM (fX7_drill a1 a2) (fX8_drill a1 a2) := by
  intro c m h
  obtain ⟨n, hw, hp⟩ := zR1 h
  have hn10 := hw.hn
  unfold fX7_drill fX8_drill
  simp only [c_isCell, m_isCell, c_isDepth, m_in, zbd2_e, c_isBuilt hw, m_l12, zbd_e]
  rcases zwi_lit a1 0 35 (by omega) (by omega) with e | ⟨e, x, _, hx, rfl⟩
  · rw [show zwi a1 0 35 = 0 from e, if_pos rfl, if_pos rfl]; exact zret _ h
  rw [show zwi (nI x) 0 35 = 1 from e, if_neg z10, if_neg z10]
  rcases zwi_01 a2 1 9 with e2 | e2
  · rw [e2, if_pos rfl, if_pos rfl]; exact zret _ h
  rw [e2, if_neg z10, if_neg z10]
  rcases w_built hw with ⟨b1, b2⟩ | ⟨b1, b2, r, hr, et⟩
  · rw [b1, if_pos rfl, if_neg b2]; exact zret _ h
  rw [b1, if_neg z10, if_pos b2, et]
  have t2 : zgI c (1 + 7) 2 = zgI m 1 7 := hw.ct 2 (by decide)
  have hw1 := zWal_y hw (show 2 < 7 by omega) (zgI m 1 7 + 1)
  have hp1 : zPos n (zsI m 1 (5 + 2) (zgI m 1 7 + 1)) := zPos_of hp (fun r hr => by rw [zgI_sI, if_neg (by omega)])
  have h1 := zRel_wal h hw1 hp1
  have hs1 := zWal_self hw1
  rw [m_l7, zbd_s, m_t7, zbd_s, m_pass (by omega), zbd2_s]
  rw [show (zsI m 1 7 (zgI m 1 7 + 1)) = (zsI m 1 (5 + 2) (zgI m 1 7 + 1)) from rfl]
  obtain ⟨v, c2, m2, hv, r1, r2, r3, r4⟩ := w_hurt h1 hs1 hr
  have et1 : zgI (zsI m 1 (5 + 2) (zgI m 1 7 + 1)) 1 12 = nI r := by rw [zgI_sI, if_neg (by omega)]; exact et
  obtain ⟨L, y1, y2⟩ := w_pass hs1 (r := r) (x := x) hr (by omega)
  unfold fX6_drillAt
  rw [zgrd_h _ hw.W, c_l2, zbd_s, c_t2, zbd_s, t2, zbd_s, hs1.ctr, et1, y1, zbd_s, y2, zbd2_s]
  rcases zp_01 (zgI (zsI m 1 (5 + 2) (zgI m 1 7 + 1)) 1 (14 + 5 * r)) (zgI (zsI m 1 (5 + 2) (zgI m 1 7 + 1)) 1 (15 + 5 * r)) (nI x) with q | q
  · rw [q, if_pos rfl, if_pos rfl]
    exact ⟨_, _, _, rfl, rfl, h1⟩
  rw [q, if_neg z10, if_neg z10, m_of3 (by omega), zbd_s, hs1.ctr, et1, zld (i := r) (by omega) (by omega), zbd_s, hs1.cd r hr]
  by_cases q2 : zgI (zsI m 1 (5 + 2) (zgI m 1 7 + 1)) 1 (17 + 5 * r) ≤ a2
  · rw [if_pos q2, zbd_s, r1, zbd2_s]
    have h2 := zRel_S h1 r3 r4
    have hw2 := zWP_S ⟨hs1, hp1⟩ r3 r4
    have t1 : zgI c2 (1 + 7) 1 = zgI m2 1 6 := hw2.1.ct 1 (by decide)
    have hw3 := zWal_y hw2.1 (show 1 < 7 by omega) (zgI m2 1 6 + 1)
    have t0 : zgI (zsI c2 (1 + 7) 1 (zgI m2 1 6 + 1)) (1 + 7) 0 = zgI (zsI m2 1 6 (zgI m2 1 6 + 1)) 1 5 := hw3.ct 0 (by decide)
    have hw4 := zWal_y hw3 (show 0 < 7 by omega) (zgI (zsI m2 1 6 (zgI m2 1 6 + 1)) 1 5 + nI v)
    rw [c_l1, zbd_s, c_t1, zbd_s, c_l0, zbd_s, c_t0, zbd_s, t1, t0, zbd2_s, zbd2_s, if_pos q2, r2, zbd2_s, m_l6, zbd_s, m_t6, zbd_s, m_l5, zbd_s, m_t5, zbd_s]
    exact ⟨_, _, _, rfl, rfl, zRel_wal h2 hw4 (zPos_of hw2.2 (fun r hr => by rw [zgI_sI, if_neg (by omega), zgI_sI, if_neg (by omega)]))⟩
  · rw [if_neg q2, zbd2_s, zbd2_s, if_neg q2]
    exact ⟨_, _, _, rfl, rfl, h1⟩
theorem zS_ff {m m2 : zz_W} {x y : Int32} (l : ∀ a i, ¬ a = 13 → zgI m2 a i = zgI (zsI (zsI m 14 0 x) 14 1 y) a i) : zSm m m2 := fun a i hh => by rw [l a i (by omega), zgI_sI, if_neg (by omega), zgI_sI, if_neg (by omega)]
theorem zS_f0 {m : zz_W} {x y : Int32} : zSm m (zsI (zsI m 14 0 x) 14 1 y) := fun a i hh => by rw [zgI_sI, if_neg (by omega), zgI_sI, if_neg (by omega)]
theorem s_fee : zSIM fX7_fee fX8_fee := by
  intro c m h
  obtain ⟨n, hw, hp⟩ := zR1 h
  obtain ⟨_, _, _, _, tx⟩ := h.1
  have t0 : zgI c (1 + 7) 0 = zgI m 1 5 := hw.ct 0 (by decide)
  have t3 : zgI c (1 + 7) 3 = zgI m 1 8 := hw.ct 3 (by decide)
  have x1 : zgI (zsI m 14 0 (zgI m 1 5)) 1 8 = zgI m 1 8 := by rw [zgI_sI, if_neg (by omega)]
  have x2 : zgI (zsI (zsI m 14 0 (zgI m 1 5)) 14 1 (zgI m 1 8)) 1 5 = zgI m 1 5 := by rw [zgI_sI, if_neg (by omega), zgI_sI, if_neg (by omega)]
  unfold fX7_fee fX8_fee
  rw [c_l0, zbd_s, zbd_s, c_l3, zbd_s, t0, t3, show fX8_counts 1 m = some (zgI c (1 + 9) 1, m) from m_counts tx (show 1 < 3 by omega), zbd2_s, m_l5, zbd_s, m_f0, zbd_s, m_l8, zbd_s, m_f1, zbd_s, x1, m_l5, zbd_s, x2]
  rcases w_law (b := 1) (m1 := zsI (zsI m 14 0 (zgI m 1 5)) 14 1 (zgI m 1 8)) hw.W tx (show 1 < 3 by omega) (zgI m 1 5) (zgI m 1 5) (zgI m 1 8) 0 (fun i => by rw [zgI_sI, if_neg (by omega), zgI_sI, if_neg (by omega)])
    (by rw [zgI_sI, if_neg (by omega), zgI_sI, if_pos ⟨rfl, rfl⟩]) (by rw [zgI_sI, if_pos ⟨rfl, rfl⟩]) (fun z => absurd z (by omega)) with ⟨l1, l2⟩ | ⟨l1, v, c2, m2, l2, l3, l4, l5⟩
  · rw [show fX6_lawOr 1 (zgI m 1 5) 1 (zgI m 1 5) (zgI m 1 8) 0 c = _ from l2, zbd2_s, l1, if_neg (show ¬ (0 : Int32) ≤ -1 by decide)]
    exact ⟨_, _, _, rfl, rfl, zRel_S h (zSc_rfl c) zS_f0⟩
  · rw [show fX6_lawOr 1 (zgI m 1 5) 1 (zgI m 1 5) (zgI m 1 8) 0 c = _ from l2, zbd2_s, if_pos l1, l3, zbd2_s]
    exact ⟨_, _, _, rfl, rfl, zRel_S h l4 (zS_ff l5)⟩
theorem s_fine (a1 : Int32) : zSIM (fX7_fine a1) (fX8_fine a1) := by
  intro c m h
  obtain ⟨n, hw, hp⟩ := zR1 h
  have hn10 := hw.hn
  obtain ⟨_, _, _, _, tx⟩ := h.1
  unfold fX7_fine fX8_fine
  rw [c_isRun hw, m_isRun hw, zbd2_s, zbd2_s]
  rcases zwi_run a1 n (by omega) with e | ⟨e, r, hr, rfl⟩
  · rw [e, if_pos rfl, if_pos rfl]; exact zret _ h
  rw [e, if_neg z10, if_neg z10]
  have k4 : zgI c (1 + 4) r = zgI m 1 (17 + 5 * r) := hw.cd r hr
  have k5 : zgI c (1 + 5) r = zgI m 1 (18 + 5 * r) := hw.co r hr
  have x1 : zgI (zsI m 14 0 (zgI m 1 (18 + 5 * r))) 1 (17 + 5 * r) = zgI m 1 (17 + 5 * r) := by rw [zgI_sI, if_neg (by omega)]
  have x2 : zgI (zsI (zsI m 14 0 (zgI m 1 (18 + 5 * r))) 14 1 (zgI m 1 (17 + 5 * r))) 1 (18 + 5 * r) = zgI m 1 (18 + 5 * r) := by rw [zgI_sI, if_neg (by omega), zgI_sI, if_neg (by omega)]
  rw [zld (i := r) (by omega) (by omega), zbd_s, zbd_s, zld (i := r) (by omega) (by omega), zbd_s, k4, k5, show fX8_counts 2 m = some (zgI c (1 + 9) 2, m) from m_counts tx (show 2 < 3 by omega), zbd2_s, m_of4 (by omega), zbd2_s, m_f0, zbd_s, m_of3 (by omega), zbd2_s, m_f1, zbd_s, x1, m_of4 (by omega), zbd2_s, x2]
  rcases w_law (b := 1) (m1 := zsI (zsI m 14 0 (zgI m 1 (18 + 5 * r))) 14 1 (zgI m 1 (17 + 5 * r))) hw.W tx (show 2 < 3 by omega) (zgI m 1 (18 + 5 * r)) (zgI m 1 (18 + 5 * r)) (zgI m 1 (17 + 5 * r)) 0 (fun i => by rw [zgI_sI, if_neg (by omega), zgI_sI, if_neg (by omega)])
    (by rw [zgI_sI, if_neg (by omega), zgI_sI, if_pos ⟨rfl, rfl⟩]) (by rw [zgI_sI, if_pos ⟨rfl, rfl⟩]) (fun z => absurd z (by omega)) with ⟨l1, l2⟩ | ⟨l1, v, c2, m2, l2, l3, l4, l5⟩
  · rw [show fX6_lawOr 1 (zgI m 1 (18 + 5 * r)) 2 (zgI m 1 (18 + 5 * r)) (zgI m 1 (17 + 5 * r)) 0 c = _ from l2, zbd2_s, l1, if_neg (show ¬ (0 : Int32) ≤ -1 by decide)]
    exact ⟨_, _, _, rfl, rfl, zRel_S h (zSc_rfl c) zS_f0⟩
  · rw [show fX6_lawOr 1 (zgI m 1 (18 + 5 * r)) 2 (zgI m 1 (18 + 5 * r)) (zgI m 1 (17 + 5 * r)) 0 c = _ from l2, zbd2_s, if_pos l1, l3, zbd2_s]
    exact ⟨_, _, _, rfl, rfl, zRel_S h l4 (zS_ff l5)⟩
noncomputable def zcol (x : Int64) (row : Int32) : Int32 := ((fX0_columnsIn x row zd).getD (0, zd)).1
theorem c_cols (x : Int64) (row : Int32) (w : zz_W) : fX0_columnsIn x row w = some (zcol x row, w) := rfl
def zmr (kd c0 row : Int32) : Nat → Int32 → Int32 → Int32
  | 0, l3, _ => l3
  | d + 1, l3, l4 => zmr kd c0 row d (if zp kd c0 (6 * row + l4) = 0 then l3 ||| 0 else l3 ||| (1 <<< (l4 &&& 31))) (l4 + 1)
theorem zcol_zmr : ∀ k, k < 6 → ∀ q, q < 36 → ∀ w, w < 6 → zcol (zways (nI k) (nI q)) (nI w) = zmr (nI k) (nI q) (nI w) 6 0 0 := by decide +kernel
theorem m_cols {r : Nat} (hr : r < 10) (p p' row : Int32) (m : zz_W) : ∀ d j k l, j + d = 6 → d < k → fX8_passes_25 p p' k (nI r) row l (nI j) m = some (zmr (zgI m 1 (14 + 5 * r)) (zgI m 1 (15 + 5 * r)) row d l (nI j), m) := by
  intro d
  induction d with
  | zero =>
    intro j k l hj hk
    obtain ⟨k, rfl⟩ : ∃ x, k = x + 1 := ⟨k - 1, by omega⟩
    rw [fX8_passes_25, if_pos (show (6 : Int32) ≤ nI j from nI_le (a := 6) (by omega) (by omega))]
    rfl
  | succ d ih =>
    intro j k l hj hk
    obtain ⟨k, rfl⟩ : ∃ x, k = x + 1 := ⟨k - 1, by omega⟩
    rw [fX8_passes_25, if_neg (show ¬ (6 : Int32) ≤ nI j from nI_ge (b := 6) (by omega) (by omega)), m_pass hr, zbd2_s]
    simp only [zbd_e, nI_1]
    rw [zmr, nI_1]
    split
    · exact ih (j + 1) k _ (by omega) (by omega)
    · exact ih (j + 1) k _ (by omega) (by omega)
theorem s_passes (a1 a2 : Int32) : zSIM (fX7_passes a1 a2) (fX8_passes a1 a2) := by
  intro c m h
  have hf := zfuel_big
  obtain ⟨n, hw, hp⟩ := zR1 h
  have hn10 := hw.hn
  unfold fX7_passes fX8_passes
  simp only [c_isRun hw, m_isRun hw, zbd2_e, c_within, m_in]
  rcases zwi_run a1 n (by omega) with e | ⟨e, r, hr, rfl⟩
  · rw [e, if_pos rfl, if_pos rfl]; exact zret _ h
  rw [e, if_neg z10, if_neg z10]
  rcases zwi_lit a2 0 5 (by omega) (by omega) with e2 | ⟨e2, x, _, hx, rfl⟩
  · rw [show zwi a2 0 5 = 0 from e2, if_pos rfl, if_pos rfl]; exact zret _ h
  rw [show zwi (nI x) 0 5 = 1 from e2, if_neg z10, if_neg z10]
  obtain ⟨k, hk, ek⟩ := hw.rk r hr
  obtain ⟨q, hq, eq⟩ := hw.rc r hr
  have mm := m_cols (r := r) (by omega) (nI r) (nI x) (nI x) m 6 0 zfuel 0 (by omega) (by omega)
  rw [show fX8_passes_25 (nI r) (nI x) zfuel (nI r) (nI x) 0 0 m = _ from mm, zldLn (i := r) (by omega) (by omega), zbd_s, c_cols, zbd2_s, show zgL c (1 + 6) r = _ from hw.cw r hr, ek, eq, zcol_zmr k hk q hq x (by omega)]
  exact zret _ h
