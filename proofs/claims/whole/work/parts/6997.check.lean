/-! ===== fits, check ===== -/
theorem w_fits5 {n i s : Nat} {c m : zz_W} (hw : zWal 1 n c m c m) (hi : i < 4) (hs : s ≤ 24) (e1 : zgI c (42 + 2 * i) 2 = nI s) (e2 : zgI m 16 i = nI s) (e3 : ∀ j, j < 24 → zgI c (43 + 2 * i) j = zgI m 17 (24 * i + j)) {r : Nat} (hr : r < n) (p : Int64) (q q' : Int32) :
    ∀ d j k k' l, j + d = s → d < k → d < k' → ∃ v, fX2_placesOn_5 (42 + 2 * i) p k (zgL c (1 + 6) r) l (nI j) c = some (v, c) ∧ fX8_fitsOf_5 q q' k' (nI i) (nI r) l (nI j) m = some (v, m) := by
  have hn10 := hw.hn
  intro d
  induction d with
  | zero =>
    intro j k k' l hj hk hk'
    obtain ⟨k, rfl⟩ : ∃ x, k = x + 1 := ⟨k - 1, by omega⟩
    obtain ⟨k', rfl⟩ : ∃ x, k' = x + 1 := ⟨k' - 1, by omega⟩
    refine ⟨l, ?_, ?_⟩
    · rw [fX2_placesOn_5, zbd_s, e1, if_pos (nI_le (by omega) (by omega))]
    · rw [fX8_fitsOf_5, zld (i := i) (by omega) (by omega), zbd_s, e2, if_pos (nI_le (by omega) (by omega))]
  | succ d ih =>
    intro j k k' l hj hk hk'
    obtain ⟨k, rfl⟩ : ∃ x, k = x + 1 := ⟨k - 1, by omega⟩
    obtain ⟨k', rfl⟩ : ∃ x, k' = x + 1 := ⟨k' - 1, by omega⟩
    have c1 : zldI c (42 + 2 * i + 1) 24 (nI j) = some (zgI m 17 (24 * i + j)) := by
      rw [zld (i := j) (by omega) (by omega), show 42 + 2 * i + 1 = 43 + 2 * i by omega, e3 j (by omega)]
    rw [fX8_fitsOf_5, zld (i := i) (by omega) (by omega), zbd_s, e2, if_neg (nI_ge (by omega) (by omega)), zidx24, zld (i := 24 * i + j) (by omega) (by omega), zbd_s, m_isCell, zbd2_s, fX2_placesOn_5, zbd_s, e1, if_neg (nI_ge (by omega) (by omega)), c1, zbd_s, c_isCell, zbd2_s]
    rcases zwi_lit (zgI m 17 (24 * i + j)) 0 35 (by omega) (by omega) with e | ⟨e, x, _, hx, ex⟩
    · rw [show zwi (zgI m 17 (24 * i + j)) 0 35 = 0 from e, if_pos rfl, if_pos rfl]
      simp only [zbd_e, nI_1, Int32.add_zero]
      exact ih (j + 1) k k' l (by omega) (by omega) (by omega)
    · obtain ⟨L, y1, y2⟩ := w_pass hw (r := r) (x := x) hr (by omega)
      rw [zldLn (i := r) (by omega) (by omega)] at y1
      have := Option.some.inj y1
      rw [show zwi (zgI m 17 (24 * i + j)) 0 35 = 1 from e, if_neg z10, if_neg z10, m_pass (by omega), c1, zbd_s, zbd2_s, this, ex, y2, zbd2_s]
      rw [this] at ih
      rcases zp_01 (zgI m 1 (14 + 5 * r)) (zgI m 1 (15 + 5 * r)) (nI x) with q0 | q0
      · rw [q0, if_pos rfl, if_pos rfl]
        simp only [zbd_e, nI_1, Int32.add_zero]
        exact ih (j + 1) k k' l (by omega) (by omega) (by omega)
      · rw [q0, if_neg z10, if_neg z10]
        simp only [zbd_e, nI_1]
        exact ih (j + 1) k k' _ (by omega) (by omega) (by omega)
theorem w_fitsOf {n i s : Nat} {c m : zz_W} (hw : zWal 1 n c m c m) (hi : i < 4) (hs : s ≤ 24) (e1 : zgI c (42 + 2 * i) 2 = nI s) (e2 : zgI m 16 i = nI s) (e3 : ∀ j, j < 24 → zgI c (43 + 2 * i) j = zgI m 17 (24 * i + j)) :
    ∃ F : Nat → Int32, ∀ r, r < n → fX2_placesOn (42 + 2 * i) (zgL c (1 + 6) r) c = some (F r, c) ∧ fX8_fitsOf (nI i) (nI r) m = some (F r, m) := by
  have hf := zfuel_big
  refine ⟨fun r => ((fX8_fitsOf (nI i) (nI r) m).map Prod.fst).getD 0, fun r hr => ?_⟩
  obtain ⟨v, v1, v2⟩ := w_fits5 hw hi hs e1 e2 e3 hr (zgL c (1 + 6) r) (nI i) (nI r) s 0 zfuel zfuel 0 (by omega) (by omega) (by omega)
  have v2' : fX8_fitsOf (nI i) (nI r) m = some (v, m) := v2
  have v1' : fX2_placesOn (42 + 2 * i) (zgL c (1 + 6) r) c = some (v, c) := by unfold fX2_placesOn; rw [zgrd_h _ (zisS4 i hi)]; exact v1
  simp only [v2', v1']
  exact ⟨rfl, rfl⟩
theorem w_fits72 {n i : Nat} {c m : zz_W} (hw : zWal 1 n c m c m) (hn : 0 < n) (hi : i < 4) {F : Nat → Int32} (hF : ∀ r, r < n → fX2_placesOn (42 + 2 * i) (zgL c (1 + 6) r) c = some (F r, c) ∧ fX8_fitsOf (nI i) (nI r) m = some (F r, m)) (p q p' q' y : Int32) :
    ∀ d j k k' b, j + d = n → d < k → d < k' → b < n → ∃ v, fX7_fits_72 p q k (nI i) y (nI b) (F b) (nI j) c = some (v, c) ∧ fX8_fits_36 p' q' k' (nI i) y (nI b) (nI j) m = some (v, m) := by
  have hn10 := hw.hn
  intro d
  induction d with
  | zero =>
    intro j k k' b hj hk hk' hb
    obtain ⟨k, rfl⟩ : ∃ x, k = x + 1 := ⟨k - 1, by omega⟩
    obtain ⟨k', rfl⟩ : ∃ x, k' = x + 1 := ⟨k' - 1, by omega⟩
    rw [fX7_fits_72, zbd_s, hw.cn, if_pos (nI_le (by omega) (by omega)), fX8_fits_36, m_l1, zbd_s, hw.mn, if_pos (nI_le (by omega) (by omega)), zbd_s, if_neg (nI_ne0 hn (by omega))]
    by_cases e : y = 0
    · rw [if_pos e, if_pos e]; exact ⟨_, rfl, rfl⟩
    · rw [if_neg e, if_neg e, (hF b hb).2, zbd2_s]; exact ⟨_, rfl, rfl⟩
  | succ d ih =>
    intro j k k' b hj hk hk' hb
    obtain ⟨k, rfl⟩ : ∃ x, k = x + 1 := ⟨k - 1, by omega⟩
    obtain ⟨k', rfl⟩ : ∃ x, k' = x + 1 := ⟨k' - 1, by omega⟩
    rw [fX8_fits_36, m_l1, zbd_s, hw.mn, if_neg (nI_ge (by omega) (by omega)), (hF j (by omega)).2, zbd2_s, (hF b hb).2, zbd2_s]
    rw [fX7_fits_72, zbd_s, hw.cn, if_neg (nI_ge (by omega) (by omega)), zldQn (i := i) (by omega) (by omega), zbd_s, show zq4 i = 42 + 2 * i from rfl, zldLn (i := j) (by omega) (by omega), zbd_s, (hF j (by omega)).1, zbd2_s]
    simp only [zbd_e, nI_1]
    by_cases e : F j ≤ F b
    · rw [if_pos e, if_pos e]; exact ih (j + 1) k k' b (by omega) (by omega) (by omega) hb
    · rw [if_neg e, if_neg e]; exact ih (j + 1) k k' j (by omega) (by omega) (by omega) (by omega)
theorem s_fits (a1 a2 : Int32) : zSIM (fX7_fits a1 a2) (fX8_fits a1 a2) := by
  intro c m h
  have hf := zfuel_big
  obtain ⟨n, hw, hp⟩ := zR1 h
  have hn10 := hw.hn
  obtain ⟨_, _, _, sh, _⟩ := id h
  unfold fX7_fits fX8_fits fX2_isMissing
  simp only [c_isSheet, m_isSheet, zbd2_e, c_within, m_in]
  rcases zwi_lit a1 0 3 (by omega) (by omega) with e | ⟨e, i, _, hi, rfl⟩
  · rw [show zwi a1 0 3 = 0 from e, if_pos rfl, if_pos rfl]; exact zret _ h
  rw [show zwi (nI i) 0 3 = 1 from e, if_neg z10, if_neg z10]
  rcases zwi_01 a2 0 1 with e2 | e2
  · rw [e2, if_pos rfl, if_pos rfl]; exact zret _ h
  rw [e2, if_neg z10, if_neg z10]
  obtain ⟨b1, b2, b3, ⟨s, hs, b4⟩, b5⟩ := sh i (by omega)
  rw [zld (i := i) (by omega) (by omega), zldQn (i := i) (by omega) (by omega), zbd_s, show zq4 i = 42 + 2 * i from rfl, zgrd_h _ (zisS4 i (by omega)), zbd_s, b1]
  obtain ⟨F, hF⟩ := w_fitsOf hw (show i < 4 by omega) hs (by rw [b3, b4]) b4 b5
  rcases zmiss _ b2 with ⟨x1, x2⟩ | ⟨x1, x2⟩
  · rw [if_pos x1, zbd2_s, if_neg z10, zbd_s, if_neg x2]; exact zret _ h
  rw [if_neg x1, zbd2_s, if_pos rfl, zbd_s, hw.cn]
  by_cases n0 : n = 0
  · subst n0
    obtain ⟨f, hf1⟩ : ∃ f, zfuel = f + 1 := ⟨3999, rfl⟩
    rw [if_pos (show nI 0 = 0 from rfl), zbd_s, if_pos x2, hf1, fX8_fits_36, m_l1, zbd_s, hw.mn, if_pos (show nI 0 ≤ 1 by decide), zbd_s, if_pos (show nI 0 = 0 from rfl)]
    exact zret _ h
  · obtain ⟨v, v1, v2⟩ := w_fits72 hw (by omega) (show i < 4 by omega) hF (nI i) a2 (nI i) a2 a2 (n - 1) 1 zfuel zfuel 0 (by omega) (by omega) (by omega) (by omega)
    rw [if_neg (nI_ne0 (by omega) (by omega)), zbd_s, show zldL c (1 + 6) 10 0 = some (zgL c (1 + 6) 0) from zldLn (i := 0) (by omega) (by omega), zbd_s, (hF 0 (by omega)).1, zbd2_s, zbd_s, if_pos x2]
    exact ⟨v, c, m, v1, v2, h⟩
theorem m_stop {w T R k : Nat} (p : Int32) {c m : zz_W} (hw : w ≤ 60) (hT : T ≤ 30) (hR : R < 2 * T) (hk : ¬ R = 2 * k) (hk2 : k ≤ 31) (f : Nat) {m1 : zz_W} (hm : fX8_copyAll 3 1 m = some m1) : fX8_check_79 p (f + 1) (nI w) (nI (2 * T)) (nI R) (nI k) m = some (1 + nI R, m1) := by
  have st : fX8_check_180 p (nI w) (nI (2 * T)) (nI R) m = some (1 + nI R, m1) := by
    unfold fX8_check_180
    rw [hm, zbd_s, if_neg (show ¬ nI R = nI (2 * T) from fun z => by have := (nI_eq (by omega) (by omega)).mp z; omega)]
    split <;> rfl
  rw [fX8_check_79, show (2 : Int32) * nI k = nI (2 * k) from pk_mul 2 k, if_neg (show ¬ nI R = nI (2 * k) from fun z => hk ((nI_eq (by omega) (by omega)).mp z)), st]
  split <;> rfl
theorem w_check {c0 m0 cA mA : zz_W} {n w T : Nat} (hw60 : w ≤ 60) (hT : T ≤ 30) (hwt : ∀ j, j < w → zgI c0 41 j = zgI m0 23 j) (fin : ∀ c m, zFr 21 c0 m0 c m → ∃ m1, fX8_copyAll 3 1 m = some m1 ∧ zRel c m1) (p q : Int32) :
    ∀ e k fc fm c m, k + e = T → 2 * e < fc → e + 1 < fm → zWP 21 n c m c m → zFr 21 c0 m0 c m →
    ∃ r c1 m1, fX7_check_65 p fc (nI w) (nI (2 * T)) (nI (2 * k)) c = some (r, c1) ∧ fX8_check_79 q fm (nI w) (nI (2 * T)) (nI (2 * k)) (nI k) m = some (r, m1) ∧ zRel c1 m1 := by
  intro e
  induction e with
  | zero =>
    intro k fc fm c m hk hfc hfm h hf
    obtain ⟨fc, rfl⟩ : ∃ x, fc = x + 1 := ⟨fc - 1, by omega⟩
    obtain ⟨fm, rfl⟩ : ∃ x, fm = x + 1 := ⟨fm - 1, by omega⟩
    have : k = T := by omega
    subst this
    obtain ⟨m1, r1, r2⟩ := fin c m hf
    rw [fX7_check_65, if_pos (nI_le (by omega) (by omega)), fX8_check_79, show (2 : Int32) * nI k = nI (2 * k) from pk_mul 2 k, if_pos (nI_le (by omega) (by omega))]
    unfold fX8_check_180
    rw [r1, zbd_s]
    by_cases z : w = 2 * k
    · rw [z, if_pos rfl, if_pos rfl, if_pos rfl]; exact ⟨_, _, _, rfl, rfl, r2⟩
    · rw [if_neg (fun y => z ((nI_eq (by omega) (by omega)).mp y)), if_neg (fun y => z ((nI_eq (by omega) (by omega)).mp y).symm)]; exact ⟨_, _, _, rfl, rfl, r2⟩
  | succ e ih =>
    intro k fc fm c m hk hfc hfm h hf
    obtain ⟨fc, rfl⟩ : ∃ x, fc = x + 2 := ⟨fc - 2, by omega⟩
    obtain ⟨fm, rfl⟩ : ∃ x, fm = x + 2 := ⟨fm - 2, by omega⟩
    obtain ⟨c1, m1, s1, s2, h2, f2, _⟩ := w_step h
    have hf2 := zFr_tr hf f2
    obtain ⟨m2, r1, r2⟩ := fin c1 m1 hf2
    obtain ⟨v, v1, v2, _⟩ := w_likeliest h2.1
    have c41 : ∀ j, j < w → zldI c1 41 60 (nI j) = some (zgI m0 23 j) := fun j hj => by rw [zld (i := j) (by omega) (by omega), hf2.1 41 j (by omega), hwt j hj]
    have m23 : ∀ j, j < w → zldI m1 23 60 (nI j) = some (zgI m0 23 j) := fun j hj => by rw [zld (i := j) (by omega) (by omega), hf2.2.2.2.2.1 23 j (by omega)]
    have ev : (2 * k) % 2 = 0 := by omega
    have od : (2 * k + 1) % 2 = 1 := by omega
    have t5 : zgI c1 (21 + 7) 5 = zgI m1 1 10 := h2.1.ct 5 (by decide)
    have stop : ∀ R, R < 2 * T → ¬ R = 2 * (k + 1) → fX8_check_79 q (fm + 1) (nI w) (nI (2 * T)) (nI R) (nI (k + 1)) m1 = some (1 + nI R, m2) := fun R h1 h2 => m_stop q (c := c) hw60 hT h1 h2 (by omega) fm r1
    -- the reference's step
    rw [fX8_check_79, show (2 : Int32) * nI k = nI (2 * k) from pk_mul 2 k, if_neg (nI_ge (by omega) (by omega)), if_pos rfl, s2, zbd_s]
    unfold fX8_check_129 fX8_check_130
    rw [show (2 : Int32) * nI k = nI (2 * k) from pk_mul 2 k]
    -- the component's two
    rw [fX7_check_65, if_neg (nI_ge (by omega) (by omega)), show (2 : Int32) = nI 2 from rfl, zremN (by omega) (by decide) (by decide), zbd_s, ev, if_pos (show nI 0 = 0 from rfl), s1, zbd_s]
    rw [fX7_check_85, show (2 : Int32) = nI 2 from rfl, zremN (by omega) (by decide) (by decide), zbd_s, ev, if_pos (show nI 0 = 0 from rfl), c_l5, zbd_s, fX7_check_111, t5]
    by_cases q1 : w ≤ 2 * k
    · rw [if_pos (nI_le q1 (by omega)), if_pos (nI_le q1 (by omega)), zbd_s, Int32.add_zero, if_neg (show ¬ nI (2 * k) = nI (2 * k) + 1 from fun z => by
        rw [nI_1] at z
        have := (nI_eq (by omega) (by omega)).mp z
        omega), zbd_s, zbd_s, Int32.add_zero, nI_1, stop (2 * k) (by omega) (by omega)]
      exact ⟨_, _, _, rfl, rfl, r2⟩
    rw [if_neg (nI_ge (by omega) (by omega)), if_neg (nI_ge (by omega) (by omega)), c41 (2 * k) (by omega), m23 (2 * k) (by omega), m_l10]
    simp only [zbd_e]
    by_cases q2 : zgI m0 23 (2 * k) = zgI m1 1 10
    · rw [if_pos q2, if_pos q2, nI_1, if_pos trivial]
      rw [fX7_check_65, if_neg (nI_ge (by omega) (by omega)), show (2 : Int32) = nI 2 from rfl, zremN (by omega) (by decide) (by decide), zbd_s, od, if_neg (show ¬ nI 1 = 0 by decide)]
      rw [fX7_check_85, show (2 : Int32) = nI 2 from rfl, zremN (by omega) (by decide) (by decide), zbd_s, od, if_neg (show ¬ nI 1 = 0 by decide), v1, zbd2_s, fX7_check_111]
      by_cases q3 : w ≤ 2 * k + 1
      · rw [if_pos (nI_le q3 (by omega)), if_pos (nI_le q3 (by omega)), Int32.add_zero, nI_1, stop (2 * k + 1) (by omega) (by omega)]
        exact ⟨_, _, _, rfl, rfl, r2⟩
      rw [if_neg (nI_ge (by omega) (by omega)), if_neg (nI_ge (by omega) (by omega)), c41 (2 * k + 1) (by omega), m23 (2 * k + 1) (by omega), v2]
      simp only [zbd_e, zbd2_e]
      by_cases q4 : zgI m0 23 (2 * k + 1) = v
      · rw [if_pos q4, if_pos q4, nI_1, nI_1]
        exact ih (k + 1) fc (fm + 1) c1 m1 (by omega) (by omega) (by omega) h2 hf2
      · rw [if_neg q4, if_neg q4, Int32.add_zero, nI_1, stop (2 * k + 1) (by omega) (by omega)]
        exact ⟨_, _, _, rfl, rfl, r2⟩
    · rw [if_neg q2, if_neg q2, Int32.add_zero, if_neg (show ¬ nI (2 * k) = nI (2 * k) + 1 from fun z => by
        rw [nI_1] at z
        have := (nI_eq (by omega) (by omega)).mp z
        omega), Int32.add_zero, nI_1, stop (2 * k) (by omega) (by omega)]
      exact ⟨_, _, _, rfl, rfl, r2⟩
theorem zRel_w0 {c m : zz_W} (h : zRel c m) : zRel (zsI c 0 9 0) (zsI m 0 34 0) := by
  obtain ⟨a, r1, r2, r3, r4, ⟨w, hw, w1, w2, w3⟩, r6⟩ := h
  have gc : ∀ a i, ¬ (a = 0 ∧ i = 9) → zgI (zsI c 0 9 0) a i = zgI c a i := fun a i h1 => by rw [zgI_sI, if_neg h1]
  have gm : ∀ a i, ¬ (a = 0 ∧ i = 34) → zgI (zsI m 0 34 0) a i = zgI m a i := fun a i h1 => by rw [zgI_sI, if_neg h1]
  exact ⟨zAll_keep a (fun a i _ => gc _ _ (by omega)) (fun _ => rfl) (fun _ => rfl) rfl (fun i => gm _ _ (by omega)),
      zImg_keep r1 (gc _ _ (by omega)) (fun a i _ => gc _ _ (by omega)) (fun _ => rfl) (fun _ => rfl) rfl (gm _ _ (by omega)) (fun i => gm _ _ (by omega)),
      zTape_keep r2 (gc _ _ (by omega)) (fun i => gc _ _ (by omega)) (gm _ _ (by omega)) (fun i => gm _ _ (by omega)),
      zSheets_keep r3 (fun a i _ _ => gc _ _ (by omega)) (fun a i _ _ => gm _ _ (by omega)), zSlots_keep r4 (fun a i _ _ => gc _ _ (by omega)) (fun a i _ _ => gm _ _ (by omega)),
      ⟨0, by omega, by rw [zgI_sI, if_pos ⟨rfl, rfl⟩]; rfl, by rw [zgI_sI, if_pos ⟨rfl, rfl⟩]; rfl, fun j hj => absurd hj (by omega)⟩, zKeys_keep r6 (fun a i _ _ => gm _ _ (by omega))⟩
theorem s_check (a1 : Int32) : zSIM (fX7_check a1) (fX8_check a1) := by
  intro c m h
  have hfu := zfuel_big
  have h0 := zRel_w0 h
  obtain ⟨_, _, _, _, _, ⟨w, hw, w1, w2, w3⟩, _⟩ := id h
  obtain ⟨_, ⟨i1, i2⟩, _⟩ := id h0
  have w3' : ∀ j, j < w → zgI (zsI c 0 9 0) 41 j = zgI (zsI m 0 34 0) 23 j := fun j hj => by rw [zgI_sI, if_neg (by omega), zgI_sI, if_neg (by omega)]; exact w3 j hj
  unfold fX7_check fX8_check
  rw [zbd_s, zbd_s, zbd_s, zbd_s, w1, w2]
  generalize zsI c 0 9 0 = cA at *
  generalize zsI m 0 34 0 = mA at *
  simp only [c_within, m_in, zbd2_e]
  rcases zwi_lit a1 1 30 (by omega) (by omega) with e | ⟨e, N, _, hN, rfl⟩
  · rw [show zwi a1 1 30 = 0 from e, if_pos rfl, if_pos rfl]; exact zret _ h0
  rw [show zwi (nI N) 1 30 = 1 from e, if_neg z10, if_neg z10, zbd_s, zbd_s, i1]
  rcases i2 with i2 | ⟨i2, i3⟩
  · rw [i2, if_pos rfl, if_pos rfl]; exact zret _ h0
  rw [i2, if_neg z10, if_neg z10]
  obtain ⟨cB, e0, e1, e2, e3, e4, e5, e6, e7, e8, e9, e10⟩ := c_take (b := 21) (a := 11) (by decide) (by decide) (by omega) (zAll_ok i3)
  obtain ⟨mB, f0, f1, f2, f3⟩ := m_copyAll (a1 := 1) (a2 := 3) (by decide) (by decide) (by decide) mA
  obtain ⟨mC, g0, g1, g2, g3⟩ := m_copyAll (a1 := 2) (a2 := 1) (by decide) (by decide) (by decide) mB
  obtain ⟨n, iw, ip, ⟨s, hs, es⟩, _⟩ := id i3
  have k1 : ∀ i, i < 1436 → zgI mC 1 i = zgI (zIm mA) 1 i := fun i hi => by rw [g1 i hi, f2 2 i (by omega)]; rfl
  have hw21 : zWP 21 n cB mC cB mC := ⟨zWal_move iw (by decide) (fun i p q => e1 i p (by omega)) (fun i p => e2 1 i (by omega) (by omega) p) (fun i p => e2 2 i (by omega) (by omega) p) (fun i p => e2 3 i (by omega) (by omega) p) (fun i p => e2 4 i (by omega) (by omega) p) (fun i p => e2 5 i (by omega) (by omega) p) e3 e4 (fun i hi => k1 i (by omega)),
    zPos_of ip (fun r hr => k1 _ (by have := iw.hn; omega))⟩
  have fin : ∀ cD mD, zFr 21 cB mC cD mD → ∃ m1, fX8_copyAll 3 1 mD = some m1 ∧ zRel cD m1 := by
    intro cD mD hF
    obtain ⟨F1, F2, F3, F4, F5, F6⟩ := hF
    obtain ⟨mE, j0, j1, j2, j3⟩ := m_copyAll (a1 := 3) (a2 := 1) (by decide) (by decide) (by decide) mD
    have fR : ∀ a i, zgR cD a i = zgR cB a i := fun a i => congrFun (congrFun (congrArg Prod.fst F4) a) i
    have fG : cD.2.2.2 = cB.2.2.2 := congrArg Prod.snd F4
    have gi : ∀ x i, ¬ (21 ≤ x ∧ x ≤ 30) → zgI cD x i = zgI cA x i := fun x i hx => by rw [F1 x i (by omega), e7 x i (by omega)]
    have gL : ∀ x i, ¬ x = 27 → zgL cD x i = zgL cA x i := fun x i hx => by rw [F3 x i (by omega), e8 x i (by omega)]
    have gR : ∀ x i, ¬ x = 29 → zgR cD x i = zgR cA x i := fun x i hx => by rw [fR, e9 x i (by omega)]
    have gm1 : ∀ i, zgI mE 1 i = zgI mA 1 i := fun i => by
      by_cases hi : i < 1436
      · rw [j1 i hi, F5 3 i (by omega), g2 3 i (by omega), f1 i hi]
      · rw [j2 1 i (by omega), F5 1 i (by omega), g2 1 i (by omega), f2 1 i (by omega)]
    have gm : ∀ x i, ¬ x = 1 → ¬ x = 3 → zgI mE x i = zgI mA x i := fun x i h1 h3 => by rw [j2 x i (by omega), F5 x i (by omega), g2 x i (by omega), f2 x i (by omega)]
    exact ⟨mE, j0, zRel_scr h0 ⟨fun x i hx => gi x i (by omega), fun i => gL _ _ (by omega), fun i => gR _ _ (by omega), by rw [fG, e10]⟩ (fun x i _ _ => gi x i (by omega)) (fun i => gL _ _ (by omega)) (fun i => gR _ _ (by omega)) (fun x i hx => gm x i (by omega) (by omega)) gm1 (fun q => ⟨zokR_keep q.1 (by rw [fG, e10]) (fun i _ => gR 19 i (by omega)), zokR_keep (zAll_ok i3) (by rw [fG, e10]) (fun i hi => (fR 29 i).trans (e5 i hi))⟩)⟩
  have es2 : zgI mC 1 2 = nI s := by rw [k1 2 (by omega)]; exact es
  have es1 : zgI cB 11 13 = nI s := by rw [e7 11 13 (by omega), iw.cs]; exact es
  have wt : ∀ j, j < w → zgI cB 41 j = zgI mC 23 j := fun j hj => by rw [e7 41 j (by omega), g2 23 j (by omega), f2 23 j (by omega)]; exact w3' j hj
  obtain ⟨r, c1, m1, r1, r2, r3⟩ := w_check (cA := cA) (mA := mA) (n := n) (T := min (9999 - s) N) hw (by omega) wt fin (nI N) (nI N) (min (9999 - s) N) 0 zfuel zfuel cB mC (by omega) (by omega) (by omega) hw21 (zFr_rfl _ _ _)
  simp only [zbd_e, e0, f0, g0, es1, m_l2, es2, m_within, zbd2_e]
  rw [show (9999 : Int32) - nI s = nI (9999 - s) from pk_sub (a := 9999) (by omega), zwt_min (by omega) (by omega), zmin_min (by omega) (by omega), show (2 : Int32) * nI (min (9999 - s) N) = nI (2 * min (9999 - s) N) from pk_mul 2 _]
  exact ⟨r, c1, m1, r1, r2, r3⟩
