/-! ===== the simulations, first the easy ones ===== -/
def zSIM (f g : zz_W → Option (Int32 × zz_W)) : Prop := ∀ c m : zz_W, zRel c m → ∃ (r : Int32) (c1 m1 : zz_W), f c = some (r, c1) ∧ g m = some (r, m1) ∧ zRel c1 m1
theorem zret {c m : zz_W} (x : Int32) (h : zRel c m) : ∃ (r : Int32) (c1 m1 : zz_W), some (x, c) = some (r, c1) ∧ some (x, m) = some (r, m1) ∧ zRel c1 m1 := ⟨x, c, m, rfl, rfl, h⟩
theorem zR1 {c m : zz_W} (h : zRel c m) : ∃ n, zWP 1 n c m c m := by obtain ⟨n, a, b, _⟩ := h.1; exact ⟨n, a, b⟩
theorem s_seed (a1 : Int32) : zSIM (fX7_seed a1) (fX8_seed a1) := by
  intro c m h
  obtain ⟨n, hw, hp⟩ := zR1 h
  unfold fX7_seed fX8_seed fX8_becomes
  simp only [m_l0, m_t0, zbd_e, zbd2_e, hw.cz]
  exact ⟨_, _, _, rfl, rfl, zRel_wal h (zWal_z hw a1) (zPos_of hp (fun r hr => by rw [zgI_sI, if_neg (by omega)]))⟩
theorem s_count (a1 : Int32) : zSIM (fX7_count a1) (fX8_count a1) := by
  intro c m h
  obtain ⟨n, hw, hp⟩ := zR1 h
  obtain ⟨_, _, _, _, t, _, _, t1, t2, _⟩ := h.1
  obtain ⟨_, ⟨T, _, T1, T2, _⟩, _, _, ⟨w, _, w1, w2, _⟩, _⟩ := h.2
  have key : fX7_count a1 c = (fX8_count a1 m).map (fun x => (x.1, c)) ∧ ∃ x, fX8_count a1 m = some (x, m) := by
    unfold fX7_count fX8_count
    simp only [m_l0, m_l1, m_l2, m_l3, m_l4, m_l13, zbd_e, hw.cz, hw.cn, hw.mn, hw.cs, hw.cp, hw.cm, t1, t2, T1, T2, w1, w2]
    (repeat' split) <;> exact ⟨rfl, _, rfl⟩
  obtain ⟨k1, x, k2⟩ := key
  rw [k1, k2]
  exact zret x h
theorem s_trim (a1 : Int32) : zSIM (fX7_trim a1) (fX8_trim a1) := by
  intro c m h
  obtain ⟨a, r1, ⟨T, hT, T1, T2, T3⟩, r3, r4, r5, r6⟩ := id h
  unfold fX7_trim fX8_trim
  simp only [zbd_e, c_within, m_in, zbd2_e, T1, T2]
  rcases zwi_lit a1 0 T (by omega) (by omega) with e | ⟨e, j, _, hj, rfl⟩
  · rw [show zwi a1 0 (nI T) = 0 from e, if_pos rfl, if_pos rfl]
    exact zret _ h
  · rw [show zwi (nI j) 0 (nI T) = 1 from e, if_neg z10, if_neg z10]
    have gc : ∀ a i, ¬ a = 36 → zgI (zsI c 36 0 (nI j)) a i = zgI c a i := fun a i ha => by rw [zgI_sI, if_neg (by omega)]
    have gc7 : ∀ i, zgI (zsI c 36 0 (nI j)) 37 i = zgI c 37 i := fun i => gc _ _ (by omega)
    have gm : ∀ a i, ¬ (a = 0 ∧ i = 8) → zgI (zsI m 0 8 (nI j)) a i = zgI m a i := fun a i ha => by rw [zgI_sI, if_neg (by omega)]
    refine ⟨_, _, _, rfl, rfl, zAll_keep a (fun a i _ => gc _ _ (by omega)) (fun _ => rfl) (fun _ => rfl) rfl (fun i => gm _ _ (by omega)),
      zImg_keep r1 (gc _ _ (by omega)) (fun a i _ => gc _ _ (by omega)) (fun _ => rfl) (fun _ => rfl) rfl (gm _ _ (by omega)) (fun i => gm _ _ (by omega)), ?_,
      zSheets_keep r3 (fun a i _ _ => gc _ _ (by omega)) (fun a i _ _ => gm _ _ (by omega)), zSlots_keep r4 (fun a i _ _ => gc _ _ (by omega)) (fun a i _ _ => gm _ _ (by omega)),
      zWaits_keep r5 (gc _ _ (by omega)) (fun i => gc _ _ (by omega)) (gm _ _ (by omega)) (fun i => gm _ _ (by omega)), zKeys_keep r6 (fun a i _ _ => gm _ _ (by omega))⟩
    refine ⟨j, by omega, by rw [zgI_sI, if_pos ⟨rfl, rfl⟩], by rw [zgI_sI, if_pos ⟨rfl, rfl⟩], fun i hi => ?_⟩
    rw [gc7, gm _ _ (by omega)]
    exact T3 i (by omega)
theorem s_tell (a1 : Int32) : zSIM (fX7_tell a1) (fX8_tell a1) := by
  intro c m h
  obtain ⟨a, r1, r2, r3, r4, ⟨w, hw, w1, w2, w3⟩, r6⟩ := id h
  unfold fX7_tell fX8_tell
  simp only [zbd_e, w1, w2]
  by_cases e : w = 60
  · subst e
    rw [if_neg (show ¬ nI 60 < 60 by decide), if_pos (show nI 60 = 60 by decide)]
    exact zret _ h
  · rw [if_pos (show nI w < 60 from nI_lt (b := 60) (by omega) (by decide)), if_neg (show ¬ nI w = 60 from fun q => e ((nI_eq (b := 60) (by omega) (by decide)).mp q))]
    rw [zst (i := w) (by omega) (by omega), zst (i := w) (by omega) (by omega)]
    simp only [zbd_e]
    rw [show zgI (zsI c 41 w a1) 0 9 = nI w by rw [zgI_sI, if_neg (by omega)]; exact w1, show zgI (zsI m 23 w a1) 0 34 = nI w by rw [zgI_sI, if_neg (by omega)]; exact w2, nI_1]
    rw [zgI_sI, if_pos ⟨rfl, rfl⟩, zgI_sI, if_pos ⟨rfl, rfl⟩]
    have gc : ∀ a i, ¬ (a = 0 ∧ i = 9) → ¬ (a = 41) → zgI (zsI (zsI c 41 w a1) 0 9 (nI (w + 1))) a i = zgI c a i := fun a i h1 h2 => by rw [zgI_sI, if_neg (by omega), zgI_sI, if_neg (by omega)]
    have gm : ∀ a i, ¬ (a = 0 ∧ i = 34) → ¬ (a = 23) → zgI (zsI (zsI m 23 w a1) 0 34 (nI (w + 1))) a i = zgI m a i := fun a i h1 h2 => by rw [zgI_sI, if_neg (by omega), zgI_sI, if_neg (by omega)]
    refine ⟨_, _, _, rfl, rfl, zAll_keep a (fun a i _ => gc _ _ (by omega) (by omega)) (fun _ => rfl) (fun _ => rfl) rfl (fun i => gm _ _ (by omega) (by omega)),
      zImg_keep r1 (gc _ _ (by omega) (by omega)) (fun a i _ => gc _ _ (by omega) (by omega)) (fun _ => rfl) (fun _ => rfl) rfl (gm _ _ (by omega) (by omega)) (fun i => gm _ _ (by omega) (by omega)),
      zTape_keep r2 (gc _ _ (by omega) (by omega)) (fun i => gc _ _ (by omega) (by omega)) (gm _ _ (by omega) (by omega)) (fun i => gm _ _ (by omega) (by omega)),
      zSheets_keep r3 (fun a i _ _ => gc _ _ (by omega) (by omega)) (fun a i _ _ => gm _ _ (by omega) (by omega)), zSlots_keep r4 (fun a i _ _ => gc _ _ (by omega) (by omega)) (fun a i _ _ => gm _ _ (by omega) (by omega)),
      ?_, zKeys_keep r6 (fun a i _ _ => gm _ _ (by omega) (by omega))⟩
    refine ⟨w + 1, by omega, by rw [zgI_sI, if_pos ⟨rfl, rfl⟩], by rw [zgI_sI, if_pos ⟨rfl, rfl⟩], fun i hi => ?_⟩
    have x1 : zgI (zsI (zsI c 41 w a1) 0 9 (nI (w + 1))) 41 i = zgI (zsI c 41 w a1) 41 i := by rw [zgI_sI, if_neg (by omega)]
    have x2 : zgI (zsI (zsI m 23 w a1) 0 34 (nI (w + 1))) 23 i = zgI (zsI m 23 w a1) 23 i := by rw [zgI_sI, if_neg (by omega)]
    rw [x1, x2, zgI_sI, zgI_sI]
    by_cases ei : i = w
    · rw [if_pos ⟨rfl, ei⟩, if_pos ⟨rfl, ei⟩]
    · rw [if_neg (by omega), if_neg (by omega)]
      exact w3 i (by omega)
theorem s_build : zSIM fX7_build fX8_build := by
  intro c m h
  obtain ⟨n, hw, hp⟩ := zR1 h
  have hn10 := hw.hn
  unfold fX7_build fX8_build
  simp only [zbd_e, m_l1, hw.cn, hw.mn]
  by_cases e : n = 0
  · subst e
    rw [if_pos (show nI 0 = 0 from rfl), if_pos (show nI 0 = 0 from rfl)]
    exact zret _ h
  · rw [if_neg (nI_ne0 (by omega) (by omega)), if_neg (nI_ne0 (by omega) (by omega))]
    obtain ⟨c1, m1, r1, r2, h2⟩ := w_build ⟨hw, hp⟩ (by omega)
    rw [r1, r2]
    simp only [zbd_e, m_l1, h2.1.cn, h2.1.mn]
    exact ⟨_, _, _, rfl, rfl, zRel_wal h h2.1 h2.2⟩
theorem zwt_min {d T : Nat} (hd : d < 2 ^ 31) (hT : T < 2 ^ 31) : zwt (nI d) 0 (nI T) = nI (min d T) := by
  unfold zwt
  rw [if_pos (nI_pos' hd)]
  by_cases e : d ≤ T
  · rw [if_pos (nI_le e hT), Nat.min_eq_left e]
  · rw [if_neg (nI_ge (by omega) hd), Nat.min_eq_right (by omega)]
theorem zmin_min {d T : Nat} (hd : d < 2 ^ 31) (hT : T < 2 ^ 31) : zmin (nI T) (nI d) = nI (min d T) := by
  unfold zmin
  by_cases e : d < T
  · rw [if_pos (nI_lt e hT), Nat.min_eq_left (by omega)]
  · rw [if_neg (nI_nlt (by omega) hd), Nat.min_eq_right (by omega)]
theorem s_steps (a1 : Int32) : zSIM (fX7_steps a1) (fX8_steps a1) := by
  intro c m h
  obtain ⟨n, hw, hp⟩ := zR1 h
  obtain ⟨_, _, _, ⟨s, hs, es⟩, _⟩ := h.1
  unfold fX7_steps fX8_steps
  simp only [c_within, m_in, zbd2_e]
  rcases zwi_lit a1 1 100 (by omega) (by omega) with e | ⟨e, j, _, hj, rfl⟩
  · rw [show zwi a1 1 100 = 0 from e, if_pos rfl, if_pos rfl]
    exact zret _ h
  · rw [show zwi (nI j) 1 100 = 1 from e, if_neg z10, if_neg z10]
    simp only [m_l9, m_l2, m_within, zbd2_e, zbd_e, c_l4, hw.cs, es]
    rw [show (9999 : Int32) = nI 9999 from rfl, pk_sub (by omega), zwt_min (by omega) (by omega), zmin_min (by omega) (by omega)]
    obtain ⟨c1, m1, r1, r2, h2, hf, e2, _⟩ := w_goes (T := min (9999 - s) j) ⟨hw, hp⟩ (by omega)
    rw [r1, r2]
    simp only [zbd_e, c_l4, m_l9]
    have t1 : zgI c1 (1 + 7) 4 = zgI m1 1 9 := h2.1.ct 4 (by decide)
    have t0 : zgI c (1 + 7) 4 = zgI m 1 9 := hw.ct 4 (by decide)
    rw [t0, t1]
    exact ⟨_, _, _, rfl, rfl, zRel_wall h h2.1 hf h2.2 ⟨s + min (9999 - s) j, by omega, by rw [e2, es, nI_add]⟩⟩
theorem zmove {b n : Nat} {c0 m0 c m : zz_W} (h : zWal b n c0 m0 c m) : zWal b n c m c m := zWal_self h
theorem s_probe (a1 a2 : Int32) : zSIM (fX7_probe a1 a2) (fX8_probe a1 a2) := by
  intro c m h
  obtain ⟨n, hw, hp⟩ := zR1 h
  unfold fX7_probe fX8_probe fX8_isTest
  simp only [c_isSort, m_in, m_isCell, c_isCell, zbd2_e, zbd_e]
  rcases zwi_lit a1 0 3 (by omega) (by omega) with e | ⟨e, s, _, hs, rfl⟩
  · rw [show zwi a1 0 3 = 0 from e, if_pos rfl, if_pos rfl]
    simp only [zbd2_e, if_true]
    exact zret _ h
  · rw [show zwi (nI s) 0 3 = 1 from e, if_neg z10, if_neg z10]
    rcases zwi_lit a2 0 35 (by omega) (by omega) with e2 | ⟨e2, x, _, hx, rfl⟩
    · rw [show zwi a2 0 35 = 0 from e2, if_pos rfl, if_pos rfl]
      simp only [zbd2_e, if_true]
      exact zret _ h
    · rw [show zwi (nI x) 0 35 = 1 from e2, if_neg z10, if_neg z10]
      simp only [zbd2_e, c_isBuilt hw, m_l12, zbd_e]
      rw [if_neg z10]
      rcases w_built hw with ⟨e1, e3⟩ | ⟨e1, e3, ht⟩
      · rw [e1, if_pos rfl, if_neg e3]
        exact zret _ h
      · rw [e1, if_neg z10, if_pos e3]
        obtain ⟨y, c1, m1, r1, r2, h2, hy⟩ := w_test ⟨hw, hp⟩ ht (show s < 4 by omega) (show x < 36 by omega)
        rw [r1, r2]
        simp only [zbd2_e]
        rw [zif01 _ hy]
        exact ⟨_, _, _, rfl, rfl, zRel_wal h h2.1 h2.2⟩
theorem s_tells (a1 a2 a3 : Int32) : zSIM (fX7_tells a1 a2 a3) (fX8_tells a1 a2 a3) := by
  intro c m h
  obtain ⟨n, hw, hp⟩ := zR1 h
  have hn10 := hw.hn
  unfold fX7_tells fX8_tells fX8_isTest
  simp only [c_isRun hw, m_isRun hw, c_isSort, m_in, m_isCell, c_isCell, zbd2_e, zbd_e]
  rcases zwi_run a1 n (by omega) with e0 | ⟨e0, r, hr, rfl⟩
  · rw [e0, if_pos rfl, if_pos rfl]; exact zret _ h
  rw [e0, if_neg z10, if_neg z10]
  rcases zwi_lit a2 0 3 (by omega) (by omega) with e | ⟨e, s, _, hs, rfl⟩
  · rw [show zwi a2 0 3 = 0 from e, if_pos rfl, if_pos rfl]
    simp only [zbd2_e, if_true]
    exact zret _ h
  rw [show zwi (nI s) 0 3 = 1 from e, if_neg z10, if_neg z10]
  rcases zwi_lit a3 0 35 (by omega) (by omega) with e2 | ⟨e2, x, _, hx, rfl⟩
  · rw [show zwi a3 0 35 = 0 from e2, if_pos rfl, if_pos rfl]
    simp only [zbd2_e, if_true]
    exact zret _ h
  rw [show zwi (nI x) 0 35 = 1 from e2, if_neg z10, if_neg z10]
  rw [c_tell hw hr (show s < 4 by omega) (show x < 36 by omega)]
  simp only [zbd2_e]
  rw [if_neg z10, m_tell (by omega)]
  simp only [zbd2_e]
  rw [zif01 _ (zt_01 _ _ _ _ _ (by
    rcases (show s = 0 ∨ s = 1 ∨ s = 2 ∨ s = 3 by omega) with rfl | rfl | rfl | rfl
    · exact Or.inl rfl
    · exact Or.inr (Or.inl rfl)
    · exact Or.inr (Or.inr (Or.inl rfl))
    · exact Or.inr (Or.inr (Or.inr rfl))))]
  exact zret _ h
theorem c_und4 (a1 a2 : Int32) : ∀ (n : Nat) (l1 l2 l3 : Int32) (w : zz_W), fX0_isUnder_4 a1 a2 n l1 l2 l3 w = (fX0_isUnder_4 a1 a2 n l1 l2 l3 zd).map (fun x => (x.1, w)) := by
  intro n
  induction n with
  | zero => intros; rfl
  | succ n ih =>
    intro l1 l2 l3 w
    rw [fX0_isUnder_4, fX0_isUnder_4]
    simp only [c_isKind, zbd2_e]
    split
    · rfl
    · split
      · rfl
      · split
        · rfl
        · cases zldF zABOVE 6 l2 with
          | none => rfl
          | some v => exact ih l1 v (l3 + 1) w
def zun (a b : Int32) : Int32 := if b = 0 then 1 else if a = b then 1 else if b = 1 then (if a = 3 then 1 else (if b = 2 then (if a = 4 then 1 else 0) else 0)) else (if b = 2 then (if a = 4 then 1 else 0) else 0)
theorem m_und (a b : Int32) (m : zz_W) : fX8_isUnder a b m = some (zun a b, m) := by
  unfold fX8_isUnder fX8_isUnder_19 zun
  simp only [zite_some]
theorem zun_eq : ∀ k, k < 6 → ∀ j, j < 6 → (fX0_isUnder (nI k) (nI j) zd).map (fun x => x.1) = some (zun (nI k) (nI j)) := by decide +kernel
theorem c_und {k j : Nat} (hk : k < 6) (hj : j < 6) (c : zz_W) : fX0_isUnder (nI k) (nI j) c = some (zun (nI k) (nI j), c) := by
  have h := zun_eq k hk j hj
  unfold fX0_isUnder at h ⊢
  rw [c_und4]
  cases e : fX0_isUnder_4 (nI k) (nI j) zfuel (nI j) (nI k) 0 zd with
  | none => rw [e] at h; cases h
  | some v =>
    rw [e] at h
    have h' : v.1 = zun (nI k) (nI j) := Option.some.inj h
    show some (v.1, c) = _
    rw [h']
theorem zun_01 (a b : Int32) : zun a b = 0 ∨ zun a b = 1 := by
  unfold zun
  (repeat' split) <;> first | exact Or.inl rfl | exact Or.inr rfl
theorem s_as (a1 a2 : Int32) : zSIM (fX7_as a1 a2) (fX8_as a1 a2) := by
  intro c m h
  obtain ⟨n, hw, hp⟩ := zR1 h
  have hn10 := hw.hn
  unfold fX7_as fX8_as
  simp only [c_isRun hw, m_isRun hw, c_isKind, m_in, zbd2_e, zbd_e]
  rcases zwi_run a1 n (by omega) with e0 | ⟨e0, r, hr, rfl⟩
  · rw [e0, if_pos rfl, if_pos rfl]; exact zret _ h
  rw [e0, if_neg z10, if_neg z10]
  rcases zwi_lit a2 0 5 (by omega) (by omega) with e | ⟨e, j, _, hj, rfl⟩
  · rw [show zwi a2 0 5 = 0 from e, if_pos rfl, if_pos rfl]; exact zret _ h
  rw [show zwi (nI j) 0 5 = 1 from e, if_neg z10, if_neg z10]
  obtain ⟨k, hk, ek⟩ := hw.rk r hr
  rw [zld (i := r) (by omega) (by omega), m_of0 (by omega), zbd_s, zbd2_s, hw.ck r hr, ek, c_und hk (by omega), m_und, zbd2_s, zbd2_s]
  rcases zun_01 (nI k) (nI j) with e3 | e3
  · rw [e3, if_pos rfl, if_pos rfl]; exact zret _ h
  · rw [e3, if_neg z10, if_neg z10, zld (i := r) (by omega) (by omega), m_of3 (by omega), zbd_s, zbd2_s, hw.cd r hr]
    exact zret _ h
theorem w_shape {n : Nat} {c0 m0 c m : zz_W} (h : zWal 1 n c0 m0 c m) {r k q : Nat} (hr : r < n) (hk : k < 6) (hq : q < 36) :
    ∃ c1, fX6_shape 1 (nI r) (nI k) (nI q) c = some c1 ∧ zWal 1 n c0 m0 c1 (zsI (zsI m 1 (14 + 5 * r) (nI k)) 1 (15 + 5 * r) (nI q)) := by
  have hn10 := h.hn
  refine ⟨zsL (zsI (zsI c (1 + 1) r (nI k)) (1 + 2) r (nI q)) (1 + 6) r (zways (nI k) (nI q)), ?_, zWal_shape h hr hk hq⟩
  unfold fX6_shape
  rw [zgrd_h _ h.W, zst (i := r) (by omega) (by omega), zbd_s, zst (i := r) (by omega) (by omega), zbd_s, c_ways hk hq, zbd2_s, zstLn (i := r) (by omega) (by omega), zbd_s]
theorem zsI_eq (w : zz_W) {k i : Nat} {v : Int32} (h : zgI w k i = v) : zsI w k i v = w := by
  refine Prod.ext (funext fun a => funext fun j => ?_) rfl
  show zgI (zsI w k i v) a j = zgI w a j
  rw [zgI_sI]
  split
  · rename_i e; rw [e.1, e.2, h]
  · rfl
theorem s_turns (a1 a2 : Int32) : zSIM (fX7_turns a1 a2) (fX8_turns a1 a2) := by
  intro c m h
  obtain ⟨n, hw, hp⟩ := zR1 h
  have hn10 := hw.hn
  unfold fX7_turns fX8_turns fX8_becomes
  simp only [c_isRun hw, m_isRun hw, c_isKind, m_in, zbd2_e, zbd_e]
  rcases zwi_run a1 n (by omega) with e0 | ⟨e0, r, hr, rfl⟩
  · rw [e0, if_pos rfl, if_pos rfl]; exact zret _ h
  rw [e0, if_neg z10, if_neg z10]
  rcases zwi_lit a2 0 5 (by omega) (by omega) with e | ⟨e, j, _, hj, rfl⟩
  · rw [show zwi a2 0 5 = 0 from e, if_pos rfl, if_pos rfl]; exact zret _ h
  rw [show zwi (nI j) 0 5 = 1 from e, if_neg z10, if_neg z10]
  obtain ⟨q, hq, eq⟩ := hw.rc r hr
  have hi : (14 : Int32) + 5 * nI r = nI (14 + 5 * r) := by rw [show (14 : Int32) = nI 14 from rfl, show (5 : Int32) = nI 5 from rfl, pk_mul, nI_add]
  rw [hi, zld (i := r) (by omega) (by omega), zbd_s, zld (i := r) (by omega) (by omega), zbd_s, hw.ck r hr, hw.cc r hr, eq]
  rw [zld (i := 14 + 5 * r) (by omega) (by omega), zbd_s, zst (i := 14 + 5 * r) (by omega) (by omega), zbd_s, zbd2_s]
  obtain ⟨c1, r1, h2⟩ := w_shape hw hr (show j < 6 by omega) hq
  rw [zsI_eq (zsI m 1 (14 + 5 * r) (nI j)) (by rw [zgI_sI, if_neg (by omega)]; exact eq)] at h2
  rw [r1, zbd_s]
  exact ⟨_, _, _, rfl, rfl, zRel_wal h h2 (zPos_of hp (fun r hr => by rw [zgI_sI, if_neg (by omega)]))⟩
theorem s_rule (a1 a2 : Int32) : zSIM (fX7_rule a1 a2) (fX8_rule a1 a2) := by
  intro c m h
  obtain ⟨n, hw, hp⟩ := zR1 h
  have hn10 := hw.hn
  unfold fX7_rule fX8_rule fX7_rule_33 fX8_rule_21 fX8_becomes
  simp only [m_in, c_within, zbd2_e, zbd_e]
  rcases zwi_lit a1 0 1 (by omega) (by omega) with e | ⟨e, j, _, hj, rfl⟩
  · rw [show zwi a1 0 1 = 0 from e, if_pos rfl]
    have n0 : ¬ a1 = 0 := by intro q; subst q; exact absurd e (by decide)
    have n1 : ¬ a1 = 1 := by intro q; subst q; exact absurd e (by decide)
    rw [if_neg n0, if_neg n1]
    exact zret _ h
  · rw [show zwi (nI j) 0 1 = 1 from e, if_neg z10]
    rcases (show j = 0 ∨ j = 1 by omega) with rfl | rfl
    · rw [if_pos (show nI 0 = 0 from rfl), if_pos (show nI 0 = 0 from rfl)]
      rcases zwi_lit a2 0 49 (by omega) (by omega) with e2 | ⟨e2, x, _, hx, rfl⟩
      · rw [show zwi a2 0 49 = 0 from e2, if_pos rfl, if_pos rfl, if_neg (show ¬ nI 0 = 1 by decide)]
        exact zret _ h
      · rw [show zwi (nI x) 0 49 = 1 from e2, if_neg z10, if_neg z10, show (3 : Int32) + nI 0 = 3 by decide, m_l3]
        simp only [m_t3, zbd_e, zbd2_e, hw.cp]
        exact ⟨_, _, _, rfl, rfl, zRel_wal h (zWal_p hw (s := x) hx) (zPos_of hp (fun r hr => by rw [zgI_sI, if_neg (by omega)]))⟩
    · rw [if_neg (show ¬ nI 1 = 0 by decide), if_neg (show ¬ nI 1 = 0 by decide), if_pos (show nI 1 = 1 from rfl)]
      rcases zwi_lit a2 0 1 (by omega) (by omega) with e2 | ⟨e2, x, _, hx, rfl⟩
      · rw [show zwi a2 0 1 = 0 from e2, if_pos rfl, if_pos rfl]
        exact zret _ h
      · rw [show zwi (nI x) 0 1 = 1 from e2, if_neg z10, if_neg z10, show (3 : Int32) + nI 1 = 4 by decide, m_l4]
        simp only [m_t4, zbd_e, zbd2_e, hw.cm]
        exact ⟨_, _, _, rfl, rfl, zRel_wal h (zWal_m hw (nI x)) (zPos_of hp (fun r hr => by rw [zgI_sI, if_neg (by omega)]))⟩
