/-! ===== thoughts: behind, when ===== -/
theorem m_thinks2 : ∀ d j k m, j + d = 64 → d < k → ∃ m1, fX8_thinks_2 k (nI j) m = some m1 ∧ (∀ i, j ≤ i → i < 64 → zgI m1 6 i = zgI m 1 i) ∧ (∀ x i, ¬ (x = 6 ∧ j ≤ i ∧ i < 64) → zgI m1 x i = zgI m x i) := by
  intro d
  induction d with
  | zero =>
    intro j k m hj hk
    obtain ⟨k, rfl⟩ : ∃ x, k = x + 1 := ⟨k - 1, by omega⟩
    exact ⟨m, by rw [fX8_thinks_2, if_pos (show (64 : Int32) ≤ nI j from nI_le (a := 64) (by omega) (by omega))], fun i h1 h2 => absurd h1 (by omega), fun x i _ => rfl⟩
  | succ d ih =>
    intro j k m hj hk
    obtain ⟨k, rfl⟩ : ∃ x, k = x + 1 := ⟨k - 1, by omega⟩
    obtain ⟨m1, r1, r2, r3⟩ := ih (j + 1) k (zsI m 6 j (zgI m 1 j)) (by omega) (by omega)
    refine ⟨m1, ?_, ?_, ?_⟩
    · rw [fX8_thinks_2, if_neg (show ¬ (64 : Int32) ≤ nI j from nI_ge (b := 64) (by omega) (by omega)), zld (i := j) (by omega) (by omega), zbd_s, zst (i := j) (by omega) (by omega), zbd_s, zbd_s, nI_1]
      exact r1
    · intro i h1 h2
      by_cases e : i = j
      · subst e
        rw [r3 6 i (by omega), zgI_sI, if_pos ⟨rfl, rfl⟩]
      · rw [r2 i (by omega) h2, zgI_sI, if_neg (by omega)]
    · intro x i hx
      rw [r3 x i (by omega), zgI_sI, if_neg (by omega)]
theorem m_backs2 : ∀ d j k m, j + d = 64 → d < k → ∃ m1, fX8_putsBack_2 k (nI j) m = some m1 ∧ (∀ i, j ≤ i → i < 64 → zgI m1 1 i = zgI m 6 i) ∧ (∀ x i, ¬ (x = 1 ∧ j ≤ i ∧ i < 64) → zgI m1 x i = zgI m x i) := by
  intro d
  induction d with
  | zero =>
    intro j k m hj hk
    obtain ⟨k, rfl⟩ : ∃ x, k = x + 1 := ⟨k - 1, by omega⟩
    exact ⟨m, by rw [fX8_putsBack_2, if_pos (show (64 : Int32) ≤ nI j from nI_le (a := 64) (by omega) (by omega))], fun i h1 h2 => absurd h1 (by omega), fun x i _ => rfl⟩
  | succ d ih =>
    intro j k m hj hk
    obtain ⟨k, rfl⟩ : ∃ x, k = x + 1 := ⟨k - 1, by omega⟩
    obtain ⟨m1, r1, r2, r3⟩ := ih (j + 1) k (zsI m 1 j (zgI m 6 j)) (by omega) (by omega)
    refine ⟨m1, ?_, ?_, ?_⟩
    · rw [fX8_putsBack_2, if_neg (show ¬ (64 : Int32) ≤ nI j from nI_ge (b := 64) (by omega) (by omega)), zld (i := j) (by omega) (by omega), zbd_s, zst (i := j) (by omega) (by omega), zbd_s, zbd_s, nI_1]
      exact r1
    · intro i h1 h2
      by_cases e : i = j
      · subst e
        rw [r3 1 i (by omega), zgI_sI, if_pos ⟨rfl, rfl⟩]
      · rw [r2 i (by omega) h2, zgI_sI, if_neg (by omega)]
    · intro x i hx
      rw [r3 x i (by omega), zgI_sI, if_neg (by omega)]
def zP6 (m : zz_W) : Prop := ∀ i, i < 64 → zgI m 6 i = zgI m 1 i
theorem w_think {n : Nat} {c m : zz_W} (h : zRel c m) (hw : zWP 1 n c m c m) : ∃ m1, fX8_thinks m = some m1 ∧ zRel c m1 ∧ zP6 m1 ∧ zWP 1 n c m1 c m1 := by
  have hf := zfuel_big
  obtain ⟨m1, r1, r2, r3⟩ := m_thinks2 64 0 zfuel m (by omega) (by omega)
  have g : ∀ x i, ¬ x = 6 → zgI m1 x i = zgI m x i := fun x i hx => r3 x i (by omega)
  refine ⟨m1, r1, zRel_scr h ⟨fun _ _ _ => rfl, fun _ => rfl, fun _ => rfl, rfl⟩ (fun _ _ _ _ => rfl) (fun _ => rfl) (fun _ => rfl) (fun x i hx => g x i (by omega)) (fun i => g 1 i (by omega)), fun i hi => ?_, zWal_move hw.1 hw.1.W (fun _ _ _ => rfl) (fun _ _ => rfl) (fun _ _ => rfl) (fun _ _ => rfl) (fun _ _ => rfl) (fun _ _ => rfl) (fun _ _ => rfl) (fun _ _ => rfl) (fun i _ => g 1 i (by omega)), zPos_of hw.2 (fun r _ => g 1 _ (by omega))⟩
  rw [r2 i (by omega) hi, g 1 i (by omega)]
theorem w_take {n : Nat} {c m : zz_W} (h : zRel c m) (hw : zWP 1 n c m c m) : ∃ c1, fX6_takeFrom 21 1 c = some c1 ∧ zRel c1 m ∧ zWP 21 n c1 m c1 m ∧ zWP 1 n c1 m c1 m := by
  obtain ⟨c1, e0, e1, e2, e3, e4, e5, e6, e7, e8, e9, e10⟩ := c_take (b := 21) (a := 1) (by decide) (by decide) (by omega) (zAll_ok h.1)
  refine ⟨c1, e0, zRel_scr h ⟨fun x i hx => e7 x i (by omega), fun i => e8 _ i (by omega), fun i => e9 _ i (by omega), e10⟩ (fun x i _ _ => e7 x i (by omega)) (fun i => e8 _ i (by omega)) (fun i => e9 _ i (by omega)) (fun _ _ _ => rfl) (fun _ => rfl) (fun q => ⟨zokR_keep q.1 e10 (fun i _ => e9 19 i (by omega)), zokR_keep (zAll_ok h.1) e10 (fun i hi => e5 i hi)⟩), ⟨?_, hw.2⟩, ⟨?_, hw.2⟩⟩
  · exact zWal_move hw.1 (by decide) (fun i p q => e1 i p (by omega)) (fun i p => e2 1 i (by omega) (by omega) p) (fun i p => e2 2 i (by omega) (by omega) p) (fun i p => e2 3 i (by omega) (by omega) p) (fun i p => e2 4 i (by omega) (by omega) p) (fun i p => e2 5 i (by omega) (by omega) p) e3 e4 (fun _ _ => rfl)
  · exact zWal_move hw.1 (by decide) (fun i p q => e7 _ i (by omega)) (fun i p => e7 _ i (by omega)) (fun i p => e7 _ i (by omega)) (fun i p => e7 _ i (by omega)) (fun i p => e7 _ i (by omega)) (fun i p => e7 _ i (by omega)) (fun i p => e8 _ i (by omega)) (fun i p => e7 _ i (by omega)) (fun _ _ => rfl)
theorem w_puts {c1 m1 c2 m2 : zz_W} {n : Nat} (h : zRel c1 m1) (h6 : zP6 m1) (hw : zWP 1 n c1 m1 c1 m1) (hf : zFr 21 c1 m1 c2 m2) : ∃ m3, fX8_putsBack m2 = some m3 ∧ zRel c2 m3 ∧ zP6 m3 ∧ zWP 1 n c2 m3 c2 m3 ∧ (∀ i, zgI m3 1 i = zgI m1 1 i) := by
  have hfu := zfuel_big
  obtain ⟨m3, r1, r2, r3⟩ := m_backs2 64 0 zfuel m2 (by omega) (by omega)
  obtain ⟨f1, f2, f3, f4, f5, f6⟩ := hf
  have fR : ∀ a i, zgR c2 a i = zgR c1 a i := fun a i => congrFun (congrFun (congrArg Prod.fst f4) a) i
  have fG : c2.2.2.2 = c1.2.2.2 := congrArg Prod.snd f4
  have g : ∀ x i, ¬ x = 1 → zgI m3 x i = zgI m1 x i := fun x i hx => by rw [r3 x i (by omega), f5 x i (by omega)]
  have g1 : ∀ i, zgI m3 1 i = zgI m1 1 i := fun i => by
    by_cases e : i < 64
    · rw [r2 i (by omega) e, f5 6 i (by omega), h6 i e]
    · rw [r3 1 i (by omega), f5 1 i (by omega)]
  refine ⟨m3, r1, zRel_scr h ⟨fun x i hx => f1 x i (by omega), fun i => f3 _ i (by omega), fun i => fR _ i, fG⟩ (fun x i _ _ => f1 x i (by omega)) (fun i => f3 _ i (by omega)) (fun i => fR _ i) (fun x i hx => g x i (by omega)) g1 (fun q => zok2_R q f4), fun i hi => ?_, ⟨?_, zPos_of hw.2 (fun r _ => g1 _)⟩, g1⟩
  · rw [g 6 i (by omega), g1, h6 i hi]
  · exact zWal_move hw.1 (by decide) (fun i p q => f1 _ i (by omega)) (fun i p => f1 _ i (by omega)) (fun i p => f1 _ i (by omega)) (fun i p => f1 _ i (by omega)) (fun i p => f1 _ i (by omega)) (fun i p => f1 _ i (by omega)) (fun i p => f3 _ i (by omega)) (fun i p => f1 _ i (by omega)) (fun i _ => g1 i)
theorem w_when {n : Nat} {c0 m0 : zz_W} (h0 : zRel c0 m0) (h6 : zP6 m0) (hw0 : zWP 1 n c0 m0 c0 m0) : ∀ d j k k' c m, j + d = 101 → d < k → d < k' → zWP 21 n c m c m → zFr 21 c0 m0 c m →
    ∃ r c1 m1, fX7_when_13 k (nI j) c = some (r, c1) ∧ fX8_when_6 k' (nI j) m = some (r, m1) ∧ zRel c1 m1 := by
  intro d
  induction d with
  | zero =>
    intro j k k' c m hj hk hk' h hf
    obtain ⟨k, rfl⟩ : ∃ x, k = x + 1 := ⟨k - 1, by omega⟩
    obtain ⟨k', rfl⟩ : ∃ x, k' = x + 1 := ⟨k' - 1, by omega⟩
    have hj' : j = 101 := by omega
    subst hj'
    obtain ⟨m3, r1, r2, _⟩ := w_puts h0 h6 hw0 hf
    refine ⟨-1000000005, c, m3, ?_, ?_, r2⟩
    · rw [fX7_when_13, if_pos (show (100 : Int32) < nI 101 by decide)]
    · rw [fX8_when_6, if_pos (show (100 : Int32) < nI 101 by decide)]
      unfold fX8_when_29
      rw [r1, zbd_s, if_neg (show ¬ nI 101 ≤ 100 by decide)]
  | succ d ih =>
    intro j k k' c m hj hk hk' h hf
    obtain ⟨k, rfl⟩ : ∃ x, k = x + 1 := ⟨k - 1, by omega⟩
    obtain ⟨k', rfl⟩ : ∃ x, k' = x + 1 := ⟨k' - 1, by omega⟩
    have hlt : ¬ (100 : Int32) < nI j := nI_nlt (a := 100) (by omega) (by omega)
    obtain ⟨x, hx, k1, k2⟩ := w_known h
    rw [fX7_when_13, if_neg hlt, k1, zbd2_s, fX8_when_6, if_neg hlt, k2, zbd2_s]
    rcases hx with rfl | rfl
    · rw [if_pos rfl, if_pos rfl]
      obtain ⟨c1, m1, s1, s2, h2, f2, _⟩ := w_step h
      rw [s1, s2, zbd_s, zbd_s, zbd_s, zbd_s, nI_1]
      exact ih (j + 1) k k' c1 m1 (by omega) (by omega) (by omega) h2 (zFr_tr hf f2)
    · rw [if_neg z10, if_neg z10]
      obtain ⟨m3, r1, r2, _⟩ := w_puts h0 h6 hw0 hf
      unfold fX8_when_29
      rw [r1, zbd_s, if_pos (show nI j ≤ 100 from nI_le (b := 100) (by omega) (by omega))]
      exact ⟨_, _, _, rfl, rfl, r2⟩
theorem s_when : zSIM fX7_when fX8_when := by
  intro c m h
  have hf := zfuel_big
  obtain ⟨n, hw⟩ := zR1 h
  obtain ⟨m1, t1, t2, t3, t4⟩ := w_think h hw
  obtain ⟨c1, u1, u2, u3, u4⟩ := w_take t2 t4
  unfold fX7_when fX8_when
  rw [t1, u1, zbd_s, zbd_s]
  exact w_when u2 t3 u4 101 0 zfuel zfuel c1 m1 (by omega) (by omega) (by omega) u3 (zFr_rfl _ _ _)
theorem s_behind (a1 a2 : Int32) : zSIM (fX7_behind a1 a2) (fX8_behind a1 a2) := by
  intro c m h
  obtain ⟨n, hw⟩ := zR1 h
  have hn10 := hw.1.hn
  unfold fX7_behind fX8_behind
  simp only [c_within, m_in, zbd2_e, c_isRun hw.1, m_isRun hw.1]
  rcases zwi_lit a1 0 100 (by omega) (by omega) with e | ⟨e, T, _, hT, rfl⟩
  · rw [show zwi a1 0 100 = 0 from e, if_pos rfl, if_pos rfl]; exact zret _ h
  rw [show zwi (nI T) 0 100 = 1 from e, if_neg z10, if_neg z10]
  obtain ⟨m1, t1, t2, t3, t4⟩ := w_think h hw
  obtain ⟨c1, u1, u2, u3, u4⟩ := w_take t2 t4
  obtain ⟨c2, m2, g1, g2, h2, hf, _⟩ := w_goes u3 (T := T) hT
  obtain ⟨m3, p1, p2, _⟩ := w_puts u2 t3 u4 hf
  obtain ⟨v, v1, v2, v3⟩ := w_likeliest h2.1
  have key : ∀ y : Int32, (y = 0 ∨ y = 1 ∨ y = 2 ∨ ∃ r, r < n ∧ y = nI (r + 3)) → ∃ r c1 m1, fX7_behind_35 (nI T) y (nI T) y c = some (r, c1) ∧ fX8_behind_32 (nI T) y (nI T) y m = some (r, m1) ∧ zRel c1 m1 := by
    intro y hy
    unfold fX7_behind_35 fX7_behind_53 fX8_behind_32 fX8_behind_93
    simp only [u1, g1, t1, g2, zbd_e, hw.1.cn]
    rcases hy with rfl | rfl | rfl | ⟨r, hr, rfl⟩
    · rw [if_neg (show ¬ (0 : Int32) = 2 by decide), if_pos (show (0 : Int32) = 0 from rfl), if_pos (show (0 : Int32) = 0 from rfl), c_l5, m_l10]
      simp only [zbd_e]
      rw [p1, zbd_s, h2.1.ct 5 (by decide)]
      exact ⟨_, _, _, rfl, rfl, p2⟩
    · rw [if_neg (show ¬ (1 : Int32) = 2 by decide), if_neg (show ¬ (1 : Int32) = 0 by decide), if_pos (show (1 : Int32) = 1 from rfl), if_neg (show ¬ (1 : Int32) = 0 by decide), if_pos (show (1 : Int32) = 1 from rfl), c_l4, m_l9]
      simp only [zbd_e]
      rw [p1, zbd_s, h2.1.ct 4 (by decide)]
      exact ⟨_, _, _, rfl, rfl, p2⟩
    · rw [if_pos (show (2 : Int32) = 2 from rfl), if_neg (show ¬ (2 : Int32) = 0 by decide), if_neg (show ¬ (2 : Int32) = 1 by decide), if_pos (show (2 : Int32) = 2 from rfl), if_neg (show ¬ (2 : Int32) = 0 by decide), if_neg (show ¬ (2 : Int32) = 1 by decide), if_pos (show (2 : Int32) = 2 from rfl), v2]
      unfold fX8_orNothing
      rcases v3 with ⟨rfl, rfl⟩ | ⟨hn, r, hr, rfl⟩
      · rw [if_pos (show nI 0 = 0 from rfl), zbd2_s, if_neg (show ¬ (0 : Int32) ≤ -1 by decide), zbd2_s]
        obtain ⟨f1, f2, f3, f4, f5, f6⟩ := hf
        obtain ⟨m4, q1, q2, _⟩ := w_puts (c2 := c) (m2 := m2) t2 t3 t4 ⟨fun _ _ _ => rfl, rfl, fun _ _ _ => rfl, rfl, f5, f6⟩
        rw [q1, zbd_s]
        exact ⟨_, _, _, rfl, rfl, q2⟩
      · rw [if_neg (nI_ne0 hn (by omega)), v1, zbd2_s, zbd2_s, if_pos (nI_pos' (by omega)), zbd2_s, p1, zbd_s]
        exact ⟨_, _, _, rfl, rfl, p2⟩
    · have y0 : ¬ nI (r + 3) = 0 := nI_ne0 (by omega) (by omega)
      have y1 : ¬ nI (r + 3) = 1 := fun q => by have := (nI_eq (b := 1) (by omega) (by decide)).mp q; omega
      have y2 : ¬ nI (r + 3) = 2 := fun q => by have := (nI_eq (b := 2) (by omega) (by decide)).mp q; omega
      have y3 : nI (r + 3) - 3 = nI r := pk_sub (a := r + 3) (b := 3) (by omega)
      rw [if_neg y2, if_neg y0, if_neg y1, if_neg y2, if_neg y0, if_neg y1, if_neg y2, y3, zld (i := r) (by omega) (by omega), m_of4 (by omega)]
      simp only [zbd_e, zbd2_e]
      rw [p1, zbd_s, h2.1.co r hr]
      exact ⟨_, _, _, rfl, rfl, p2⟩
  by_cases n0 : a2 < 0
  · rw [if_pos n0, if_pos n0]; exact zret _ h
  rw [if_neg n0, if_neg n0]
  obtain ⟨j, hj, rfl⟩ := nI_of n0
  by_cases j3 : j < 3
  · rw [if_pos (show nI j < 3 from nI_lt (b := 3) j3 (by decide)), if_pos (show nI j ≤ 2 from nI_le (b := 2) (by omega) (by decide))]
    rcases (show j = 0 ∨ j = 1 ∨ j = 2 by omega) with rfl | rfl | rfl
    · exact key _ (Or.inl rfl)
    · exact key _ (Or.inr (Or.inl rfl))
    · exact key _ (Or.inr (Or.inr (Or.inl rfl)))
  · rw [if_neg (show ¬ nI j < 3 from nI_nlt (b := 3) (by omega) hj), if_neg (show ¬ nI j ≤ 2 from nI_ge (a := 2) (by omega) hj)]
    have ej : nI j - 3 = nI (j - 3) := pk_sub (a := j) (b := 3) (by omega)
    rw [ej]
    rcases zwi_run (nI (j - 3)) n (by omega) with e0 | ⟨e0, r, hr, e1⟩
    · rw [e0, if_pos rfl, if_pos rfl]; exact zret _ h
    · rw [e0, if_neg z10, if_neg z10]
      have := (nI_eq (a := j - 3) (b := r) (by omega) (by omega)).mp e1
      exact key _ (Or.inr (Or.inr (Or.inr ⟨r, hr, by rw [show r + 3 = j by omega]⟩)))
