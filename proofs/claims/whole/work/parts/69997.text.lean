theorem zWal_mv13 {b b' n : Nat} {c0 m0 c m c1 m1 : zz_W} (h : zWal b n c0 m0 c m) (W : zisW b' = true) (e0 : ∀ i, 9 ≤ i → i ≤ 14 → zgI c1 b' i = zgI c b i)
    (e1 : ∀ i, i < 10 → zgI c1 (b' + 1) i = zgI c (b + 1) i) (e2 : ∀ i, i < 10 → zgI c1 (b' + 2) i = zgI c (b + 2) i) (e3 : ∀ i, i < 10 → zgI c1 (b' + 3) i = zgI c (b + 3) i) (e4 : ∀ i, i < 10 → zgI c1 (b' + 4) i = zgI c (b + 4) i) (e5 : ∀ i, i < 10 → zgI c1 (b' + 5) i = zgI c (b + 5) i)
    (e6 : ∀ i, i < 10 → zgL c1 (b' + 6) i = zgL c (b + 6) i) (e7 : ∀ i, i < 7 → zgI c1 (b' + 7) i = zgI c (b + 7) i) (em : ∀ i, i < 64 → ¬ i = 13 → zgI m1 1 i = zgI m 1 i) : zWal b' n c1 m1 c1 m1 := by
  have hn10 := h.hn
  unfold zWal
  refine ⟨?_, ?_, ?_, ?_, ?_, ?_, ?_, ?_, ?_, ?_, ?_, ?_, ?_, ?_, ?_, ?_, ?_, ?_, ?_, ?_, ?_, ?_, ?_, ?_, ?_, ?_, ?_, ?_, ?_, ?_⟩
  · exact W
  · exact h.hn
  · rw [e0 14 (by decide) (by decide), em 0 (by omega) (by omega)]; exact h.cz
  · rw [e0 9 (by decide) (by decide)]; exact h.cn
  · rw [em 1 (by omega) (by omega)]; exact h.mn
  · rw [e0 13 (by decide) (by decide), em 2 (by omega) (by omega)]; exact h.cs
  · rw [e0 11 (by decide) (by decide), em 3 (by omega) (by omega)]; exact h.cp
  · rw [e0 12 (by decide) (by decide), em 4 (by omega) (by omega)]; exact h.cm
  · intro r hr; rw [e7 r (by omega), em (5 + r) (by omega) (by omega)]; exact h.ct r hr
  · rw [e0 10 (by decide) (by decide), em 12 (by omega) (by omega)]; exact h.ctr
  · rw [em 12 (by omega) (by omega)]; exact h.tr
  · rw [em 3 (by omega) (by omega)]; exact h.sl
  · intro r hr; rw [e1 r (by omega), em (14 + 5 * r) (by omega) (by omega)]; exact h.ck r hr
  · intro r hr; rw [e2 r (by omega), em (15 + 5 * r) (by omega) (by omega)]; exact h.cc r hr
  · intro r hr; rw [e3 r (by omega), em (16 + 5 * r) (by omega) (by omega)]; exact h.cl r hr
  · intro r hr; rw [e4 r (by omega), em (17 + 5 * r) (by omega) (by omega)]; exact h.cd r hr
  · intro r hr; rw [e5 r (by omega), em (18 + 5 * r) (by omega) (by omega)]; exact h.co r hr
  · intro r hr; rw [e6 r (by omega), em (14 + 5 * r) (by omega) (by omega), em (15 + 5 * r) (by omega) (by omega)]; exact h.cw r hr
  · intro r hr; rw [em (14 + 5 * r) (by omega) (by omega)]; exact h.rk r hr
  · intro r hr; rw [em (15 + 5 * r) (by omega) (by omega)]; exact h.rc r hr
  · intro r hr; rw [em (16 + 5 * r) (by omega) (by omega)]; exact h.rl r hr
  · intro r hr; rw [em (17 + 5 * r) (by omega) (by omega)]; exact h.rd r hr
  · intro r hr; rw [em (18 + 5 * r) (by omega) (by omega)]; exact h.ro r hr
  · intros; rfl
  · intros; rfl
  · intros; rfl
  · rfl
  · intros; rfl
  · rfl
  · exact id
/-! ===== text: the end ===== -/
theorem w_end {c m c1 m1 : zz_W} (h : zRel c m) (hc : zPc c c1) (hm : zPm m m1) : zRel (zsI c1 36 0 0) (zsI m1 0 8 0) := by
  obtain ⟨a, r1, ⟨T, hT, T1, T2, T3⟩, r3, r4, r5, r6⟩ := h
  have gc : ∀ x i, ¬ x = 36 → ¬ x = 38 → zgI (zsI c1 36 0 0) x i = zgI c x i := fun x i q1 q2 => by rw [zgI_sI, if_neg (by omega)]; exact hc.1 x i (by omega) q2
  have gm : ∀ x i, ¬ (x = 0 ∧ 8 ≤ i ∧ i ≤ 21) → ¬ (10 ≤ x ∧ x ≤ 12) → zgI (zsI m1 0 8 0) x i = zgI m x i := fun x i q1 q2 => by rw [zgI_sI, if_neg (by omega)]; exact hm x i (by omega) q2
  have gL : ∀ x i, zgL (zsI c1 36 0 0) x i = zgL c x i := fun x i => by show c1.2.1 x i = c.2.1 x i; rw [hc.2]
  have gR : ∀ x i, zgR (zsI c1 36 0 0) x i = zgR c x i := fun x i => by show c1.2.2.1 x i = c.2.2.1 x i; rw [hc.2]
  have gG : (zsI c1 36 0 0).2.2.2 = c.2.2.2 := by show c1.2.2.2 = c.2.2.2; rw [hc.2]
  exact ⟨zAll_keep a (fun x i _ => gc _ _ (by omega) (by omega)) (fun _ => gL _ _) (fun _ => gR _ _) gG (fun i => gm _ _ (by omega) (by omega)),
    zImg_keep r1 (gc _ _ (by omega) (by omega)) (fun x i _ => gc _ _ (by omega) (by omega)) (fun _ => gL _ _) (fun _ => gR _ _) gG (gm _ _ (by omega) (by omega)) (fun i => gm _ _ (by omega) (by omega)),
    ⟨0, by omega, by rw [zgI_sI, if_pos ⟨rfl, rfl⟩]; rfl, by rw [zgI_sI, if_pos ⟨rfl, rfl⟩]; rfl, fun j hj => absurd hj (by omega)⟩,
    zSheets_keep r3 (fun x i _ _ => gc _ _ (by omega) (by omega)) (fun x i _ _ => gm _ _ (by omega) (by omega)), zSlots_keep r4 (fun x i _ _ => gc _ _ (by omega) (by omega)) (fun x i _ _ => gm _ _ (by omega) (by omega)),
    zWaits_keep r5 (gc _ _ (by omega) (by omega)) (fun i => gc _ _ (by omega) (by omega)) (gm _ _ (by omega) (by omega)) (fun i => gm _ _ (by omega) (by omega)), zKeys_keep r6 (fun x i _ _ => gm _ _ (by omega) (by omega)) (fun q => zok2_k q gG (fun i => gR 19 i) (fun i => gR 29 i))⟩
theorem zisT_grow {G G1 : zz_G} {q : Nat} (h : zisT G q = true) (e : G.1 ≤ G1.1) : zisT G1 q = true := by
  have := of_decide_eq_true h
  exact decide_eq_true ⟨this.1, by omega, this.2.2⟩
theorem zokR_grow {c c1 : zz_W} {k : Nat} (h : zokR c k 0 14 = true) (e : c.2.2.2.1 ≤ c1.2.2.2.1) (eR : ∀ i, i < 14 → zgR c1 k i = zgR c k i ∨ ∃ q, zgR c1 k i = some q ∧ zisT c1.2.2.2 q = true) : zokR c1 k 0 14 = true := by
  unfold zokR
  rw [List.all_eq_true]
  intro i hi
  have hi' := List.mem_range.mp hi
  have h1 := List.all_eq_true.mp h i hi
  rw [Nat.zero_add] at h1 ⊢
  rcases eR i hi' with q | ⟨q, q1, q2⟩
  · rw [q]
    cases e1 : zgR c k i with
    | none => rfl
    | some x => rw [e1] at h1; exact zisT_grow h1 e
  · rw [q1]; exact q2
theorem zLaw_grow {c m c1 m1 : zz_W} {q t key : Nat} (h : zLaw c q m t key) (ht : t < 14) (e : c1.2.2.2.2 q = c.2.2.2.2 q) (e0 : ∀ i, zgI c1 q i = zgI c q i) (e1 : ∀ i, zgI c1 (q + 1) i = zgI c (q + 1) i) (em0 : zgI m1 1 (64 + 2 * t) = zgI m 1 (64 + 2 * t)) (em1 : zgI m1 1 (65 + 2 * t) = zgI m 1 (65 + 2 * t)) (em : ∀ i, i < 96 → zgI m1 1 (92 + 96 * t + i) = zgI m 1 (92 + 96 * t + i)) : zLaw c1 q m1 t key := by
  obtain ⟨len, dep, a1, a2, a3, a4, a5, a6, a7, a8, a9, a10⟩ := h
  refine ⟨len, dep, a1, a2, a3, by rw [e]; exact a4, by rw [e0]; exact a5, by rw [em0]; exact a6, by rw [e0, em1]; exact a7, a8, a9, fun j hj => ?_⟩
  rw [e1, em j (by omega)]
  exact a10 j hj
theorem zTx_grow {b : Nat} {c m c1 m1 : zz_W} (h : zTx b c m) (hG : c.2.2.2.1 ≤ c1.2.2.2.1) (hL : ∀ k, k < 65 + 3 * c.2.2.2.1 → c1.2.2.2.2 k = c.2.2.2.2 k) (e15 : zgI c1 b 15 = zgI c b 15) (e9 : ∀ i, i < 3 → zgI c1 (b + 9) i = zgI c (b + 9) i) (eR : ∀ i, i < 14 → zgR c1 (b + 8) i = zgR c (b + 8) i)
    (eT : ∀ a i, 65 ≤ a → a < 65 + 3 * c.2.2.2.1 → zgI c1 a i = zgI c a i) (em : ∀ i, 13 ≤ i → i < 1436 → zgI m1 1 i = zgI m 1 i) : zTx b c1 m1 := by
  obtain ⟨t, key, a1, a2, a3, a4, a5, a6⟩ := h
  refine ⟨t, key, a1, by rw [e15]; exact a2, by rw [em 13 (by omega) (by omega)]; exact a3, zokR_grow a4 hG (fun i hi => Or.inl (eR i hi)), fun i hi => ?_, fun k hk => ?_⟩
  · obtain ⟨q, b1, b2, b3⟩ := a5 i hi
    have hq := of_decide_eq_true b2
    exact ⟨q, by rw [eR i (by omega)]; exact b1, zisT_grow b2 hG, zLaw_grow b3 (by omega) (hL q (by omega)) (fun j => eT q j (by omega) (by omega)) (fun j => eT (q + 1) j (by omega) (by omega)) (em _ (by omega) (by omega)) (em _ (by omega) (by omega)) (fun j hj => em _ (by omega) (by omega))⟩
  · rw [e9 k hk]
    exact a6 k hk
theorem zdp_pre {v : Nat} (Z : List Nat) (h : zdp 0 Z = some v) : ∀ j, j ≤ Z.length → ∃ u, zdp 0 (Z.take j) = some u ∧ zdp u (Z.drop j) = some v ∧ u ≤ j := by
  intro j
  induction j with
  | zero => intro _; exact ⟨0, by rw [List.take_zero]; rfl, h, Nat.le_refl 0⟩
  | succ j ih =>
    intro hj
    obtain ⟨u, u1, u2, u3⟩ := ih (by omega)
    have hj' : j < Z.length := by omega
    rw [List.drop_eq_getElem_cons hj', zdp] at u2
    have et : Z.take (j + 1) = Z.take j ++ [Z[j]] := (List.take_append_getElem hj').symm
    by_cases q : Z[j] < 9
    · rw [if_pos q] at u2
      by_cases q2 : 2 ≤ u
      · rw [if_pos q2] at u2
        exact ⟨u - 1, by rw [et, zdp_app _ _ _ _ u1, zdp, if_pos q, if_pos q2, zdp], u2, by omega⟩
      · rw [if_neg q2] at u2; cases u2
    · rw [if_neg q] at u2
      by_cases q9 : Z[j] = 9
      · rw [if_pos q9] at u2
        by_cases q2 : 1 ≤ u
        · rw [if_pos q2] at u2
          exact ⟨u, by rw [et, zdp_app _ _ _ _ u1, zdp, if_neg q, if_pos q9, if_pos q2, zdp], u2, by omega⟩
        · rw [if_neg q2] at u2; cases u2
      · rw [if_neg q9] at u2
        exact ⟨u + 1, by rw [et, zdp_app _ _ _ _ u1, zdp, if_neg q, if_neg q9, zdp], u2, by omega⟩
theorem zTok_of {key a u v : Nat} (ha : zok1 key a) (h : zdp u [a] = some v) : zTok key (fTC a) (fTM a) u v := by
  rw [zdp] at h
  by_cases q : a < 9
  · rw [if_pos q] at h
    by_cases q2 : 2 ≤ u
    · rw [if_pos q2, zdp] at h
      have := Option.some.inj h
      exact Or.inr (Or.inr (Or.inr ⟨a, q, if_pos q, if_pos q, q2, by omega⟩))
    · rw [if_neg q2] at h; cases h
  · rw [if_neg q] at h
    by_cases q9 : a = 9
    · rw [if_pos q9] at h
      by_cases q2 : 1 ≤ u
      · rw [if_pos q2, zdp] at h
        have := Option.some.inj h
        subst q9
        exact Or.inr (Or.inr (Or.inl ⟨rfl, rfl, q2, this.symm⟩))
      · rw [if_neg q2] at h; cases h
    · rw [if_neg q9, zdp] at h
      have := Option.some.inj h
      rcases ha with z | ⟨z1, z2⟩ | ⟨z1, z2, z3⟩
      · omega
      · refine Or.inl ⟨a - 20, by omega, ?_, ?_, by omega⟩
        · unfold fTC; rw [if_neg q, if_neg q9, if_pos (by omega)]
        · unfold fTM; rw [if_neg q, if_neg q9, if_pos (by omega)]
      · refine Or.inr (Or.inl ⟨a - 20000, by omega, by omega, ?_, ?_, by omega⟩)
        · unfold fTC; rw [if_neg q, if_neg q9, if_neg (by omega)]
        · unfold fTM; rw [if_neg q, if_neg q9, if_neg (by omega)]
theorem zLaw_new {c m : zz_W} {q t key : Nat} {Z : List Nat} (hk : key < 3) (hZ : zWF key Z) (hl : Z.length ≤ 95) (e1 : c.2.2.2.2 q = Z.length) (e2 : zgI c q 0 = nI key) (e3 : zgI m 1 (64 + 2 * t) = nI (1000 * key + Z.length)) (e4 : zgI c q 1 = zgI m 1 (65 + 2 * t)) (e5 : zAr c (q + 1) fTC Z) (e6 : ∀ j a, Z[j]? = some a → zgI m 1 (92 + 96 * t + j) = fTM a) : zLaw c q m t key := by
  have h1 : 1 ≤ Z.length := by
    cases Z with
    | nil => have := hZ.2 0; rw [zdp] at this; have := Option.some.inj this; omega
    | cons a Z => show 1 ≤ Z.length + 1; omega
  have hp := zdp_pre Z (hZ.2 0)
  refine ⟨Z.length, fun j => (zdp 0 (Z.take j)).getD 0, hk, h1, hl, e1, e2, e3, e4, by show (zdp 0 (Z.take 0)).getD 0 = 0; rw [List.take_zero]; rfl, ?_, fun j hj => ?_⟩
  · show (zdp 0 (Z.take Z.length)).getD 0 = 1
    rw [List.take_length, hZ.2 0]; rfl
  · obtain ⟨u, u1, u2, u3⟩ := hp j (by omega)
    obtain ⟨v, v1, v2, v3⟩ := hp (j + 1) (by omega)
    have eg : Z[j]? = some Z[j] := List.getElem?_eq_getElem hj
    show (zdp 0 (Z.take j)).getD 0 ≤ j ∧ zTok key _ _ ((zdp 0 (Z.take j)).getD 0) ((zdp 0 (Z.take (j + 1))).getD 0)
    rw [u1, v1, e5 j _ eg, e6 j _ eg]
    refine ⟨u3, zTok_of (hZ.1 _ (List.getElem_mem hj)) ?_⟩
    have et : Z.take (j + 1) = Z.take j ++ [Z[j]] := (List.take_append_getElem hj).symm
    rw [et, zdp_app _ _ _ _ u1] at v1
    exact v1
theorem m_117 {t len : Nat} (ht : t < 14) (hl : len ≤ 95) : ∀ d j n m, j + d = len → d < n → zgI m 0 18 = nI len → ∃ m1, fX8_text_117 n (nI t) (nI j) m = some (nI t, m1) ∧ (∀ i, j ≤ i → i < len → zgI m1 1 (92 + 96 * t + i) = zgI m 10 i) ∧ zgI m1 1 13 = zgI m 1 13 + 1 ∧ (∀ a i, ¬ (a = 1 ∧ (i = 13 ∨ (92 + 96 * t + j ≤ i ∧ i < 92 + 96 * t + len))) → zgI m1 a i = zgI m a i) := by
  intro d
  induction d with
  | zero =>
    intro j n m hj hn h18
    obtain ⟨n, rfl⟩ : ∃ x, n = x + 1 := ⟨n - 1, by omega⟩
    refine ⟨zsI m 1 13 (zgI m 1 13 + 1), ?_, fun i h1 h2 => by omega, by rw [zgI_sI, if_pos ⟨rfl, rfl⟩], fun a i hh => by rw [zgI_sI, if_neg (by omega)]⟩
    rw [fX8_text_117, zbd_s, h18, if_pos (nI_le (by omega) (by omega)), m_l13, zbd_s, m_t13, zbd_s]
  | succ d ih =>
    intro j n m hj hn h18
    obtain ⟨n, rfl⟩ : ∃ x, n = x + 1 := ⟨n - 1, by omega⟩
    obtain ⟨m1, r1, r2, r3, r4⟩ := ih (j + 1) n (zsI m 1 (92 + 96 * t + j) (zgI m 10 j)) (by omega) (by omega) (by rw [zgI_sI, if_neg (by omega)]; exact h18)
    refine ⟨m1, ?_, fun i h1 h2 => ?_, by rw [r3, zgI_sI, if_neg (by omega)], fun a i hh => by rw [r4 a i (by omega), zgI_sI, if_neg (by omega)]⟩
    · rw [fX8_text_117, zbd_s, h18, if_neg (nI_ge (by omega) (by omega)), zld (i := j) (by omega) (by omega), zbd_s, zidx96, zst (i := 92 + 96 * t + j) (by omega) (by omega), zbd_s, zbd_s, nI_1]
      exact r1
    · by_cases q : i = j
      · subst q
        rw [r4 1 _ (by omega), zgI_sI, if_pos ⟨rfl, rfl⟩]
      · rw [r2 i (by omega) h2, zgI_sI, if_neg (by omega)]
