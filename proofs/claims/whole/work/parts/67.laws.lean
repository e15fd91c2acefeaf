/-! ===== laws: which counts ===== -/
theorem m_counts2 {m : zz_W} {t k : Nat} {key : Nat → Nat} {v : Int32} (ht : t ≤ 14) (hk : k < 3) (hL : ∀ i, i < t → ∃ len, key i < 3 ∧ len ≤ 95 ∧ zgI m 1 (64 + 2 * i) = nI (1000 * key i + len))
    (hv : (v = -1 ∧ ∀ i, i < t → ¬ key i = k) ∨ (∃ i, i < t ∧ v = nI i ∧ key i = k ∧ ∀ i', i < i' → i' < t → ¬ key i' = k)) (p : Int32) :
    ∀ i n, i ≤ t → i < n → (∀ i', i ≤ i' → i' < t → ¬ key i' = k) → fX8_counts_10 p n (nI k) (nI i - 1) m = some (v, m) := by
  intro i
  induction i with
  | zero =>
    intro n hi hn hz
    obtain ⟨n, rfl⟩ : ∃ x, n = x + 1 := ⟨n - 1, by omega⟩
    rw [fX8_counts_10, if_pos (show nI 0 - 1 < 0 by decide)]
    rcases hv with ⟨e, _⟩ | ⟨i0, h0, _, hk0, _⟩
    · rw [e]
    · exact absurd hk0 (hz i0 (by omega) h0)
  | succ i ih =>
    intro n hi hn hz
    obtain ⟨n, rfl⟩ : ∃ x, n = x + 1 := ⟨n - 1, by omega⟩
    obtain ⟨len, h3, hlen, e⟩ := hL i (by omega)
    have ei : (64 : Int32) + 2 * nI i = nI (64 + 2 * i) := by rw [show (64 : Int32) = nI 64 from rfl, show (2 : Int32) = nI 2 from rfl, pk_mul, nI_add]
    have ed : (1000 * key i + len) / 1000 = key i := by omega
    rw [fX8_counts_10, nI_pred, if_neg (nI_pos (by omega)), ei, zld (i := 64 + 2 * i) (by omega) (by omega), zbd_s, e, show (1000 : Int32) = nI 1000 from rfl, zdivN (by omega) (by decide) (by decide), zbd_s, ed]
    by_cases q : key i = k
    · rw [if_pos (by rw [q])]
      rcases hv with ⟨_, e2⟩ | ⟨i0, h0, e2, hk0, hl0⟩
      · exact absurd q (e2 i (by omega))
      · have : i0 = i := by
          by_cases c1 : i0 < i
          · exact absurd q (hl0 i c1 (by omega))
          · by_cases c2 : i0 = i
            · exact c2
            · exact absurd hk0 (hz i0 (by omega) h0)
        rw [e2, this]
    · rw [if_neg (fun z => q ((nI_eq (by omega) (by omega)).mp z)), zbd_s, ← Int32.sub_eq_add_neg]
      exact ih n (by omega) (by omega) (fun i' h1 h2 => by
        by_cases c : i' = i
        · rw [c]; exact q
        · exact hz i' (by omega) h2)
theorem m_counts {c m : zz_W} {b k : Nat} (h : zTx b c m) (hk : k < 3) : fX8_counts (nI k) m = some (zgI c (b + 9) k, m) := by
  have hf := zfuel_big
  obtain ⟨t, key, a1, a2, a3, a4, a5, a6⟩ := h
  unfold fX8_counts
  rw [m_l13, zbd_s, a3, zbd_s]
  refine m_counts2 (t := t) (key := key) a1 hk (fun i hi => ?_) (a6 k hk) _ t zfuel (by omega) (by omega) (fun i' h1 h2 => absurd h1 (by omega))
  obtain ⟨q, _, _, len, dep, l1, l2, l3, _, _, l6, _⟩ := a5 i hi
  exact ⟨len, l1, l3, l6⟩
theorem s_why (a1 : Int32) : zSIM (fX7_why a1) (fX8_why a1) := by
  intro c m h
  obtain ⟨n, _, _, _, tx⟩ := h.1
  unfold fX7_why fX8_why
  simp only [c_within, m_in, zbd2_e]
  rcases zwi_lit a1 0 2 (by omega) (by omega) with e | ⟨e, k, _, hk, rfl⟩
  · rw [show zwi a1 0 2 = 0 from e, if_pos rfl, if_pos rfl]; exact zret _ h
  rw [show zwi (nI k) 0 2 = 1 from e, if_neg z10, if_neg z10, m_counts tx (by omega), zld (i := k) (by omega) (by omega), zbd_s, zbd2_s, zbd_s]
  by_cases q : 0 ≤ zgI c (1 + 9) k
  · rw [if_pos q, if_pos q]; exact zret _ h
  · rw [if_neg q, if_neg q]; exact zret _ h
theorem s_textTold (a1 a2 : Int32) : zSIM (fX7_textTold a1 a2) (fX8_textTold a1 a2) := by
  intro c m h
  obtain ⟨n, _, _, _, t, key, b1, b2, b3, b4, b5, b6⟩ := h.1
  unfold fX7_textTold fX8_textTold
  simp only [c_within, m_in, zbd2_e, zbd_e, m_l13, b2, b3]
  rcases zwi_run a1 t (by omega) with e | ⟨e, i, hi, rfl⟩
  · rw [e, if_pos rfl, if_pos rfl]; exact zret _ h
  rw [e, if_neg z10, if_neg z10]
  obtain ⟨q, q1, q2, len, dep, l1, l2, l3, l4, l5, l6, l7, _⟩ := b5 i hi
  have ei : (64 : Int32) + 2 * nI i = nI (64 + 2 * i) := by rw [show (64 : Int32) = nI 64 from rfl, show (2 : Int32) = nI 2 from rfl, pk_mul, nI_add]
  have ed : (1000 * key i + len) / 1000 = key i := by omega
  rcases zwi_lit a2 0 1 (by omega) (by omega) with e2 | ⟨e2, j, _, hj, rfl⟩
  · rw [show zwi a2 0 1 = 0 from e2, if_pos rfl, if_pos rfl]; exact zret _ h
  rw [show zwi (nI j) 0 1 = 1 from e2, if_neg z10, if_neg z10, zldRn (i := i) (by omega) (by omega), zbd_s, q1, ei]
  show ∃ r c1 m1, (if nI j = 0 then _ else _) = _ ∧ _
  by_cases ej : nI j = 0
  · rw [if_pos ej, if_pos ej, zgrd_h _ q2, zld (i := 64 + 2 * i) (by omega) (by omega), zbd_s, l6, show (1000 : Int32) = nI 1000 from rfl, zdivN (by omega) (by decide) (by decide), zbd_s, ed, l5]
    exact zret _ h
  · rw [if_neg ej, if_neg ej, zgrd_h _ q2, nI_1, show 64 + 2 * i + 1 = 65 + 2 * i by omega, zld (i := 65 + 2 * i) (by omega) (by omega), zbd_s, l7]
    exact zret _ h
